theorem dX0_init_0 : decode cX0_init 0 = .ok (.aload_n 0, 1) := by decide +kernel
theorem dX0_init_1 : decode cX0_init 1 = .ok (.invokespecial 3, 3) := by decide +kernel
theorem dX0_init_4 : decode cX0_init 4 = .ok (.aload_n 0, 1) := by decide +kernel
theorem dX0_init_5 : decode cX0_init 5 = .ok (.bipush 10, 2) := by decide +kernel
theorem dX0_init_7 : decode cX0_init 7 = .ok (.newarray .boolean, 2) := by decide +kernel
theorem dX0_init_9 : decode cX0_init 9 = .ok (.putfield 9, 3) := by decide +kernel
theorem dX0_init_12 : decode cX0_init 12 = .ok (.aload_n 0, 1) := by decide +kernel
theorem dX0_init_13 : decode cX0_init 13 = .ok (.iconst 2, 1) := by decide +kernel
theorem dX0_init_14 : decode cX0_init 14 = .ok (.bipush 10, 2) := by decide +kernel
theorem dX0_init_16 : decode cX0_init 16 = .ok (.multianewarray 15 2, 4) := by decide +kernel
theorem dX0_init_20 : decode cX0_init 20 = .ok (.putfield 17, 3) := by decide +kernel
theorem dX0_init_23 : decode cX0_init 23 = .ok (.aload_n 0, 1) := by decide +kernel
theorem dX0_init_24 : decode cX0_init 24 = .ok (.iconst 2, 1) := by decide +kernel
theorem dX0_init_25 : decode cX0_init 25 = .ok (.bipush 10, 2) := by decide +kernel
theorem dX0_init_27 : decode cX0_init 27 = .ok (.multianewarray 15 2, 4) := by decide +kernel
theorem dX0_init_31 : decode cX0_init 31 = .ok (.putfield 20, 3) := by decide +kernel
theorem dX0_init_34 : decode cX0_init 34 = .ok (.return_, 1) := by decide +kernel
theorem dX0_weigh_0 : decode cX0_weigh 0 = .ok (.aload_n 0, 1) := by decide +kernel
theorem dX0_weigh_1 : decode cX0_weigh 1 = .ok (.iload_n 2, 1) := by decide +kernel
theorem dX0_weigh_2 : decode cX0_weigh 2 = .ok (.bipush 10, 2) := by decide +kernel
theorem dX0_weigh_4 : decode cX0_weigh 4 = .ok (.invokestatic 23, 3) := by decide +kernel
theorem dX0_weigh_7 : decode cX0_weigh 7 = .ok (.putfield 29, 3) := by decide +kernel
theorem dX0_weigh_10 : decode cX0_weigh 10 = .ok (.aload_n 0, 1) := by decide +kernel
theorem dX0_weigh_11 : decode cX0_weigh 11 = .ok (.iload_n 3, 1) := by decide +kernel
theorem dX0_weigh_12 : decode cX0_weigh 12 = .ok (.putfield 33, 3) := by decide +kernel
theorem dX0_weigh_15 : decode cX0_weigh 15 = .ok (.iconst 0, 1) := by decide +kernel
theorem dX0_weigh_16 : decode cX0_weigh 16 = .ok (.istore 4, 2) := by decide +kernel
theorem dX0_weigh_18 : decode cX0_weigh 18 = .ok (.iload 4, 2) := by decide +kernel
theorem dX0_weigh_20 : decode cX0_weigh 20 = .ok (.aload_n 0, 1) := by decide +kernel
theorem dX0_weigh_21 : decode cX0_weigh 21 = .ok (.getfield 29, 3) := by decide +kernel
theorem dX0_weigh_24 : decode cX0_weigh 24 = .ok (.if_icmp .ge 30, 3) := by decide +kernel
theorem dX0_weigh_27 : decode cX0_weigh 27 = .ok (.aload_n 0, 1) := by decide +kernel
theorem dX0_weigh_28 : decode cX0_weigh 28 = .ok (.getfield 9, 3) := by decide +kernel
theorem dX0_weigh_31 : decode cX0_weigh 31 = .ok (.iload 4, 2) := by decide +kernel
theorem dX0_weigh_33 : decode cX0_weigh 33 = .ok (.aload_n 1, 1) := by decide +kernel
theorem dX0_weigh_34 : decode cX0_weigh 34 = .ok (.getfield 36, 3) := by decide +kernel
theorem dX0_weigh_37 : decode cX0_weigh 37 = .ok (.iload 4, 2) := by decide +kernel
theorem dX0_weigh_39 : decode cX0_weigh 39 = .ok (.iadd, 1) := by decide +kernel
theorem dX0_weigh_40 : decode cX0_weigh 40 = .ok (.aload_n 1, 1) := by decide +kernel
theorem dX0_weigh_41 : decode cX0_weigh 41 = .ok (.getfield 41, 3) := by decide +kernel
theorem dX0_weigh_44 : decode cX0_weigh 44 = .ok (.invokestatic 44, 3) := by decide +kernel
theorem dX0_weigh_47 : decode cX0_weigh 47 = .ok (.bastore, 1) := by decide +kernel
theorem dX0_weigh_48 : decode cX0_weigh 48 = .ok (.iinc 4 1, 3) := by decide +kernel
theorem dX0_weigh_51 : decode cX0_weigh 51 = .ok (.goto (-33), 3) := by decide +kernel
theorem dX0_weigh_54 : decode cX0_weigh 54 = .ok (.return_, 1) := by decide +kernel
theorem dX0_waysToOutlast_0 : decode cX0_waysToOutlast 0 = .ok (.iconst 0, 1) := by decide +kernel
theorem dX0_waysToOutlast_1 : decode cX0_waysToOutlast 1 = .ok (.istore_n 3, 1) := by decide +kernel
theorem dX0_waysToOutlast_2 : decode cX0_waysToOutlast 2 = .ok (.iload_n 3, 1) := by decide +kernel
theorem dX0_waysToOutlast_3 : decode cX0_waysToOutlast 3 = .ok (.aload_n 0, 1) := by decide +kernel
theorem dX0_waysToOutlast_4 : decode cX0_waysToOutlast 4 = .ok (.getfield 29, 3) := by decide +kernel
theorem dX0_waysToOutlast_7 : decode cX0_waysToOutlast 7 = .ok (.if_icmp .ge 85, 3) := by decide +kernel
theorem dX0_waysToOutlast_10 : decode cX0_waysToOutlast 10 = .ok (.aload_n 0, 1) := by decide +kernel
theorem dX0_waysToOutlast_11 : decode cX0_waysToOutlast 11 = .ok (.getfield 17, 3) := by decide +kernel
theorem dX0_waysToOutlast_14 : decode cX0_waysToOutlast 14 = .ok (.iconst 0, 1) := by decide +kernel
theorem dX0_waysToOutlast_15 : decode cX0_waysToOutlast 15 = .ok (.aaload, 1) := by decide +kernel
theorem dX0_waysToOutlast_16 : decode cX0_waysToOutlast 16 = .ok (.iload_n 3, 1) := by decide +kernel
theorem dX0_waysToOutlast_17 : decode cX0_waysToOutlast 17 = .ok (.aload_n 1, 1) := by decide +kernel
theorem dX0_waysToOutlast_18 : decode cX0_waysToOutlast 18 = .ok (.iconst 0, 1) := by decide +kernel
theorem dX0_waysToOutlast_19 : decode cX0_waysToOutlast 19 = .ok (.aload_n 0, 1) := by decide +kernel
theorem dX0_waysToOutlast_20 : decode cX0_waysToOutlast 20 = .ok (.getfield 9, 3) := by decide +kernel
theorem dX0_waysToOutlast_23 : decode cX0_waysToOutlast 23 = .ok (.iload_n 3, 1) := by decide +kernel
theorem dX0_waysToOutlast_24 : decode cX0_waysToOutlast 24 = .ok (.baload, 1) := by decide +kernel
theorem dX0_waysToOutlast_25 : decode cX0_waysToOutlast 25 = .ok (.invokevirtual 48, 3) := by decide +kernel
theorem dX0_waysToOutlast_28 : decode cX0_waysToOutlast 28 = .ok (.iastore, 1) := by decide +kernel
theorem dX0_waysToOutlast_29 : decode cX0_waysToOutlast 29 = .ok (.aload_n 0, 1) := by decide +kernel
theorem dX0_waysToOutlast_30 : decode cX0_waysToOutlast 30 = .ok (.getfield 17, 3) := by decide +kernel
theorem dX0_waysToOutlast_33 : decode cX0_waysToOutlast 33 = .ok (.iconst 1, 1) := by decide +kernel
theorem dX0_waysToOutlast_34 : decode cX0_waysToOutlast 34 = .ok (.aaload, 1) := by decide +kernel
theorem dX0_waysToOutlast_35 : decode cX0_waysToOutlast 35 = .ok (.iload_n 3, 1) := by decide +kernel
theorem dX0_waysToOutlast_36 : decode cX0_waysToOutlast 36 = .ok (.aload_n 1, 1) := by decide +kernel
theorem dX0_waysToOutlast_37 : decode cX0_waysToOutlast 37 = .ok (.iconst 1, 1) := by decide +kernel
theorem dX0_waysToOutlast_38 : decode cX0_waysToOutlast 38 = .ok (.aload_n 0, 1) := by decide +kernel
theorem dX0_waysToOutlast_39 : decode cX0_waysToOutlast 39 = .ok (.getfield 9, 3) := by decide +kernel
theorem dX0_waysToOutlast_42 : decode cX0_waysToOutlast 42 = .ok (.iload_n 3, 1) := by decide +kernel
theorem dX0_waysToOutlast_43 : decode cX0_waysToOutlast 43 = .ok (.baload, 1) := by decide +kernel
theorem dX0_waysToOutlast_44 : decode cX0_waysToOutlast 44 = .ok (.invokevirtual 48, 3) := by decide +kernel
theorem dX0_waysToOutlast_47 : decode cX0_waysToOutlast 47 = .ok (.iastore, 1) := by decide +kernel
theorem dX0_waysToOutlast_48 : decode cX0_waysToOutlast 48 = .ok (.aload_n 0, 1) := by decide +kernel
theorem dX0_waysToOutlast_49 : decode cX0_waysToOutlast 49 = .ok (.getfield 20, 3) := by decide +kernel
theorem dX0_waysToOutlast_52 : decode cX0_waysToOutlast 52 = .ok (.iconst 0, 1) := by decide +kernel
theorem dX0_waysToOutlast_53 : decode cX0_waysToOutlast 53 = .ok (.aaload, 1) := by decide +kernel
theorem dX0_waysToOutlast_54 : decode cX0_waysToOutlast 54 = .ok (.iload_n 3, 1) := by decide +kernel
theorem dX0_waysToOutlast_55 : decode cX0_waysToOutlast 55 = .ok (.aload_n 2, 1) := by decide +kernel
theorem dX0_waysToOutlast_56 : decode cX0_waysToOutlast 56 = .ok (.iconst 0, 1) := by decide +kernel
theorem dX0_waysToOutlast_57 : decode cX0_waysToOutlast 57 = .ok (.aload_n 0, 1) := by decide +kernel
theorem dX0_waysToOutlast_58 : decode cX0_waysToOutlast 58 = .ok (.getfield 9, 3) := by decide +kernel
theorem dX0_waysToOutlast_61 : decode cX0_waysToOutlast 61 = .ok (.iload_n 3, 1) := by decide +kernel
theorem dX0_waysToOutlast_62 : decode cX0_waysToOutlast 62 = .ok (.baload, 1) := by decide +kernel
theorem dX0_waysToOutlast_63 : decode cX0_waysToOutlast 63 = .ok (.invokevirtual 48, 3) := by decide +kernel
theorem dX0_waysToOutlast_66 : decode cX0_waysToOutlast 66 = .ok (.iastore, 1) := by decide +kernel
theorem dX0_waysToOutlast_67 : decode cX0_waysToOutlast 67 = .ok (.aload_n 0, 1) := by decide +kernel
theorem dX0_waysToOutlast_68 : decode cX0_waysToOutlast 68 = .ok (.getfield 20, 3) := by decide +kernel
theorem dX0_waysToOutlast_71 : decode cX0_waysToOutlast 71 = .ok (.iconst 1, 1) := by decide +kernel
theorem dX0_waysToOutlast_72 : decode cX0_waysToOutlast 72 = .ok (.aaload, 1) := by decide +kernel
theorem dX0_waysToOutlast_73 : decode cX0_waysToOutlast 73 = .ok (.iload_n 3, 1) := by decide +kernel
theorem dX0_waysToOutlast_74 : decode cX0_waysToOutlast 74 = .ok (.aload_n 2, 1) := by decide +kernel
theorem dX0_waysToOutlast_75 : decode cX0_waysToOutlast 75 = .ok (.iconst 1, 1) := by decide +kernel
theorem dX0_waysToOutlast_76 : decode cX0_waysToOutlast 76 = .ok (.aload_n 0, 1) := by decide +kernel
theorem dX0_waysToOutlast_77 : decode cX0_waysToOutlast 77 = .ok (.getfield 9, 3) := by decide +kernel
theorem dX0_waysToOutlast_80 : decode cX0_waysToOutlast 80 = .ok (.iload_n 3, 1) := by decide +kernel
theorem dX0_waysToOutlast_81 : decode cX0_waysToOutlast 81 = .ok (.baload, 1) := by decide +kernel
theorem dX0_waysToOutlast_82 : decode cX0_waysToOutlast 82 = .ok (.invokevirtual 48, 3) := by decide +kernel
theorem dX0_waysToOutlast_85 : decode cX0_waysToOutlast 85 = .ok (.iastore, 1) := by decide +kernel
theorem dX0_waysToOutlast_86 : decode cX0_waysToOutlast 86 = .ok (.iinc 3 1, 3) := by decide +kernel
theorem dX0_waysToOutlast_89 : decode cX0_waysToOutlast 89 = .ok (.goto (-87), 3) := by decide +kernel
theorem dX0_waysToOutlast_92 : decode cX0_waysToOutlast 92 = .ok (.aload_n 0, 1) := by decide +kernel
theorem dX0_waysToOutlast_93 : decode cX0_waysToOutlast 93 = .ok (.aload_n 1, 1) := by decide +kernel
theorem dX0_waysToOutlast_94 : decode cX0_waysToOutlast 94 = .ok (.getfield 54, 3) := by decide +kernel
theorem dX0_waysToOutlast_97 : decode cX0_waysToOutlast 97 = .ok (.putfield 57, 3) := by decide +kernel
theorem dX0_waysToOutlast_100 : decode cX0_waysToOutlast 100 = .ok (.aload_n 0, 1) := by decide +kernel
theorem dX0_waysToOutlast_101 : decode cX0_waysToOutlast 101 = .ok (.aload_n 2, 1) := by decide +kernel
theorem dX0_waysToOutlast_102 : decode cX0_waysToOutlast 102 = .ok (.getfield 54, 3) := by decide +kernel
theorem dX0_waysToOutlast_105 : decode cX0_waysToOutlast 105 = .ok (.putfield 60, 3) := by decide +kernel
theorem dX0_waysToOutlast_108 : decode cX0_waysToOutlast 108 = .ok (.aload_n 0, 1) := by decide +kernel
theorem dX0_waysToOutlast_109 : decode cX0_waysToOutlast 109 = .ok (.iconst 0, 1) := by decide +kernel
theorem dX0_waysToOutlast_110 : decode cX0_waysToOutlast 110 = .ok (.aload_n 1, 1) := by decide +kernel
theorem dX0_waysToOutlast_111 : decode cX0_waysToOutlast 111 = .ok (.getfield 63, 3) := by decide +kernel
theorem dX0_waysToOutlast_114 : decode cX0_waysToOutlast 114 = .ok (.aload_n 2, 1) := by decide +kernel
theorem dX0_waysToOutlast_115 : decode cX0_waysToOutlast 115 = .ok (.getfield 63, 3) := by decide +kernel
theorem dX0_waysToOutlast_118 : decode cX0_waysToOutlast 118 = .ok (.invokestatic 66, 3) := by decide +kernel
theorem dX0_waysToOutlast_121 : decode cX0_waysToOutlast 121 = .ok (.lreturn, 1) := by decide +kernel
theorem dX0_waysFrom_0 : decode cX0_waysFrom 0 = .ok (.iload_n 1, 1) := by decide +kernel
theorem dX0_waysFrom_1 : decode cX0_waysFrom 1 = .ok (.aload_n 0, 1) := by decide +kernel
theorem dX0_waysFrom_2 : decode cX0_waysFrom 2 = .ok (.getfield 29, 3) := by decide +kernel
theorem dX0_waysFrom_5 : decode cX0_waysFrom 5 = .ok (.if_icmp .lt 5, 3) := by decide +kernel
theorem dX0_waysFrom_8 : decode cX0_waysFrom 8 = .ok (.lconst 0, 1) := by decide +kernel
theorem dX0_waysFrom_9 : decode cX0_waysFrom 9 = .ok (.lreturn, 1) := by decide +kernel
theorem dX0_waysFrom_10 : decode cX0_waysFrom 10 = .ok (.lconst 0, 1) := by decide +kernel
theorem dX0_waysFrom_11 : decode cX0_waysFrom 11 = .ok (.lstore 4, 2) := by decide +kernel
theorem dX0_waysFrom_13 : decode cX0_waysFrom 13 = .ok (.iconst 0, 1) := by decide +kernel
theorem dX0_waysFrom_14 : decode cX0_waysFrom 14 = .ok (.istore 6, 2) := by decide +kernel
theorem dX0_waysFrom_16 : decode cX0_waysFrom 16 = .ok (.iload 6, 2) := by decide +kernel
theorem dX0_waysFrom_18 : decode cX0_waysFrom 18 = .ok (.iconst 2, 1) := by decide +kernel
theorem dX0_waysFrom_19 : decode cX0_waysFrom 19 = .ok (.if_icmp .ge 129, 3) := by decide +kernel
theorem dX0_waysFrom_22 : decode cX0_waysFrom 22 = .ok (.iload 6, 2) := by decide +kernel
theorem dX0_waysFrom_24 : decode cX0_waysFrom 24 = .ok (.iconst 1, 1) := by decide +kernel
theorem dX0_waysFrom_25 : decode cX0_waysFrom 25 = .ok (.if_icmp .ne 10, 3) := by decide +kernel
theorem dX0_waysFrom_28 : decode cX0_waysFrom 28 = .ok (.aload_n 0, 1) := by decide +kernel
theorem dX0_waysFrom_29 : decode cX0_waysFrom 29 = .ok (.getfield 33, 3) := by decide +kernel
theorem dX0_waysFrom_32 : decode cX0_waysFrom 32 = .ok (.goto 10, 3) := by decide +kernel
theorem dX0_waysFrom_35 : decode cX0_waysFrom 35 = .ok (.bipush 10, 2) := by decide +kernel
theorem dX0_waysFrom_37 : decode cX0_waysFrom 37 = .ok (.aload_n 0, 1) := by decide +kernel
theorem dX0_waysFrom_38 : decode cX0_waysFrom 38 = .ok (.getfield 33, 3) := by decide +kernel
theorem dX0_waysFrom_41 : decode cX0_waysFrom 41 = .ok (.isub, 1) := by decide +kernel
theorem dX0_waysFrom_42 : decode cX0_waysFrom 42 = .ok (.istore 7, 2) := by decide +kernel
theorem dX0_waysFrom_44 : decode cX0_waysFrom 44 = .ok (.iload_n 2, 1) := by decide +kernel
theorem dX0_waysFrom_45 : decode cX0_waysFrom 45 = .ok (.aload_n 0, 1) := by decide +kernel
theorem dX0_waysFrom_46 : decode cX0_waysFrom 46 = .ok (.getfield 17, 3) := by decide +kernel
theorem dX0_waysFrom_49 : decode cX0_waysFrom 49 = .ok (.iload 6, 2) := by decide +kernel
theorem dX0_waysFrom_51 : decode cX0_waysFrom 51 = .ok (.aaload, 1) := by decide +kernel
theorem dX0_waysFrom_52 : decode cX0_waysFrom 52 = .ok (.iload_n 1, 1) := by decide +kernel
theorem dX0_waysFrom_53 : decode cX0_waysFrom 53 = .ok (.iaload, 1) := by decide +kernel
theorem dX0_waysFrom_54 : decode cX0_waysFrom 54 = .ok (.iadd, 1) := by decide +kernel
theorem dX0_waysFrom_55 : decode cX0_waysFrom 55 = .ok (.istore 8, 2) := by decide +kernel
theorem dX0_waysFrom_57 : decode cX0_waysFrom 57 = .ok (.iload_n 3, 1) := by decide +kernel
theorem dX0_waysFrom_58 : decode cX0_waysFrom 58 = .ok (.aload_n 0, 1) := by decide +kernel
theorem dX0_waysFrom_59 : decode cX0_waysFrom 59 = .ok (.getfield 20, 3) := by decide +kernel
theorem dX0_waysFrom_62 : decode cX0_waysFrom 62 = .ok (.iload 6, 2) := by decide +kernel
theorem dX0_waysFrom_64 : decode cX0_waysFrom 64 = .ok (.aaload, 1) := by decide +kernel
theorem dX0_waysFrom_65 : decode cX0_waysFrom 65 = .ok (.iload_n 1, 1) := by decide +kernel
theorem dX0_waysFrom_66 : decode cX0_waysFrom 66 = .ok (.iaload, 1) := by decide +kernel
theorem dX0_waysFrom_67 : decode cX0_waysFrom 67 = .ok (.iadd, 1) := by decide +kernel
theorem dX0_waysFrom_68 : decode cX0_waysFrom 68 = .ok (.istore 9, 2) := by decide +kernel
theorem dX0_waysFrom_70 : decode cX0_waysFrom 70 = .ok (.iload 7, 2) := by decide +kernel
theorem dX0_waysFrom_72 : decode cX0_waysFrom 72 = .ok (.ifCond .eq 70, 3) := by decide +kernel
theorem dX0_waysFrom_75 : decode cX0_waysFrom 75 = .ok (.iload 8, 2) := by decide +kernel
theorem dX0_waysFrom_77 : decode cX0_waysFrom 77 = .ok (.aload_n 0, 1) := by decide +kernel
theorem dX0_waysFrom_78 : decode cX0_waysFrom 78 = .ok (.getfield 57, 3) := by decide +kernel
theorem dX0_waysFrom_81 : decode cX0_waysFrom 81 = .ok (.if_icmp .lt 6, 3) := by decide +kernel
theorem dX0_waysFrom_84 : decode cX0_waysFrom 84 = .ok (.goto 58, 3) := by decide +kernel
theorem dX0_waysFrom_87 : decode cX0_waysFrom 87 = .ok (.iload 9, 2) := by decide +kernel
theorem dX0_waysFrom_89 : decode cX0_waysFrom 89 = .ok (.aload_n 0, 1) := by decide +kernel
theorem dX0_waysFrom_90 : decode cX0_waysFrom 90 = .ok (.getfield 60, 3) := by decide +kernel
theorem dX0_waysFrom_93 : decode cX0_waysFrom 93 = .ok (.if_icmp .lt 7, 3) := by decide +kernel
theorem dX0_waysFrom_96 : decode cX0_waysFrom 96 = .ok (.iconst 1, 1) := by decide +kernel
theorem dX0_waysFrom_97 : decode cX0_waysFrom 97 = .ok (.goto 4, 3) := by decide +kernel
theorem dX0_waysFrom_100 : decode cX0_waysFrom 100 = .ok (.iconst 0, 1) := by decide +kernel
theorem dX0_waysFrom_101 : decode cX0_waysFrom 101 = .ok (.istore 10, 2) := by decide +kernel
theorem dX0_waysFrom_103 : decode cX0_waysFrom 103 = .ok (.lload 4, 2) := by decide +kernel
theorem dX0_waysFrom_105 : decode cX0_waysFrom 105 = .ok (.iload 7, 2) := by decide +kernel
theorem dX0_waysFrom_107 : decode cX0_waysFrom 107 = .ok (.i2l, 1) := by decide +kernel
theorem dX0_waysFrom_108 : decode cX0_waysFrom 108 = .ok (.iload 10, 2) := by decide +kernel
theorem dX0_waysFrom_110 : decode cX0_waysFrom 110 = .ok (.ifCond .eq 17, 3) := by decide +kernel
theorem dX0_waysFrom_113 : decode cX0_waysFrom 113 = .ok (.aload_n 0, 1) := by decide +kernel
theorem dX0_waysFrom_114 : decode cX0_waysFrom 114 = .ok (.getfield 29, 3) := by decide +kernel
theorem dX0_waysFrom_117 : decode cX0_waysFrom 117 = .ok (.iload_n 1, 1) := by decide +kernel
theorem dX0_waysFrom_118 : decode cX0_waysFrom 118 = .ok (.isub, 1) := by decide +kernel
theorem dX0_waysFrom_119 : decode cX0_waysFrom 119 = .ok (.iconst 1, 1) := by decide +kernel
theorem dX0_waysFrom_120 : decode cX0_waysFrom 120 = .ok (.isub, 1) := by decide +kernel
theorem dX0_waysFrom_121 : decode cX0_waysFrom 121 = .ok (.invokestatic 70, 3) := by decide +kernel
theorem dX0_waysFrom_124 : decode cX0_waysFrom 124 = .ok (.goto 14, 3) := by decide +kernel
theorem dX0_waysFrom_127 : decode cX0_waysFrom 127 = .ok (.aload_n 0, 1) := by decide +kernel
theorem dX0_waysFrom_128 : decode cX0_waysFrom 128 = .ok (.iload_n 1, 1) := by decide +kernel
theorem dX0_waysFrom_129 : decode cX0_waysFrom 129 = .ok (.iconst 1, 1) := by decide +kernel
theorem dX0_waysFrom_130 : decode cX0_waysFrom 130 = .ok (.iadd, 1) := by decide +kernel
theorem dX0_waysFrom_131 : decode cX0_waysFrom 131 = .ok (.iload 8, 2) := by decide +kernel
theorem dX0_waysFrom_133 : decode cX0_waysFrom 133 = .ok (.iload 9, 2) := by decide +kernel
theorem dX0_waysFrom_135 : decode cX0_waysFrom 135 = .ok (.invokestatic 66, 3) := by decide +kernel
theorem dX0_waysFrom_138 : decode cX0_waysFrom 138 = .ok (.lmul, 1) := by decide +kernel
theorem dX0_waysFrom_139 : decode cX0_waysFrom 139 = .ok (.ladd, 1) := by decide +kernel
theorem dX0_waysFrom_140 : decode cX0_waysFrom 140 = .ok (.lstore 4, 2) := by decide +kernel
theorem dX0_waysFrom_142 : decode cX0_waysFrom 142 = .ok (.iinc 6 1, 3) := by decide +kernel
theorem dX0_waysFrom_145 : decode cX0_waysFrom 145 = .ok (.goto (-129), 3) := by decide +kernel
theorem dX0_waysFrom_148 : decode cX0_waysFrom 148 = .ok (.lload 4, 2) := by decide +kernel
theorem dX0_waysFrom_150 : decode cX0_waysFrom 150 = .ok (.lreturn, 1) := by decide +kernel
theorem dX0_tensTo_0 : decode cX0_tensTo 0 = .ok (.lconst 1, 1) := by decide +kernel
theorem dX0_tensTo_1 : decode cX0_tensTo 1 = .ok (.lstore_n 1, 1) := by decide +kernel
theorem dX0_tensTo_2 : decode cX0_tensTo 2 = .ok (.iconst 0, 1) := by decide +kernel
theorem dX0_tensTo_3 : decode cX0_tensTo 3 = .ok (.istore_n 3, 1) := by decide +kernel
theorem dX0_tensTo_4 : decode cX0_tensTo 4 = .ok (.iload_n 3, 1) := by decide +kernel
theorem dX0_tensTo_5 : decode cX0_tensTo 5 = .ok (.iload_n 0, 1) := by decide +kernel
theorem dX0_tensTo_6 : decode cX0_tensTo 6 = .ok (.if_icmp .ge 15, 3) := by decide +kernel
theorem dX0_tensTo_9 : decode cX0_tensTo 9 = .ok (.lload_n 1, 1) := by decide +kernel
theorem dX0_tensTo_10 : decode cX0_tensTo 10 = .ok (.ldc2_w 74, 3) := by decide +kernel
theorem dX0_tensTo_13 : decode cX0_tensTo 13 = .ok (.lmul, 1) := by decide +kernel
theorem dX0_tensTo_14 : decode cX0_tensTo 14 = .ok (.lstore_n 1, 1) := by decide +kernel
theorem dX0_tensTo_15 : decode cX0_tensTo 15 = .ok (.iinc 3 1, 3) := by decide +kernel
theorem dX0_tensTo_18 : decode cX0_tensTo 18 = .ok (.goto (-14), 3) := by decide +kernel
theorem dX0_tensTo_21 : decode cX0_tensTo 21 = .ok (.lload_n 1, 1) := by decide +kernel
theorem dX0_tensTo_22 : decode cX0_tensTo 22 = .ok (.lreturn, 1) := by decide +kernel
theorem dX0_lowest_0 : decode cX0_lowest 0 = .ok (.lload_n 1, 1) := by decide +kernel
theorem dX0_lowest_1 : decode cX0_lowest 1 = .ok (.lstore 4, 2) := by decide +kernel
theorem dX0_lowest_3 : decode cX0_lowest 3 = .ok (.aload_n 0, 1) := by decide +kernel
theorem dX0_lowest_4 : decode cX0_lowest 4 = .ok (.getfield 29, 3) := by decide +kernel
theorem dX0_lowest_7 : decode cX0_lowest 7 = .ok (.invokestatic 70, 3) := by decide +kernel
theorem dX0_lowest_10 : decode cX0_lowest 10 = .ok (.lstore 6, 2) := by decide +kernel
theorem dX0_lowest_12 : decode cX0_lowest 12 = .ok (.iconst 0, 1) := by decide +kernel
theorem dX0_lowest_13 : decode cX0_lowest 13 = .ok (.istore 8, 2) := by decide +kernel
theorem dX0_lowest_15 : decode cX0_lowest 15 = .ok (.iload 8, 2) := by decide +kernel
theorem dX0_lowest_17 : decode cX0_lowest 17 = .ok (.aload_n 0, 1) := by decide +kernel
theorem dX0_lowest_18 : decode cX0_lowest 18 = .ok (.getfield 29, 3) := by decide +kernel
theorem dX0_lowest_21 : decode cX0_lowest 21 = .ok (.if_icmp .ge 85, 3) := by decide +kernel
theorem dX0_lowest_24 : decode cX0_lowest 24 = .ok (.lload 4, 2) := by decide +kernel
theorem dX0_lowest_26 : decode cX0_lowest 26 = .ok (.ldc2_w 76, 3) := by decide +kernel
theorem dX0_lowest_29 : decode cX0_lowest 29 = .ok (.lrem, 1) := by decide +kernel
theorem dX0_lowest_30 : decode cX0_lowest 30 = .ok (.lconst 0, 1) := by decide +kernel
theorem dX0_lowest_31 : decode cX0_lowest 31 = .ok (.lcmp, 1) := by decide +kernel
theorem dX0_lowest_32 : decode cX0_lowest 32 = .ok (.ifCond .ne 30, 3) := by decide +kernel
theorem dX0_lowest_35 : decode cX0_lowest 35 = .ok (.lload 6, 2) := by decide +kernel
theorem dX0_lowest_37 : decode cX0_lowest 37 = .ok (.ldc2_w 76, 3) := by decide +kernel
theorem dX0_lowest_40 : decode cX0_lowest 40 = .ok (.lrem, 1) := by decide +kernel
theorem dX0_lowest_41 : decode cX0_lowest 41 = .ok (.lconst 0, 1) := by decide +kernel
theorem dX0_lowest_42 : decode cX0_lowest 42 = .ok (.lcmp, 1) := by decide +kernel
theorem dX0_lowest_43 : decode cX0_lowest 43 = .ok (.ifCond .ne 19, 3) := by decide +kernel
theorem dX0_lowest_46 : decode cX0_lowest 46 = .ok (.lload 4, 2) := by decide +kernel
theorem dX0_lowest_48 : decode cX0_lowest 48 = .ok (.ldc2_w 76, 3) := by decide +kernel
theorem dX0_lowest_51 : decode cX0_lowest 51 = .ok (.ldiv, 1) := by decide +kernel
theorem dX0_lowest_52 : decode cX0_lowest 52 = .ok (.lstore 4, 2) := by decide +kernel
theorem dX0_lowest_54 : decode cX0_lowest 54 = .ok (.lload 6, 2) := by decide +kernel
theorem dX0_lowest_56 : decode cX0_lowest 56 = .ok (.ldc2_w 76, 3) := by decide +kernel
theorem dX0_lowest_59 : decode cX0_lowest 59 = .ok (.ldiv, 1) := by decide +kernel
theorem dX0_lowest_60 : decode cX0_lowest 60 = .ok (.lstore 6, 2) := by decide +kernel
theorem dX0_lowest_62 : decode cX0_lowest 62 = .ok (.lload 4, 2) := by decide +kernel
theorem dX0_lowest_64 : decode cX0_lowest 64 = .ok (.ldc2_w 78, 3) := by decide +kernel
theorem dX0_lowest_67 : decode cX0_lowest 67 = .ok (.lrem, 1) := by decide +kernel
theorem dX0_lowest_68 : decode cX0_lowest 68 = .ok (.lconst 0, 1) := by decide +kernel
theorem dX0_lowest_69 : decode cX0_lowest 69 = .ok (.lcmp, 1) := by decide +kernel
theorem dX0_lowest_70 : decode cX0_lowest 70 = .ok (.ifCond .ne 30, 3) := by decide +kernel
theorem dX0_lowest_73 : decode cX0_lowest 73 = .ok (.lload 6, 2) := by decide +kernel
theorem dX0_lowest_75 : decode cX0_lowest 75 = .ok (.ldc2_w 78, 3) := by decide +kernel
theorem dX0_lowest_78 : decode cX0_lowest 78 = .ok (.lrem, 1) := by decide +kernel
theorem dX0_lowest_79 : decode cX0_lowest 79 = .ok (.lconst 0, 1) := by decide +kernel
theorem dX0_lowest_80 : decode cX0_lowest 80 = .ok (.lcmp, 1) := by decide +kernel
theorem dX0_lowest_81 : decode cX0_lowest 81 = .ok (.ifCond .ne 19, 3) := by decide +kernel
theorem dX0_lowest_84 : decode cX0_lowest 84 = .ok (.lload 4, 2) := by decide +kernel
theorem dX0_lowest_86 : decode cX0_lowest 86 = .ok (.ldc2_w 78, 3) := by decide +kernel
theorem dX0_lowest_89 : decode cX0_lowest 89 = .ok (.ldiv, 1) := by decide +kernel
theorem dX0_lowest_90 : decode cX0_lowest 90 = .ok (.lstore 4, 2) := by decide +kernel
theorem dX0_lowest_92 : decode cX0_lowest 92 = .ok (.lload 6, 2) := by decide +kernel
theorem dX0_lowest_94 : decode cX0_lowest 94 = .ok (.ldc2_w 78, 3) := by decide +kernel
theorem dX0_lowest_97 : decode cX0_lowest 97 = .ok (.ldiv, 1) := by decide +kernel
theorem dX0_lowest_98 : decode cX0_lowest 98 = .ok (.lstore 6, 2) := by decide +kernel
theorem dX0_lowest_100 : decode cX0_lowest 100 = .ok (.iinc 8 1, 3) := by decide +kernel
theorem dX0_lowest_103 : decode cX0_lowest 103 = .ok (.goto (-88), 3) := by decide +kernel
theorem dX0_lowest_106 : decode cX0_lowest 106 = .ok (.iload_n 3, 1) := by decide +kernel
theorem dX0_lowest_107 : decode cX0_lowest 107 = .ok (.ifCond .ne 8, 3) := by decide +kernel
theorem dX0_lowest_110 : decode cX0_lowest 110 = .ok (.lload 4, 2) := by decide +kernel
theorem dX0_lowest_112 : decode cX0_lowest 112 = .ok (.goto 5, 3) := by decide +kernel
theorem dX0_lowest_115 : decode cX0_lowest 115 = .ok (.lload 6, 2) := by decide +kernel
theorem dX0_lowest_117 : decode cX0_lowest 117 = .ok (.lreturn, 1) := by decide +kernel
theorem dX1_init_0 : decode cX1_init 0 = .ok (.aload_n 0, 1) := by decide +kernel
theorem dX1_init_1 : decode cX1_init 1 = .ok (.invokespecial 3, 3) := by decide +kernel
theorem dX1_init_4 : decode cX1_init 4 = .ok (.aload_n 0, 1) := by decide +kernel
theorem dX1_init_5 : decode cX1_init 5 = .ok (.bipush 60, 2) := by decide +kernel
theorem dX1_init_7 : decode cX1_init 7 = .ok (.newarray .int, 2) := by decide +kernel
theorem dX1_init_9 : decode cX1_init 9 = .ok (.putfield 9, 3) := by decide +kernel
theorem dX1_init_12 : decode cX1_init 12 = .ok (.aload_n 0, 1) := by decide +kernel
theorem dX1_init_13 : decode cX1_init 13 = .ok (.bipush 60, 2) := by decide +kernel
theorem dX1_init_15 : decode cX1_init 15 = .ok (.newarray .boolean, 2) := by decide +kernel
theorem dX1_init_17 : decode cX1_init 17 = .ok (.putfield 15, 3) := by decide +kernel
theorem dX1_init_20 : decode cX1_init 20 = .ok (.aload_n 0, 1) := by decide +kernel
theorem dX1_init_21 : decode cX1_init 21 = .ok (.iconst 4, 1) := by decide +kernel
theorem dX1_init_22 : decode cX1_init 22 = .ok (.newarray .int, 2) := by decide +kernel
theorem dX1_init_24 : decode cX1_init 24 = .ok (.putfield 19, 3) := by decide +kernel
theorem dX1_init_27 : decode cX1_init 27 = .ok (.aload_n 0, 1) := by decide +kernel
theorem dX1_init_28 : decode cX1_init 28 = .ok (.new 22, 3) := by decide +kernel
theorem dX1_init_31 : decode cX1_init 31 = .ok (.dup, 1) := by decide +kernel
theorem dX1_init_32 : decode cX1_init 32 = .ok (.invokespecial 24, 3) := by decide +kernel
theorem dX1_init_35 : decode cX1_init 35 = .ok (.putfield 25, 3) := by decide +kernel
theorem dX1_init_38 : decode cX1_init 38 = .ok (.return_, 1) := by decide +kernel
theorem dX1_look_0 : decode cX1_look 0 = .ok (.aload_n 1, 1) := by decide +kernel
theorem dX1_look_1 : decode cX1_look 1 = .ok (.getfield 29, 3) := by decide +kernel
theorem dX1_look_4 : decode cX1_look 4 = .ok (.istore_n 2, 1) := by decide +kernel
theorem dX1_look_5 : decode cX1_look 5 = .ok (.iconst 0, 1) := by decide +kernel
theorem dX1_look_6 : decode cX1_look 6 = .ok (.istore_n 3, 1) := by decide +kernel
theorem dX1_look_7 : decode cX1_look 7 = .ok (.iload_n 3, 1) := by decide +kernel
theorem dX1_look_8 : decode cX1_look 8 = .ok (.bipush 60, 2) := by decide +kernel
theorem dX1_look_10 : decode cX1_look 10 = .ok (.if_icmp .ge 23, 3) := by decide +kernel
theorem dX1_look_13 : decode cX1_look 13 = .ok (.iload_n 2, 1) := by decide +kernel
theorem dX1_look_14 : decode cX1_look 14 = .ok (.invokestatic 35, 3) := by decide +kernel
theorem dX1_look_17 : decode cX1_look 17 = .ok (.istore_n 2, 1) := by decide +kernel
theorem dX1_look_18 : decode cX1_look 18 = .ok (.aload_n 0, 1) := by decide +kernel
theorem dX1_look_19 : decode cX1_look 19 = .ok (.getfield 9, 3) := by decide +kernel
theorem dX1_look_22 : decode cX1_look 22 = .ok (.iload_n 3, 1) := by decide +kernel
theorem dX1_look_23 : decode cX1_look 23 = .ok (.iload_n 2, 1) := by decide +kernel
theorem dX1_look_24 : decode cX1_look 24 = .ok (.iconst 3, 1) := by decide +kernel
theorem dX1_look_25 : decode cX1_look 25 = .ok (.irem, 1) := by decide +kernel
theorem dX1_look_26 : decode cX1_look 26 = .ok (.iastore, 1) := by decide +kernel
theorem dX1_look_27 : decode cX1_look 27 = .ok (.iinc 3 1, 3) := by decide +kernel
theorem dX1_look_30 : decode cX1_look 30 = .ok (.goto (-23), 3) := by decide +kernel
theorem dX1_look_33 : decode cX1_look 33 = .ok (.aload_n 0, 1) := by decide +kernel
theorem dX1_look_34 : decode cX1_look 34 = .ok (.aload_n 1, 1) := by decide +kernel
theorem dX1_look_35 : decode cX1_look 35 = .ok (.getfield 39, 3) := by decide +kernel
theorem dX1_look_38 : decode cX1_look 38 = .ok (.aload_n 1, 1) := by decide +kernel
theorem dX1_look_39 : decode cX1_look 39 = .ok (.getfield 42, 3) := by decide +kernel
theorem dX1_look_42 : decode cX1_look 42 = .ok (.invokevirtual 45, 3) := by decide +kernel
theorem dX1_look_45 : decode cX1_look 45 = .ok (.return_, 1) := by decide +kernel
theorem dX1_setNights_0 : decode cX1_setNights 0 = .ok (.iconst 0, 1) := by decide +kernel
theorem dX1_setNights_1 : decode cX1_setNights 1 = .ok (.istore_n 3, 1) := by decide +kernel
theorem dX1_setNights_2 : decode cX1_setNights 2 = .ok (.iload_n 3, 1) := by decide +kernel
theorem dX1_setNights_3 : decode cX1_setNights 3 = .ok (.bipush 60, 2) := by decide +kernel
theorem dX1_setNights_5 : decode cX1_setNights 5 = .ok (.if_icmp .ge 22, 3) := by decide +kernel
theorem dX1_setNights_8 : decode cX1_setNights 8 = .ok (.aload_n 0, 1) := by decide +kernel
theorem dX1_setNights_9 : decode cX1_setNights 9 = .ok (.getfield 15, 3) := by decide +kernel
theorem dX1_setNights_12 : decode cX1_setNights 12 = .ok (.iload_n 3, 1) := by decide +kernel
theorem dX1_setNights_13 : decode cX1_setNights 13 = .ok (.iload_n 1, 1) := by decide +kernel
theorem dX1_setNights_14 : decode cX1_setNights 14 = .ok (.iload_n 3, 1) := by decide +kernel
theorem dX1_setNights_15 : decode cX1_setNights 15 = .ok (.iadd, 1) := by decide +kernel
theorem dX1_setNights_16 : decode cX1_setNights 16 = .ok (.iload_n 2, 1) := by decide +kernel
theorem dX1_setNights_17 : decode cX1_setNights 17 = .ok (.invokestatic 49, 3) := by decide +kernel
theorem dX1_setNights_20 : decode cX1_setNights 20 = .ok (.bastore, 1) := by decide +kernel
theorem dX1_setNights_21 : decode cX1_setNights 21 = .ok (.iinc 3 1, 3) := by decide +kernel
theorem dX1_setNights_24 : decode cX1_setNights 24 = .ok (.goto (-22), 3) := by decide +kernel
theorem dX1_setNights_27 : decode cX1_setNights 27 = .ok (.return_, 1) := by decide +kernel
theorem dX1_pass_0 : decode cX1_pass 0 = .ok (.iload_n 1, 1) := by decide +kernel
theorem dX1_pass_1 : decode cX1_pass 1 = .ok (.iconst 0, 1) := by decide +kernel
theorem dX1_pass_2 : decode cX1_pass 2 = .ok (.bipush 59, 2) := by decide +kernel
theorem dX1_pass_4 : decode cX1_pass 4 = .ok (.invokestatic 53, 3) := by decide +kernel
theorem dX1_pass_7 : decode cX1_pass 7 = .ok (.ifCond .ne 4, 3) := by decide +kernel
theorem dX1_pass_10 : decode cX1_pass 10 = .ok (.return_, 1) := by decide +kernel
theorem dX1_pass_11 : decode cX1_pass 11 = .ok (.iload_n 2, 1) := by decide +kernel
theorem dX1_pass_12 : decode cX1_pass 12 = .ok (.ifCond .eq 10, 3) := by decide +kernel
theorem dX1_pass_15 : decode cX1_pass 15 = .ok (.aload_n 0, 1) := by decide +kernel
theorem dX1_pass_16 : decode cX1_pass 16 = .ok (.getfield 25, 3) := by decide +kernel
theorem dX1_pass_19 : decode cX1_pass 19 = .ok (.invokevirtual 57, 3) := by decide +kernel
theorem dX1_pass_22 : decode cX1_pass 22 = .ok (.aload_n 0, 1) := by decide +kernel
theorem dX1_pass_23 : decode cX1_pass 23 = .ok (.getfield 25, 3) := by decide +kernel
theorem dX1_pass_26 : decode cX1_pass 26 = .ok (.aload_n 0, 1) := by decide +kernel
theorem dX1_pass_27 : decode cX1_pass 27 = .ok (.getfield 9, 3) := by decide +kernel
theorem dX1_pass_30 : decode cX1_pass 30 = .ok (.iload_n 1, 1) := by decide +kernel
theorem dX1_pass_31 : decode cX1_pass 31 = .ok (.iaload, 1) := by decide +kernel
theorem dX1_pass_32 : decode cX1_pass 32 = .ok (.aload_n 0, 1) := by decide +kernel
theorem dX1_pass_33 : decode cX1_pass 33 = .ok (.getfield 15, 3) := by decide +kernel
theorem dX1_pass_36 : decode cX1_pass 36 = .ok (.iload_n 1, 1) := by decide +kernel
theorem dX1_pass_37 : decode cX1_pass 37 = .ok (.baload, 1) := by decide +kernel
theorem dX1_pass_38 : decode cX1_pass 38 = .ok (.iload_n 1, 1) := by decide +kernel
theorem dX1_pass_39 : decode cX1_pass 39 = .ok (.invokevirtual 60, 3) := by decide +kernel
theorem dX1_pass_42 : decode cX1_pass 42 = .ok (.return_, 1) := by decide +kernel
theorem dX1_isMeal_0 : decode cX1_isMeal 0 = .ok (.iload_n 0, 1) := by decide +kernel
theorem dX1_isMeal_1 : decode cX1_isMeal 1 = .ok (.bipush 8, 2) := by decide +kernel
theorem dX1_isMeal_3 : decode cX1_isMeal 3 = .ok (.if_icmp .ge 16, 3) := by decide +kernel
theorem dX1_isMeal_6 : decode cX1_isMeal 6 = .ok (.iload_n 1, 1) := by decide +kernel
theorem dX1_isMeal_7 : decode cX1_isMeal 7 = .ok (.iload_n 0, 1) := by decide +kernel
theorem dX1_isMeal_8 : decode cX1_isMeal 8 = .ok (.ishr, 1) := by decide +kernel
theorem dX1_isMeal_9 : decode cX1_isMeal 9 = .ok (.iconst 1, 1) := by decide +kernel
theorem dX1_isMeal_10 : decode cX1_isMeal 10 = .ok (.iand, 1) := by decide +kernel
theorem dX1_isMeal_11 : decode cX1_isMeal 11 = .ok (.iconst 1, 1) := by decide +kernel
theorem dX1_isMeal_12 : decode cX1_isMeal 12 = .ok (.if_icmp .ne 7, 3) := by decide +kernel
theorem dX1_isMeal_15 : decode cX1_isMeal 15 = .ok (.iconst 1, 1) := by decide +kernel
theorem dX1_isMeal_16 : decode cX1_isMeal 16 = .ok (.goto 4, 3) := by decide +kernel
theorem dX1_isMeal_19 : decode cX1_isMeal 19 = .ok (.iconst 0, 1) := by decide +kernel
theorem dX1_isMeal_20 : decode cX1_isMeal 20 = .ok (.ireturn, 1) := by decide +kernel
theorem dX1_strainBehind_0 : decode cX1_strainBehind 0 = .ok (.aload_n 0, 1) := by decide +kernel
theorem dX1_strainBehind_1 : decode cX1_strainBehind 1 = .ok (.getfield 25, 3) := by decide +kernel
theorem dX1_strainBehind_4 : decode cX1_strainBehind 4 = .ok (.aload_n 1, 1) := by decide +kernel
theorem dX1_strainBehind_5 : decode cX1_strainBehind 5 = .ok (.invokevirtual 64, 3) := by decide +kernel
theorem dX1_strainBehind_8 : decode cX1_strainBehind 8 = .ok (.iconst 0, 1) := by decide +kernel
theorem dX1_strainBehind_9 : decode cX1_strainBehind 9 = .ok (.istore_n 3, 1) := by decide +kernel
theorem dX1_strainBehind_10 : decode cX1_strainBehind 10 = .ok (.iload_n 3, 1) := by decide +kernel
theorem dX1_strainBehind_11 : decode cX1_strainBehind 11 = .ok (.iload_n 2, 1) := by decide +kernel
theorem dX1_strainBehind_12 : decode cX1_strainBehind 12 = .ok (.if_icmp .ge 15, 3) := by decide +kernel
theorem dX1_strainBehind_15 : decode cX1_strainBehind 15 = .ok (.aload_n 0, 1) := by decide +kernel
theorem dX1_strainBehind_16 : decode cX1_strainBehind 16 = .ok (.iload_n 3, 1) := by decide +kernel
theorem dX1_strainBehind_17 : decode cX1_strainBehind 17 = .ok (.iconst 0, 1) := by decide +kernel
theorem dX1_strainBehind_18 : decode cX1_strainBehind 18 = .ok (.invokevirtual 68, 3) := by decide +kernel
theorem dX1_strainBehind_21 : decode cX1_strainBehind 21 = .ok (.iinc 3 1, 3) := by decide +kernel
theorem dX1_strainBehind_24 : decode cX1_strainBehind 24 = .ok (.goto (-14), 3) := by decide +kernel
theorem dX1_strainBehind_27 : decode cX1_strainBehind 27 = .ok (.aload_n 0, 1) := by decide +kernel
theorem dX1_strainBehind_28 : decode cX1_strainBehind 28 = .ok (.getfield 25, 3) := by decide +kernel
theorem dX1_strainBehind_31 : decode cX1_strainBehind 31 = .ok (.getfield 72, 3) := by decide +kernel
theorem dX1_strainBehind_34 : decode cX1_strainBehind 34 = .ok (.ireturn, 1) := by decide +kernel
theorem dX1_filmOnto_0 : decode cX1_filmOnto 0 = .ok (.aload_n 0, 1) := by decide +kernel
theorem dX1_filmOnto_1 : decode cX1_filmOnto 1 = .ok (.getfield 25, 3) := by decide +kernel
theorem dX1_filmOnto_4 : decode cX1_filmOnto 4 = .ok (.aload_n 3, 1) := by decide +kernel
theorem dX1_filmOnto_5 : decode cX1_filmOnto 5 = .ok (.invokevirtual 64, 3) := by decide +kernel
theorem dX1_filmOnto_8 : decode cX1_filmOnto 8 = .ok (.iconst 0, 1) := by decide +kernel
theorem dX1_filmOnto_9 : decode cX1_filmOnto 9 = .ok (.istore 5, 2) := by decide +kernel
theorem dX1_filmOnto_11 : decode cX1_filmOnto 11 = .ok (.iload 5, 2) := by decide +kernel
theorem dX1_filmOnto_13 : decode cX1_filmOnto 13 = .ok (.iload 4, 2) := by decide +kernel
theorem dX1_filmOnto_15 : decode cX1_filmOnto 15 = .ok (.if_icmp .ge 32, 3) := by decide +kernel
theorem dX1_filmOnto_18 : decode cX1_filmOnto 18 = .ok (.aload_n 0, 1) := by decide +kernel
theorem dX1_filmOnto_19 : decode cX1_filmOnto 19 = .ok (.iload 5, 2) := by decide +kernel
theorem dX1_filmOnto_21 : decode cX1_filmOnto 21 = .ok (.iconst 0, 1) := by decide +kernel
theorem dX1_filmOnto_22 : decode cX1_filmOnto 22 = .ok (.invokevirtual 68, 3) := by decide +kernel
theorem dX1_filmOnto_25 : decode cX1_filmOnto 25 = .ok (.aload_n 1, 1) := by decide +kernel
theorem dX1_filmOnto_26 : decode cX1_filmOnto 26 = .ok (.iload_n 2, 1) := by decide +kernel
theorem dX1_filmOnto_27 : decode cX1_filmOnto 27 = .ok (.iload 5, 2) := by decide +kernel
theorem dX1_filmOnto_29 : decode cX1_filmOnto 29 = .ok (.iadd, 1) := by decide +kernel
theorem dX1_filmOnto_30 : decode cX1_filmOnto 30 = .ok (.aload_n 0, 1) := by decide +kernel
theorem dX1_filmOnto_31 : decode cX1_filmOnto 31 = .ok (.getfield 25, 3) := by decide +kernel
theorem dX1_filmOnto_34 : decode cX1_filmOnto 34 = .ok (.getfield 72, 3) := by decide +kernel
theorem dX1_filmOnto_37 : decode cX1_filmOnto 37 = .ok (.i2l, 1) := by decide +kernel
theorem dX1_filmOnto_38 : decode cX1_filmOnto 38 = .ok (.invokevirtual 75, 3) := by decide +kernel
theorem dX1_filmOnto_41 : decode cX1_filmOnto 41 = .ok (.iinc 5 1, 3) := by decide +kernel
theorem dX1_filmOnto_44 : decode cX1_filmOnto 44 = .ok (.goto (-33), 3) := by decide +kernel
theorem dX1_filmOnto_47 : decode cX1_filmOnto 47 = .ok (.return_, 1) := by decide +kernel
theorem dX1_sittingBehind_0 : decode cX1_sittingBehind 0 = .ok (.iconst 0, 1) := by decide +kernel
theorem dX1_sittingBehind_1 : decode cX1_sittingBehind 1 = .ok (.istore_n 3, 1) := by decide +kernel
theorem dX1_sittingBehind_2 : decode cX1_sittingBehind 2 = .ok (.iconst 0, 1) := by decide +kernel
theorem dX1_sittingBehind_3 : decode cX1_sittingBehind 3 = .ok (.istore 4, 2) := by decide +kernel
theorem dX1_sittingBehind_5 : decode cX1_sittingBehind 5 = .ok (.iload 4, 2) := by decide +kernel
theorem dX1_sittingBehind_7 : decode cX1_sittingBehind 7 = .ok (.aload_n 1, 1) := by decide +kernel
theorem dX1_sittingBehind_8 : decode cX1_sittingBehind 8 = .ok (.getfield 81, 3) := by decide +kernel
theorem dX1_sittingBehind_11 : decode cX1_sittingBehind 11 = .ok (.if_icmp .ge 35, 3) := by decide +kernel
theorem dX1_sittingBehind_14 : decode cX1_sittingBehind 14 = .ok (.aload_n 0, 1) := by decide +kernel
theorem dX1_sittingBehind_15 : decode cX1_sittingBehind 15 = .ok (.aload_n 1, 1) := by decide +kernel
theorem dX1_sittingBehind_16 : decode cX1_sittingBehind 16 = .ok (.getfield 84, 3) := by decide +kernel
theorem dX1_sittingBehind_19 : decode cX1_sittingBehind 19 = .ok (.iload 4, 2) := by decide +kernel
theorem dX1_sittingBehind_21 : decode cX1_sittingBehind 21 = .ok (.aaload, 1) := by decide +kernel
theorem dX1_sittingBehind_22 : decode cX1_sittingBehind 22 = .ok (.iload_n 2, 1) := by decide +kernel
theorem dX1_sittingBehind_23 : decode cX1_sittingBehind 23 = .ok (.invokevirtual 88, 3) := by decide +kernel
theorem dX1_sittingBehind_26 : decode cX1_sittingBehind 26 = .ok (.pop, 1) := by decide +kernel
theorem dX1_sittingBehind_27 : decode cX1_sittingBehind 27 = .ok (.aload_n 0, 1) := by decide +kernel
theorem dX1_sittingBehind_28 : decode cX1_sittingBehind 28 = .ok (.getfield 25, 3) := by decide +kernel
theorem dX1_sittingBehind_31 : decode cX1_sittingBehind 31 = .ok (.invokevirtual 92, 3) := by decide +kernel
theorem dX1_sittingBehind_34 : decode cX1_sittingBehind 34 = .ok (.ifCond .eq 6, 3) := by decide +kernel
theorem dX1_sittingBehind_37 : decode cX1_sittingBehind 37 = .ok (.iinc 3 1, 3) := by decide +kernel
theorem dX1_sittingBehind_40 : decode cX1_sittingBehind 40 = .ok (.iinc 4 1, 3) := by decide +kernel
theorem dX1_sittingBehind_43 : decode cX1_sittingBehind 43 = .ok (.goto (-38), 3) := by decide +kernel
theorem dX1_sittingBehind_46 : decode cX1_sittingBehind 46 = .ok (.iload_n 3, 1) := by decide +kernel
theorem dX1_sittingBehind_47 : decode cX1_sittingBehind 47 = .ok (.ireturn, 1) := by decide +kernel
theorem dX1_hoursSat_0 : decode cX1_hoursSat 0 = .ok (.aload_n 0, 1) := by decide +kernel
theorem dX1_hoursSat_1 : decode cX1_hoursSat 1 = .ok (.getfield 25, 3) := by decide +kernel
theorem dX1_hoursSat_4 : decode cX1_hoursSat 4 = .ok (.aload_n 1, 1) := by decide +kernel
theorem dX1_hoursSat_5 : decode cX1_hoursSat 5 = .ok (.invokevirtual 64, 3) := by decide +kernel
theorem dX1_hoursSat_8 : decode cX1_hoursSat 8 = .ok (.iconst 0, 1) := by decide +kernel
theorem dX1_hoursSat_9 : decode cX1_hoursSat 9 = .ok (.istore 4, 2) := by decide +kernel
theorem dX1_hoursSat_11 : decode cX1_hoursSat 11 = .ok (.iload 4, 2) := by decide +kernel
theorem dX1_hoursSat_13 : decode cX1_hoursSat 13 = .ok (.iload_n 2, 1) := by decide +kernel
theorem dX1_hoursSat_14 : decode cX1_hoursSat 14 = .ok (.if_icmp .ge 31, 3) := by decide +kernel
theorem dX1_hoursSat_17 : decode cX1_hoursSat 17 = .ok (.aload_n 0, 1) := by decide +kernel
theorem dX1_hoursSat_18 : decode cX1_hoursSat 18 = .ok (.getfield 25, 3) := by decide +kernel
theorem dX1_hoursSat_21 : decode cX1_hoursSat 21 = .ok (.invokevirtual 92, 3) := by decide +kernel
theorem dX1_hoursSat_24 : decode cX1_hoursSat 24 = .ok (.ifCond .eq 21, 3) := by decide +kernel
theorem dX1_hoursSat_27 : decode cX1_hoursSat 27 = .ok (.aload_n 0, 1) := by decide +kernel
theorem dX1_hoursSat_28 : decode cX1_hoursSat 28 = .ok (.iload 4, 2) := by decide +kernel
theorem dX1_hoursSat_30 : decode cX1_hoursSat 30 = .ok (.iload 4, 2) := by decide +kernel
theorem dX1_hoursSat_32 : decode cX1_hoursSat 32 = .ok (.iload_n 3, 1) := by decide +kernel
theorem dX1_hoursSat_33 : decode cX1_hoursSat 33 = .ok (.invokestatic 96, 3) := by decide +kernel
theorem dX1_hoursSat_36 : decode cX1_hoursSat 36 = .ok (.invokevirtual 68, 3) := by decide +kernel
theorem dX1_hoursSat_39 : decode cX1_hoursSat 39 = .ok (.iinc 4 1, 3) := by decide +kernel
theorem dX1_hoursSat_42 : decode cX1_hoursSat 42 = .ok (.goto (-31), 3) := by decide +kernel
theorem dX1_hoursSat_45 : decode cX1_hoursSat 45 = .ok (.aload_n 0, 1) := by decide +kernel
theorem dX1_hoursSat_46 : decode cX1_hoursSat 46 = .ok (.getfield 25, 3) := by decide +kernel
theorem dX1_hoursSat_49 : decode cX1_hoursSat 49 = .ok (.invokevirtual 92, 3) := by decide +kernel
theorem dX1_hoursSat_52 : decode cX1_hoursSat 52 = .ok (.ifCond .eq 7, 3) := by decide +kernel
theorem dX1_hoursSat_55 : decode cX1_hoursSat 55 = .ok (.iload_n 2, 1) := by decide +kernel
theorem dX1_hoursSat_56 : decode cX1_hoursSat 56 = .ok (.goto 10, 3) := by decide +kernel
theorem dX1_hoursSat_59 : decode cX1_hoursSat 59 = .ok (.aload_n 0, 1) := by decide +kernel
theorem dX1_hoursSat_60 : decode cX1_hoursSat 60 = .ok (.getfield 25, 3) := by decide +kernel
theorem dX1_hoursSat_63 : decode cX1_hoursSat 63 = .ok (.getfield 99, 3) := by decide +kernel
theorem dX1_hoursSat_66 : decode cX1_hoursSat 66 = .ok (.ireturn, 1) := by decide +kernel
theorem dX1_outlasts_0 : decode cX1_outlasts 0 = .ok (.aload_n 0, 1) := by decide +kernel
theorem dX1_outlasts_1 : decode cX1_outlasts 1 = .ok (.aload_n 1, 1) := by decide +kernel
theorem dX1_outlasts_2 : decode cX1_outlasts 2 = .ok (.bipush 60, 2) := by decide +kernel
theorem dX1_outlasts_4 : decode cX1_outlasts 4 = .ok (.iconst 0, 1) := by decide +kernel
theorem dX1_outlasts_5 : decode cX1_outlasts 5 = .ok (.invokevirtual 102, 3) := by decide +kernel
theorem dX1_outlasts_8 : decode cX1_outlasts 8 = .ok (.aload_n 0, 1) := by decide +kernel
theorem dX1_outlasts_9 : decode cX1_outlasts 9 = .ok (.aload_n 2, 1) := by decide +kernel
theorem dX1_outlasts_10 : decode cX1_outlasts 10 = .ok (.bipush 60, 2) := by decide +kernel
theorem dX1_outlasts_12 : decode cX1_outlasts 12 = .ok (.iconst 0, 1) := by decide +kernel
theorem dX1_outlasts_13 : decode cX1_outlasts 13 = .ok (.invokevirtual 102, 3) := by decide +kernel
theorem dX1_outlasts_16 : decode cX1_outlasts 16 = .ok (.invokestatic 106, 3) := by decide +kernel
theorem dX1_outlasts_19 : decode cX1_outlasts 19 = .ok (.ireturn, 1) := by decide +kernel
theorem dX1_bestMeals_0 : decode cX1_bestMeals 0 = .ok (.iconst 0, 1) := by decide +kernel
theorem dX1_bestMeals_1 : decode cX1_bestMeals 1 = .ok (.istore_n 3, 1) := by decide +kernel
theorem dX1_bestMeals_2 : decode cX1_bestMeals 2 = .ok (.aload_n 0, 1) := by decide +kernel
theorem dX1_bestMeals_3 : decode cX1_bestMeals 3 = .ok (.aload_n 1, 1) := by decide +kernel
theorem dX1_bestMeals_4 : decode cX1_bestMeals 4 = .ok (.iload_n 2, 1) := by decide +kernel
theorem dX1_bestMeals_5 : decode cX1_bestMeals 5 = .ok (.iconst 0, 1) := by decide +kernel
theorem dX1_bestMeals_6 : decode cX1_bestMeals 6 = .ok (.invokevirtual 102, 3) := by decide +kernel
theorem dX1_bestMeals_9 : decode cX1_bestMeals 9 = .ok (.istore 4, 2) := by decide +kernel
theorem dX1_bestMeals_11 : decode cX1_bestMeals 11 = .ok (.iconst 1, 1) := by decide +kernel
theorem dX1_bestMeals_12 : decode cX1_bestMeals 12 = .ok (.istore 5, 2) := by decide +kernel
theorem dX1_bestMeals_14 : decode cX1_bestMeals 14 = .ok (.iload 5, 2) := by decide +kernel
theorem dX1_bestMeals_16 : decode cX1_bestMeals 16 = .ok (.iconst 1, 1) := by decide +kernel
theorem dX1_bestMeals_17 : decode cX1_bestMeals 17 = .ok (.iload_n 2, 1) := by decide +kernel
theorem dX1_bestMeals_18 : decode cX1_bestMeals 18 = .ok (.ishl, 1) := by decide +kernel
theorem dX1_bestMeals_19 : decode cX1_bestMeals 19 = .ok (.if_icmp .ge 79, 3) := by decide +kernel
theorem dX1_bestMeals_22 : decode cX1_bestMeals 22 = .ok (.iload 5, 2) := by decide +kernel
theorem dX1_bestMeals_24 : decode cX1_bestMeals 24 = .ok (.invokestatic 112, 3) := by decide +kernel
theorem dX1_bestMeals_27 : decode cX1_bestMeals 27 = .ok (.aload_n 1, 1) := by decide +kernel
theorem dX1_bestMeals_28 : decode cX1_bestMeals 28 = .ok (.getfield 115, 3) := by decide +kernel
theorem dX1_bestMeals_31 : decode cX1_bestMeals 31 = .ok (.if_icmp .le 6, 3) := by decide +kernel
theorem dX1_bestMeals_34 : decode cX1_bestMeals 34 = .ok (.goto 58, 3) := by decide +kernel
theorem dX1_bestMeals_37 : decode cX1_bestMeals 37 = .ok (.aload_n 0, 1) := by decide +kernel
theorem dX1_bestMeals_38 : decode cX1_bestMeals 38 = .ok (.aload_n 1, 1) := by decide +kernel
theorem dX1_bestMeals_39 : decode cX1_bestMeals 39 = .ok (.iload_n 2, 1) := by decide +kernel
theorem dX1_bestMeals_40 : decode cX1_bestMeals 40 = .ok (.iload 5, 2) := by decide +kernel
theorem dX1_bestMeals_42 : decode cX1_bestMeals 42 = .ok (.invokevirtual 102, 3) := by decide +kernel
theorem dX1_bestMeals_45 : decode cX1_bestMeals 45 = .ok (.istore 6, 2) := by decide +kernel
theorem dX1_bestMeals_47 : decode cX1_bestMeals 47 = .ok (.iload 5, 2) := by decide +kernel
theorem dX1_bestMeals_49 : decode cX1_bestMeals 49 = .ok (.invokestatic 112, 3) := by decide +kernel
theorem dX1_bestMeals_52 : decode cX1_bestMeals 52 = .ok (.iload_n 3, 1) := by decide +kernel
theorem dX1_bestMeals_53 : decode cX1_bestMeals 53 = .ok (.invokestatic 112, 3) := by decide +kernel
theorem dX1_bestMeals_56 : decode cX1_bestMeals 56 = .ok (.if_icmp .ge 7, 3) := by decide +kernel
theorem dX1_bestMeals_59 : decode cX1_bestMeals 59 = .ok (.iconst 1, 1) := by decide +kernel
theorem dX1_bestMeals_60 : decode cX1_bestMeals 60 = .ok (.goto 4, 3) := by decide +kernel
theorem dX1_bestMeals_63 : decode cX1_bestMeals 63 = .ok (.iconst 0, 1) := by decide +kernel
theorem dX1_bestMeals_64 : decode cX1_bestMeals 64 = .ok (.istore 7, 2) := by decide +kernel
theorem dX1_bestMeals_66 : decode cX1_bestMeals 66 = .ok (.iload 6, 2) := by decide +kernel
theorem dX1_bestMeals_68 : decode cX1_bestMeals 68 = .ok (.iload 4, 2) := by decide +kernel
theorem dX1_bestMeals_70 : decode cX1_bestMeals 70 = .ok (.if_icmp .gt 15, 3) := by decide +kernel
theorem dX1_bestMeals_73 : decode cX1_bestMeals 73 = .ok (.iload 6, 2) := by decide +kernel
theorem dX1_bestMeals_75 : decode cX1_bestMeals 75 = .ok (.iload 4, 2) := by decide +kernel
theorem dX1_bestMeals_77 : decode cX1_bestMeals 77 = .ok (.if_icmp .ne 15, 3) := by decide +kernel
theorem dX1_bestMeals_80 : decode cX1_bestMeals 80 = .ok (.iload 7, 2) := by decide +kernel
theorem dX1_bestMeals_82 : decode cX1_bestMeals 82 = .ok (.ifCond .eq 10, 3) := by decide +kernel
theorem dX1_bestMeals_85 : decode cX1_bestMeals 85 = .ok (.iload 6, 2) := by decide +kernel
theorem dX1_bestMeals_87 : decode cX1_bestMeals 87 = .ok (.istore 4, 2) := by decide +kernel
theorem dX1_bestMeals_89 : decode cX1_bestMeals 89 = .ok (.iload 5, 2) := by decide +kernel
theorem dX1_bestMeals_91 : decode cX1_bestMeals 91 = .ok (.istore_n 3, 1) := by decide +kernel
theorem dX1_bestMeals_92 : decode cX1_bestMeals 92 = .ok (.iinc 5 1, 3) := by decide +kernel
theorem dX1_bestMeals_95 : decode cX1_bestMeals 95 = .ok (.goto (-81), 3) := by decide +kernel
theorem dX1_bestMeals_98 : decode cX1_bestMeals 98 = .ok (.iload_n 3, 1) := by decide +kernel
theorem dX1_bestMeals_99 : decode cX1_bestMeals 99 = .ok (.ireturn, 1) := by decide +kernel
theorem dX1_findMeals_0 : decode cX1_findMeals 0 = .ok (.aload_n 0, 1) := by decide +kernel
theorem dX1_findMeals_1 : decode cX1_findMeals 1 = .ok (.iconst 0, 1) := by decide +kernel
theorem dX1_findMeals_2 : decode cX1_findMeals 2 = .ok (.putfield 118, 3) := by decide +kernel
theorem dX1_findMeals_5 : decode cX1_findMeals 5 = .ok (.aload_n 0, 1) := by decide +kernel
theorem dX1_findMeals_6 : decode cX1_findMeals 6 = .ok (.bipush (-4), 2) := by decide +kernel
theorem dX1_findMeals_8 : decode cX1_findMeals 8 = .ok (.putfield 121, 3) := by decide +kernel
theorem dX1_findMeals_11 : decode cX1_findMeals 11 = .ok (.iconst 0, 1) := by decide +kernel
theorem dX1_findMeals_12 : decode cX1_findMeals 12 = .ok (.istore 5, 2) := by decide +kernel
theorem dX1_findMeals_14 : decode cX1_findMeals 14 = .ok (.iload 5, 2) := by decide +kernel
theorem dX1_findMeals_16 : decode cX1_findMeals 16 = .ok (.iconst 1, 1) := by decide +kernel
theorem dX1_findMeals_17 : decode cX1_findMeals 17 = .ok (.iload 4, 2) := by decide +kernel
theorem dX1_findMeals_19 : decode cX1_findMeals 19 = .ok (.ishl, 1) := by decide +kernel
theorem dX1_findMeals_20 : decode cX1_findMeals 20 = .ok (.if_icmp .ge 61, 3) := by decide +kernel
theorem dX1_findMeals_23 : decode cX1_findMeals 23 = .ok (.iload 5, 2) := by decide +kernel
theorem dX1_findMeals_25 : decode cX1_findMeals 25 = .ok (.invokestatic 112, 3) := by decide +kernel
theorem dX1_findMeals_28 : decode cX1_findMeals 28 = .ok (.aload_n 1, 1) := by decide +kernel
theorem dX1_findMeals_29 : decode cX1_findMeals 29 = .ok (.getfield 115, 3) := by decide +kernel
theorem dX1_findMeals_32 : decode cX1_findMeals 32 = .ok (.if_icmp .gt 43, 3) := by decide +kernel
theorem dX1_findMeals_35 : decode cX1_findMeals 35 = .ok (.aload_n 0, 1) := by decide +kernel
theorem dX1_findMeals_36 : decode cX1_findMeals 36 = .ok (.aload_n 1, 1) := by decide +kernel
theorem dX1_findMeals_37 : decode cX1_findMeals 37 = .ok (.iload 5, 2) := by decide +kernel
theorem dX1_findMeals_39 : decode cX1_findMeals 39 = .ok (.aload_n 2, 1) := by decide +kernel
theorem dX1_findMeals_40 : decode cX1_findMeals 40 = .ok (.iload_n 3, 1) := by decide +kernel
theorem dX1_findMeals_41 : decode cX1_findMeals 41 = .ok (.iload 4, 2) := by decide +kernel
theorem dX1_findMeals_43 : decode cX1_findMeals 43 = .ok (.invokevirtual 124, 3) := by decide +kernel
theorem dX1_findMeals_46 : decode cX1_findMeals 46 = .ok (.ifCond .ne 6, 3) := by decide +kernel
theorem dX1_findMeals_49 : decode cX1_findMeals 49 = .ok (.goto 26, 3) := by decide +kernel
theorem dX1_findMeals_52 : decode cX1_findMeals 52 = .ok (.aload_n 0, 1) := by decide +kernel
theorem dX1_findMeals_53 : decode cX1_findMeals 53 = .ok (.getfield 118, 3) := by decide +kernel
theorem dX1_findMeals_56 : decode cX1_findMeals 56 = .ok (.ifCond .ne 9, 3) := by decide +kernel
theorem dX1_findMeals_59 : decode cX1_findMeals 59 = .ok (.aload_n 0, 1) := by decide +kernel
theorem dX1_findMeals_60 : decode cX1_findMeals 60 = .ok (.iload 5, 2) := by decide +kernel
theorem dX1_findMeals_62 : decode cX1_findMeals 62 = .ok (.putfield 121, 3) := by decide +kernel
theorem dX1_findMeals_65 : decode cX1_findMeals 65 = .ok (.aload_n 0, 1) := by decide +kernel
theorem dX1_findMeals_66 : decode cX1_findMeals 66 = .ok (.dup, 1) := by decide +kernel
theorem dX1_findMeals_67 : decode cX1_findMeals 67 = .ok (.getfield 118, 3) := by decide +kernel
theorem dX1_findMeals_70 : decode cX1_findMeals 70 = .ok (.iconst 1, 1) := by decide +kernel
theorem dX1_findMeals_71 : decode cX1_findMeals 71 = .ok (.iadd, 1) := by decide +kernel
theorem dX1_findMeals_72 : decode cX1_findMeals 72 = .ok (.putfield 118, 3) := by decide +kernel
theorem dX1_findMeals_75 : decode cX1_findMeals 75 = .ok (.iinc 5 1, 3) := by decide +kernel
theorem dX1_findMeals_78 : decode cX1_findMeals 78 = .ok (.goto (-64), 3) := by decide +kernel
theorem dX1_findMeals_81 : decode cX1_findMeals 81 = .ok (.return_, 1) := by decide +kernel
theorem dX1_wouldShow_0 : decode cX1_wouldShow 0 = .ok (.aload_n 3, 1) := by decide +kernel
theorem dX1_wouldShow_1 : decode cX1_wouldShow 1 = .ok (.iload 4, 2) := by decide +kernel
theorem dX1_wouldShow_3 : decode cX1_wouldShow 3 = .ok (.iload 5, 2) := by decide +kernel
theorem dX1_wouldShow_5 : decode cX1_wouldShow 5 = .ok (.invokevirtual 128, 3) := by decide +kernel
theorem dX1_wouldShow_8 : decode cX1_wouldShow 8 = .ok (.ifCond .ne 5, 3) := by decide +kernel
theorem dX1_wouldShow_11 : decode cX1_wouldShow 11 = .ok (.iconst 0, 1) := by decide +kernel
theorem dX1_wouldShow_12 : decode cX1_wouldShow 12 = .ok (.ireturn, 1) := by decide +kernel
theorem dX1_wouldShow_13 : decode cX1_wouldShow 13 = .ok (.aload_n 0, 1) := by decide +kernel
theorem dX1_wouldShow_14 : decode cX1_wouldShow 14 = .ok (.getfield 25, 3) := by decide +kernel
theorem dX1_wouldShow_17 : decode cX1_wouldShow 17 = .ok (.aload_n 1, 1) := by decide +kernel
theorem dX1_wouldShow_18 : decode cX1_wouldShow 18 = .ok (.invokevirtual 64, 3) := by decide +kernel
theorem dX1_wouldShow_21 : decode cX1_wouldShow 21 = .ok (.iconst 0, 1) := by decide +kernel
theorem dX1_wouldShow_22 : decode cX1_wouldShow 22 = .ok (.istore 6, 2) := by decide +kernel
theorem dX1_wouldShow_24 : decode cX1_wouldShow 24 = .ok (.iload 6, 2) := by decide +kernel
theorem dX1_wouldShow_26 : decode cX1_wouldShow 26 = .ok (.iload 5, 2) := by decide +kernel
theorem dX1_wouldShow_28 : decode cX1_wouldShow 28 = .ok (.if_icmp .ge 45, 3) := by decide +kernel
theorem dX1_wouldShow_31 : decode cX1_wouldShow 31 = .ok (.aload_n 0, 1) := by decide +kernel
theorem dX1_wouldShow_32 : decode cX1_wouldShow 32 = .ok (.iload 6, 2) := by decide +kernel
theorem dX1_wouldShow_34 : decode cX1_wouldShow 34 = .ok (.iload 6, 2) := by decide +kernel
theorem dX1_wouldShow_36 : decode cX1_wouldShow 36 = .ok (.iload_n 2, 1) := by decide +kernel
theorem dX1_wouldShow_37 : decode cX1_wouldShow 37 = .ok (.invokestatic 96, 3) := by decide +kernel
theorem dX1_wouldShow_40 : decode cX1_wouldShow 40 = .ok (.invokevirtual 68, 3) := by decide +kernel
theorem dX1_wouldShow_43 : decode cX1_wouldShow 43 = .ok (.aload_n 3, 1) := by decide +kernel
theorem dX1_wouldShow_44 : decode cX1_wouldShow 44 = .ok (.getfield 131, 3) := by decide +kernel
theorem dX1_wouldShow_47 : decode cX1_wouldShow 47 = .ok (.iload 4, 2) := by decide +kernel
theorem dX1_wouldShow_49 : decode cX1_wouldShow 49 = .ok (.iload 6, 2) := by decide +kernel
theorem dX1_wouldShow_51 : decode cX1_wouldShow 51 = .ok (.iadd, 1) := by decide +kernel
theorem dX1_wouldShow_52 : decode cX1_wouldShow 52 = .ok (.laload, 1) := by decide +kernel
theorem dX1_wouldShow_53 : decode cX1_wouldShow 53 = .ok (.aload_n 0, 1) := by decide +kernel
theorem dX1_wouldShow_54 : decode cX1_wouldShow 54 = .ok (.getfield 25, 3) := by decide +kernel
theorem dX1_wouldShow_57 : decode cX1_wouldShow 57 = .ok (.getfield 72, 3) := by decide +kernel
theorem dX1_wouldShow_60 : decode cX1_wouldShow 60 = .ok (.i2l, 1) := by decide +kernel
theorem dX1_wouldShow_61 : decode cX1_wouldShow 61 = .ok (.lcmp, 1) := by decide +kernel
theorem dX1_wouldShow_62 : decode cX1_wouldShow 62 = .ok (.ifCond .eq 5, 3) := by decide +kernel
theorem dX1_wouldShow_65 : decode cX1_wouldShow 65 = .ok (.iconst 0, 1) := by decide +kernel
theorem dX1_wouldShow_66 : decode cX1_wouldShow 66 = .ok (.ireturn, 1) := by decide +kernel
theorem dX1_wouldShow_67 : decode cX1_wouldShow 67 = .ok (.iinc 6 1, 3) := by decide +kernel
theorem dX1_wouldShow_70 : decode cX1_wouldShow 70 = .ok (.goto (-46), 3) := by decide +kernel
theorem dX1_wouldShow_73 : decode cX1_wouldShow 73 = .ok (.iconst 1, 1) := by decide +kernel
theorem dX1_wouldShow_74 : decode cX1_wouldShow 74 = .ok (.ireturn, 1) := by decide +kernel
theorem dX1_findTraining_0 : decode cX1_findTraining 0 = .ok (.iconst 0, 1) := by decide +kernel
theorem dX1_findTraining_1 : decode cX1_findTraining 1 = .ok (.istore_n 3, 1) := by decide +kernel
theorem dX1_findTraining_2 : decode cX1_findTraining 2 = .ok (.bipush 20, 2) := by decide +kernel
theorem dX1_findTraining_4 : decode cX1_findTraining 4 = .ok (.bipush 99, 2) := by decide +kernel
theorem dX1_findTraining_6 : decode cX1_findTraining 6 = .ok (.aload_n 1, 1) := by decide +kernel
theorem dX1_findTraining_7 : decode cX1_findTraining 7 = .ok (.getfield 135, 3) := by decide +kernel
theorem dX1_findTraining_10 : decode cX1_findTraining 10 = .ok (.isub, 1) := by decide +kernel
theorem dX1_findTraining_11 : decode cX1_findTraining 11 = .ok (.invokestatic 138, 3) := by decide +kernel
theorem dX1_findTraining_14 : decode cX1_findTraining 14 = .ok (.istore 4, 2) := by decide +kernel
theorem dX1_findTraining_16 : decode cX1_findTraining 16 = .ok (.iconst 0, 1) := by decide +kernel
theorem dX1_findTraining_17 : decode cX1_findTraining 17 = .ok (.istore 5, 2) := by decide +kernel
theorem dX1_findTraining_19 : decode cX1_findTraining 19 = .ok (.iload 5, 2) := by decide +kernel
theorem dX1_findTraining_21 : decode cX1_findTraining 21 = .ok (.aload_n 1, 1) := by decide +kernel
theorem dX1_findTraining_22 : decode cX1_findTraining 22 = .ok (.getfield 143, 3) := by decide +kernel
theorem dX1_findTraining_25 : decode cX1_findTraining 25 = .ok (.if_icmp .gt 113, 3) := by decide +kernel
theorem dX1_findTraining_28 : decode cX1_findTraining 28 = .ok (.iconst 0, 1) := by decide +kernel
theorem dX1_findTraining_29 : decode cX1_findTraining 29 = .ok (.istore 6, 2) := by decide +kernel
theorem dX1_findTraining_31 : decode cX1_findTraining 31 = .ok (.iload 6, 2) := by decide +kernel
theorem dX1_findTraining_33 : decode cX1_findTraining 33 = .ok (.aload_n 1, 1) := by decide +kernel
theorem dX1_findTraining_34 : decode cX1_findTraining 34 = .ok (.getfield 146, 3) := by decide +kernel
theorem dX1_findTraining_37 : decode cX1_findTraining 37 = .ok (.if_icmp .gt 95, 3) := by decide +kernel
theorem dX1_findTraining_40 : decode cX1_findTraining 40 = .ok (.aload_n 0, 1) := by decide +kernel
theorem dX1_findTraining_41 : decode cX1_findTraining 41 = .ok (.aload_n 1, 1) := by decide +kernel
theorem dX1_findTraining_42 : decode cX1_findTraining 42 = .ok (.iload_n 2, 1) := by decide +kernel
theorem dX1_findTraining_43 : decode cX1_findTraining 43 = .ok (.iload 5, 2) := by decide +kernel
theorem dX1_findTraining_45 : decode cX1_findTraining 45 = .ok (.iload 6, 2) := by decide +kernel
theorem dX1_findTraining_47 : decode cX1_findTraining 47 = .ok (.invokevirtual 149, 3) := by decide +kernel
theorem dX1_findTraining_50 : decode cX1_findTraining 50 = .ok (.istore 7, 2) := by decide +kernel
theorem dX1_findTraining_52 : decode cX1_findTraining 52 = .ok (.iconst 2, 1) := by decide +kernel
theorem dX1_findTraining_53 : decode cX1_findTraining 53 = .ok (.iload 7, 2) := by decide +kernel
theorem dX1_findTraining_55 : decode cX1_findTraining 55 = .ok (.imul, 1) := by decide +kernel
theorem dX1_findTraining_56 : decode cX1_findTraining 56 = .ok (.iconst 5, 1) := by decide +kernel
theorem dX1_findTraining_57 : decode cX1_findTraining 57 = .ok (.iload 5, 2) := by decide +kernel
theorem dX1_findTraining_59 : decode cX1_findTraining 59 = .ok (.imul, 1) := by decide +kernel
theorem dX1_findTraining_60 : decode cX1_findTraining 60 = .ok (.iadd, 1) := by decide +kernel
theorem dX1_findTraining_61 : decode cX1_findTraining 61 = .ok (.iconst 3, 1) := by decide +kernel
theorem dX1_findTraining_62 : decode cX1_findTraining 62 = .ok (.iload 6, 2) := by decide +kernel
theorem dX1_findTraining_64 : decode cX1_findTraining 64 = .ok (.imul, 1) := by decide +kernel
theorem dX1_findTraining_65 : decode cX1_findTraining 65 = .ok (.iadd, 1) := by decide +kernel
theorem dX1_findTraining_66 : decode cX1_findTraining 66 = .ok (.istore 8, 2) := by decide +kernel
theorem dX1_findTraining_68 : decode cX1_findTraining 68 = .ok (.iload 7, 2) := by decide +kernel
theorem dX1_findTraining_70 : decode cX1_findTraining 70 = .ok (.iload 4, 2) := by decide +kernel
theorem dX1_findTraining_72 : decode cX1_findTraining 72 = .ok (.if_icmp .gt 54, 3) := by decide +kernel
theorem dX1_findTraining_75 : decode cX1_findTraining 75 = .ok (.iload_n 3, 1) := by decide +kernel
theorem dX1_findTraining_76 : decode cX1_findTraining 76 = .ok (.ifCond .eq 16, 3) := by decide +kernel
theorem dX1_findTraining_79 : decode cX1_findTraining 79 = .ok (.aload_n 0, 1) := by decide +kernel
theorem dX1_findTraining_80 : decode cX1_findTraining 80 = .ok (.iload 8, 2) := by decide +kernel
theorem dX1_findTraining_82 : decode cX1_findTraining 82 = .ok (.iload 7, 2) := by decide +kernel
theorem dX1_findTraining_84 : decode cX1_findTraining 84 = .ok (.iload 5, 2) := by decide +kernel
theorem dX1_findTraining_86 : decode cX1_findTraining 86 = .ok (.invokevirtual 153, 3) := by decide +kernel
theorem dX1_findTraining_89 : decode cX1_findTraining 89 = .ok (.ifCond .eq 37, 3) := by decide +kernel
theorem dX1_findTraining_92 : decode cX1_findTraining 92 = .ok (.iconst 1, 1) := by decide +kernel
theorem dX1_findTraining_93 : decode cX1_findTraining 93 = .ok (.istore_n 3, 1) := by decide +kernel
theorem dX1_findTraining_94 : decode cX1_findTraining 94 = .ok (.aload_n 0, 1) := by decide +kernel
theorem dX1_findTraining_95 : decode cX1_findTraining 95 = .ok (.getfield 19, 3) := by decide +kernel
theorem dX1_findTraining_98 : decode cX1_findTraining 98 = .ok (.iconst 0, 1) := by decide +kernel
theorem dX1_findTraining_99 : decode cX1_findTraining 99 = .ok (.iload 8, 2) := by decide +kernel
theorem dX1_findTraining_101 : decode cX1_findTraining 101 = .ok (.iastore, 1) := by decide +kernel
theorem dX1_findTraining_102 : decode cX1_findTraining 102 = .ok (.aload_n 0, 1) := by decide +kernel
theorem dX1_findTraining_103 : decode cX1_findTraining 103 = .ok (.getfield 19, 3) := by decide +kernel
theorem dX1_findTraining_106 : decode cX1_findTraining 106 = .ok (.iconst 1, 1) := by decide +kernel
theorem dX1_findTraining_107 : decode cX1_findTraining 107 = .ok (.iload 7, 2) := by decide +kernel
theorem dX1_findTraining_109 : decode cX1_findTraining 109 = .ok (.iastore, 1) := by decide +kernel
theorem dX1_findTraining_110 : decode cX1_findTraining 110 = .ok (.aload_n 0, 1) := by decide +kernel
theorem dX1_findTraining_111 : decode cX1_findTraining 111 = .ok (.getfield 19, 3) := by decide +kernel
theorem dX1_findTraining_114 : decode cX1_findTraining 114 = .ok (.iconst 2, 1) := by decide +kernel
theorem dX1_findTraining_115 : decode cX1_findTraining 115 = .ok (.iload 5, 2) := by decide +kernel
theorem dX1_findTraining_117 : decode cX1_findTraining 117 = .ok (.iastore, 1) := by decide +kernel
theorem dX1_findTraining_118 : decode cX1_findTraining 118 = .ok (.aload_n 0, 1) := by decide +kernel
theorem dX1_findTraining_119 : decode cX1_findTraining 119 = .ok (.getfield 19, 3) := by decide +kernel
theorem dX1_findTraining_122 : decode cX1_findTraining 122 = .ok (.iconst 3, 1) := by decide +kernel
theorem dX1_findTraining_123 : decode cX1_findTraining 123 = .ok (.iload 6, 2) := by decide +kernel
theorem dX1_findTraining_125 : decode cX1_findTraining 125 = .ok (.iastore, 1) := by decide +kernel
theorem dX1_findTraining_126 : decode cX1_findTraining 126 = .ok (.iinc 6 1, 3) := by decide +kernel
theorem dX1_findTraining_129 : decode cX1_findTraining 129 = .ok (.goto (-98), 3) := by decide +kernel
theorem dX1_findTraining_132 : decode cX1_findTraining 132 = .ok (.iinc 5 1, 3) := by decide +kernel
theorem dX1_findTraining_135 : decode cX1_findTraining 135 = .ok (.goto (-116), 3) := by decide +kernel
theorem dX1_findTraining_138 : decode cX1_findTraining 138 = .ok (.iload_n 3, 1) := by decide +kernel
theorem dX1_findTraining_139 : decode cX1_findTraining 139 = .ok (.ireturn, 1) := by decide +kernel
theorem dX1_isBetter_0 : decode cX1_isBetter 0 = .ok (.iload_n 1, 1) := by decide +kernel
theorem dX1_isBetter_1 : decode cX1_isBetter 1 = .ok (.aload_n 0, 1) := by decide +kernel
theorem dX1_isBetter_2 : decode cX1_isBetter 2 = .ok (.getfield 19, 3) := by decide +kernel
theorem dX1_isBetter_5 : decode cX1_isBetter 5 = .ok (.iconst 0, 1) := by decide +kernel
theorem dX1_isBetter_6 : decode cX1_isBetter 6 = .ok (.iaload, 1) := by decide +kernel
theorem dX1_isBetter_7 : decode cX1_isBetter 7 = .ok (.if_icmp .eq 19, 3) := by decide +kernel
theorem dX1_isBetter_10 : decode cX1_isBetter 10 = .ok (.iload_n 1, 1) := by decide +kernel
theorem dX1_isBetter_11 : decode cX1_isBetter 11 = .ok (.aload_n 0, 1) := by decide +kernel
theorem dX1_isBetter_12 : decode cX1_isBetter 12 = .ok (.getfield 19, 3) := by decide +kernel
theorem dX1_isBetter_15 : decode cX1_isBetter 15 = .ok (.iconst 0, 1) := by decide +kernel
theorem dX1_isBetter_16 : decode cX1_isBetter 16 = .ok (.iaload, 1) := by decide +kernel
theorem dX1_isBetter_17 : decode cX1_isBetter 17 = .ok (.if_icmp .ge 7, 3) := by decide +kernel
theorem dX1_isBetter_20 : decode cX1_isBetter 20 = .ok (.iconst 1, 1) := by decide +kernel
theorem dX1_isBetter_21 : decode cX1_isBetter 21 = .ok (.goto 4, 3) := by decide +kernel
theorem dX1_isBetter_24 : decode cX1_isBetter 24 = .ok (.iconst 0, 1) := by decide +kernel
theorem dX1_isBetter_25 : decode cX1_isBetter 25 = .ok (.ireturn, 1) := by decide +kernel
theorem dX1_isBetter_26 : decode cX1_isBetter 26 = .ok (.iload_n 2, 1) := by decide +kernel
theorem dX1_isBetter_27 : decode cX1_isBetter 27 = .ok (.aload_n 0, 1) := by decide +kernel
theorem dX1_isBetter_28 : decode cX1_isBetter 28 = .ok (.getfield 19, 3) := by decide +kernel
theorem dX1_isBetter_31 : decode cX1_isBetter 31 = .ok (.iconst 1, 1) := by decide +kernel
theorem dX1_isBetter_32 : decode cX1_isBetter 32 = .ok (.iaload, 1) := by decide +kernel
theorem dX1_isBetter_33 : decode cX1_isBetter 33 = .ok (.if_icmp .eq 21, 3) := by decide +kernel
theorem dX1_isBetter_36 : decode cX1_isBetter 36 = .ok (.iload_n 2, 1) := by decide +kernel
theorem dX1_isBetter_37 : decode cX1_isBetter 37 = .ok (.aload_n 0, 1) := by decide +kernel
theorem dX1_isBetter_38 : decode cX1_isBetter 38 = .ok (.getfield 19, 3) := by decide +kernel
theorem dX1_isBetter_41 : decode cX1_isBetter 41 = .ok (.iconst 1, 1) := by decide +kernel
theorem dX1_isBetter_42 : decode cX1_isBetter 42 = .ok (.iaload, 1) := by decide +kernel
theorem dX1_isBetter_43 : decode cX1_isBetter 43 = .ok (.if_icmp .ge 7, 3) := by decide +kernel
theorem dX1_isBetter_46 : decode cX1_isBetter 46 = .ok (.iconst 1, 1) := by decide +kernel
theorem dX1_isBetter_47 : decode cX1_isBetter 47 = .ok (.goto 22, 3) := by decide +kernel
theorem dX1_isBetter_50 : decode cX1_isBetter 50 = .ok (.iconst 0, 1) := by decide +kernel
theorem dX1_isBetter_51 : decode cX1_isBetter 51 = .ok (.goto 18, 3) := by decide +kernel
theorem dX1_isBetter_54 : decode cX1_isBetter 54 = .ok (.iload_n 3, 1) := by decide +kernel
theorem dX1_isBetter_55 : decode cX1_isBetter 55 = .ok (.aload_n 0, 1) := by decide +kernel
theorem dX1_isBetter_56 : decode cX1_isBetter 56 = .ok (.getfield 19, 3) := by decide +kernel
theorem dX1_isBetter_59 : decode cX1_isBetter 59 = .ok (.iconst 2, 1) := by decide +kernel
theorem dX1_isBetter_60 : decode cX1_isBetter 60 = .ok (.iaload, 1) := by decide +kernel
theorem dX1_isBetter_61 : decode cX1_isBetter 61 = .ok (.if_icmp .ge 7, 3) := by decide +kernel
theorem dX1_isBetter_64 : decode cX1_isBetter 64 = .ok (.iconst 1, 1) := by decide +kernel
theorem dX1_isBetter_65 : decode cX1_isBetter 65 = .ok (.goto 4, 3) := by decide +kernel
theorem dX1_isBetter_68 : decode cX1_isBetter 68 = .ok (.iconst 0, 1) := by decide +kernel
theorem dX1_isBetter_69 : decode cX1_isBetter 69 = .ok (.ireturn, 1) := by decide +kernel
theorem dX1_lineToAdd_0 : decode cX1_lineToAdd 0 = .ok (.aload_n 0, 1) := by decide +kernel
theorem dX1_lineToAdd_1 : decode cX1_lineToAdd 1 = .ok (.getfield 25, 3) := by decide +kernel
theorem dX1_lineToAdd_4 : decode cX1_lineToAdd 4 = .ok (.aload_n 1, 1) := by decide +kernel
theorem dX1_lineToAdd_5 : decode cX1_lineToAdd 5 = .ok (.invokevirtual 64, 3) := by decide +kernel
theorem dX1_lineToAdd_8 : decode cX1_lineToAdd 8 = .ok (.aload_n 0, 1) := by decide +kernel
theorem dX1_lineToAdd_9 : decode cX1_lineToAdd 9 = .ok (.getfield 25, 3) := by decide +kernel
theorem dX1_lineToAdd_12 : decode cX1_lineToAdd 12 = .ok (.sipush 1000, 3) := by decide +kernel
theorem dX1_lineToAdd_15 : decode cX1_lineToAdd 15 = .ok (.putfield 135, 3) := by decide +kernel
theorem dX1_lineToAdd_18 : decode cX1_lineToAdd 18 = .ok (.aload_n 0, 1) := by decide +kernel
theorem dX1_lineToAdd_19 : decode cX1_lineToAdd 19 = .ok (.getfield 25, 3) := by decide +kernel
theorem dX1_lineToAdd_22 : decode cX1_lineToAdd 22 = .ok (.dup, 1) := by decide +kernel
theorem dX1_lineToAdd_23 : decode cX1_lineToAdd 23 = .ok (.getfield 143, 3) := by decide +kernel
theorem dX1_lineToAdd_26 : decode cX1_lineToAdd 26 = .ok (.iload_n 3, 1) := by decide +kernel
theorem dX1_lineToAdd_27 : decode cX1_lineToAdd 27 = .ok (.isub, 1) := by decide +kernel
theorem dX1_lineToAdd_28 : decode cX1_lineToAdd 28 = .ok (.putfield 143, 3) := by decide +kernel
theorem dX1_lineToAdd_31 : decode cX1_lineToAdd 31 = .ok (.aload_n 0, 1) := by decide +kernel
theorem dX1_lineToAdd_32 : decode cX1_lineToAdd 32 = .ok (.getfield 25, 3) := by decide +kernel
theorem dX1_lineToAdd_35 : decode cX1_lineToAdd 35 = .ok (.dup, 1) := by decide +kernel
theorem dX1_lineToAdd_36 : decode cX1_lineToAdd 36 = .ok (.getfield 146, 3) := by decide +kernel
theorem dX1_lineToAdd_39 : decode cX1_lineToAdd 39 = .ok (.iload 4, 2) := by decide +kernel
theorem dX1_lineToAdd_41 : decode cX1_lineToAdd 41 = .ok (.isub, 1) := by decide +kernel
theorem dX1_lineToAdd_42 : decode cX1_lineToAdd 42 = .ok (.putfield 146, 3) := by decide +kernel
theorem dX1_lineToAdd_45 : decode cX1_lineToAdd 45 = .ok (.iconst 0, 1) := by decide +kernel
theorem dX1_lineToAdd_46 : decode cX1_lineToAdd 46 = .ok (.istore 5, 2) := by decide +kernel
theorem dX1_lineToAdd_48 : decode cX1_lineToAdd 48 = .ok (.iload 5, 2) := by decide +kernel
theorem dX1_lineToAdd_50 : decode cX1_lineToAdd 50 = .ok (.iload_n 2, 1) := by decide +kernel
theorem dX1_lineToAdd_51 : decode cX1_lineToAdd 51 = .ok (.if_icmp .ge 16, 3) := by decide +kernel
theorem dX1_lineToAdd_54 : decode cX1_lineToAdd 54 = .ok (.aload_n 0, 1) := by decide +kernel
theorem dX1_lineToAdd_55 : decode cX1_lineToAdd 55 = .ok (.iload 5, 2) := by decide +kernel
theorem dX1_lineToAdd_57 : decode cX1_lineToAdd 57 = .ok (.iconst 0, 1) := by decide +kernel
theorem dX1_lineToAdd_58 : decode cX1_lineToAdd 58 = .ok (.invokevirtual 68, 3) := by decide +kernel
theorem dX1_lineToAdd_61 : decode cX1_lineToAdd 61 = .ok (.iinc 5 1, 3) := by decide +kernel
theorem dX1_lineToAdd_64 : decode cX1_lineToAdd 64 = .ok (.goto (-16), 3) := by decide +kernel
theorem dX1_lineToAdd_67 : decode cX1_lineToAdd 67 = .ok (.iconst 0, 1) := by decide +kernel
theorem dX1_lineToAdd_68 : decode cX1_lineToAdd 68 = .ok (.aload_n 0, 1) := by decide +kernel
theorem dX1_lineToAdd_69 : decode cX1_lineToAdd 69 = .ok (.getfield 25, 3) := by decide +kernel
theorem dX1_lineToAdd_72 : decode cX1_lineToAdd 72 = .ok (.getfield 72, 3) := by decide +kernel
theorem dX1_lineToAdd_75 : decode cX1_lineToAdd 75 = .ok (.iconst 1, 1) := by decide +kernel
theorem dX1_lineToAdd_76 : decode cX1_lineToAdd 76 = .ok (.iadd, 1) := by decide +kernel
theorem dX1_lineToAdd_77 : decode cX1_lineToAdd 77 = .ok (.aload_n 1, 1) := by decide +kernel
theorem dX1_lineToAdd_78 : decode cX1_lineToAdd 78 = .ok (.getfield 135, 3) := by decide +kernel
theorem dX1_lineToAdd_81 : decode cX1_lineToAdd 81 = .ok (.isub, 1) := by decide +kernel
theorem dX1_lineToAdd_82 : decode cX1_lineToAdd 82 = .ok (.invokestatic 156, 3) := by decide +kernel
theorem dX1_lineToAdd_85 : decode cX1_lineToAdd 85 = .ok (.ireturn, 1) := by decide +kernel
theorem dX2_init_0 : decode cX2_init 0 = .ok (.aload_n 0, 1) := by decide +kernel
theorem dX2_init_1 : decode cX2_init 1 = .ok (.invokespecial 3, 3) := by decide +kernel
theorem dX2_init_4 : decode cX2_init 4 = .ok (.aload_n 0, 1) := by decide +kernel
theorem dX2_init_5 : decode cX2_init 5 = .ok (.bipush 12, 2) := by decide +kernel
theorem dX2_init_7 : decode cX2_init 7 = .ok (.newarray .int, 2) := by decide +kernel
theorem dX2_init_9 : decode cX2_init 9 = .ok (.putfield 9, 3) := by decide +kernel
theorem dX2_init_12 : decode cX2_init 12 = .ok (.aload_n 0, 1) := by decide +kernel
theorem dX2_init_13 : decode cX2_init 13 = .ok (.bipush 12, 2) := by decide +kernel
theorem dX2_init_15 : decode cX2_init 15 = .ok (.newarray .int, 2) := by decide +kernel
theorem dX2_init_17 : decode cX2_init 17 = .ok (.putfield 15, 3) := by decide +kernel
theorem dX2_init_20 : decode cX2_init 20 = .ok (.aload_n 0, 1) := by decide +kernel
theorem dX2_init_21 : decode cX2_init 21 = .ok (.bipush 8, 2) := by decide +kernel
theorem dX2_init_23 : decode cX2_init 23 = .ok (.newarray .int, 2) := by decide +kernel
theorem dX2_init_25 : decode cX2_init 25 = .ok (.putfield 18, 3) := by decide +kernel
theorem dX2_init_28 : decode cX2_init 28 = .ok (.return_, 1) := by decide +kernel
theorem dX2_hear_0 : decode cX2_hear 0 = .ok (.aload_n 0, 1) := by decide +kernel
theorem dX2_hear_1 : decode cX2_hear 1 = .ok (.iconst 0, 1) := by decide +kernel
theorem dX2_hear_2 : decode cX2_hear 2 = .ok (.putfield 21, 3) := by decide +kernel
theorem dX2_hear_5 : decode cX2_hear 5 = .ok (.iconst 0, 1) := by decide +kernel
theorem dX2_hear_6 : decode cX2_hear 6 = .ok (.istore 4, 2) := by decide +kernel
theorem dX2_hear_8 : decode cX2_hear 8 = .ok (.iload 4, 2) := by decide +kernel
theorem dX2_hear_10 : decode cX2_hear 10 = .ok (.iload_n 3, 1) := by decide +kernel
theorem dX2_hear_11 : decode cX2_hear 11 = .ok (.if_icmp .ge 80, 3) := by decide +kernel
theorem dX2_hear_14 : decode cX2_hear 14 = .ok (.iload 4, 2) := by decide +kernel
theorem dX2_hear_16 : decode cX2_hear 16 = .ok (.bipush 12, 2) := by decide +kernel
theorem dX2_hear_18 : decode cX2_hear 18 = .ok (.if_icmp .ge 73, 3) := by decide +kernel
theorem dX2_hear_21 : decode cX2_hear 21 = .ok (.aload_n 1, 1) := by decide +kernel
theorem dX2_hear_22 : decode cX2_hear 22 = .ok (.iload_n 2, 1) := by decide +kernel
theorem dX2_hear_23 : decode cX2_hear 23 = .ok (.iconst 2, 1) := by decide +kernel
theorem dX2_hear_24 : decode cX2_hear 24 = .ok (.iload 4, 2) := by decide +kernel
theorem dX2_hear_26 : decode cX2_hear 26 = .ok (.imul, 1) := by decide +kernel
theorem dX2_hear_27 : decode cX2_hear 27 = .ok (.iconst 2, 1) := by decide +kernel
theorem dX2_hear_28 : decode cX2_hear 28 = .ok (.iadd, 1) := by decide +kernel
theorem dX2_hear_29 : decode cX2_hear 29 = .ok (.invokevirtual 25, 3) := by decide +kernel
theorem dX2_hear_32 : decode cX2_hear 32 = .ok (.ifCond .eq 59, 3) := by decide +kernel
theorem dX2_hear_35 : decode cX2_hear 35 = .ok (.aload_n 0, 1) := by decide +kernel
theorem dX2_hear_36 : decode cX2_hear 36 = .ok (.getfield 9, 3) := by decide +kernel
theorem dX2_hear_39 : decode cX2_hear 39 = .ok (.iload 4, 2) := by decide +kernel
theorem dX2_hear_41 : decode cX2_hear 41 = .ok (.aload_n 1, 1) := by decide +kernel
theorem dX2_hear_42 : decode cX2_hear 42 = .ok (.getfield 31, 3) := by decide +kernel
theorem dX2_hear_45 : decode cX2_hear 45 = .ok (.iload_n 2, 1) := by decide +kernel
theorem dX2_hear_46 : decode cX2_hear 46 = .ok (.iconst 2, 1) := by decide +kernel
theorem dX2_hear_47 : decode cX2_hear 47 = .ok (.iload 4, 2) := by decide +kernel
theorem dX2_hear_49 : decode cX2_hear 49 = .ok (.imul, 1) := by decide +kernel
theorem dX2_hear_50 : decode cX2_hear 50 = .ok (.iadd, 1) := by decide +kernel
theorem dX2_hear_51 : decode cX2_hear 51 = .ok (.laload, 1) := by decide +kernel
theorem dX2_hear_52 : decode cX2_hear 52 = .ok (.l2i, 1) := by decide +kernel
theorem dX2_hear_53 : decode cX2_hear 53 = .ok (.iastore, 1) := by decide +kernel
theorem dX2_hear_54 : decode cX2_hear 54 = .ok (.aload_n 0, 1) := by decide +kernel
theorem dX2_hear_55 : decode cX2_hear 55 = .ok (.getfield 15, 3) := by decide +kernel
theorem dX2_hear_58 : decode cX2_hear 58 = .ok (.iload 4, 2) := by decide +kernel
theorem dX2_hear_60 : decode cX2_hear 60 = .ok (.aload_n 1, 1) := by decide +kernel
theorem dX2_hear_61 : decode cX2_hear 61 = .ok (.getfield 31, 3) := by decide +kernel
theorem dX2_hear_64 : decode cX2_hear 64 = .ok (.iload_n 2, 1) := by decide +kernel
theorem dX2_hear_65 : decode cX2_hear 65 = .ok (.iconst 2, 1) := by decide +kernel
theorem dX2_hear_66 : decode cX2_hear 66 = .ok (.iload 4, 2) := by decide +kernel
theorem dX2_hear_68 : decode cX2_hear 68 = .ok (.imul, 1) := by decide +kernel
theorem dX2_hear_69 : decode cX2_hear 69 = .ok (.iadd, 1) := by decide +kernel
theorem dX2_hear_70 : decode cX2_hear 70 = .ok (.iconst 1, 1) := by decide +kernel
theorem dX2_hear_71 : decode cX2_hear 71 = .ok (.iadd, 1) := by decide +kernel
theorem dX2_hear_72 : decode cX2_hear 72 = .ok (.laload, 1) := by decide +kernel
theorem dX2_hear_73 : decode cX2_hear 73 = .ok (.l2i, 1) := by decide +kernel
theorem dX2_hear_74 : decode cX2_hear 74 = .ok (.iastore, 1) := by decide +kernel
theorem dX2_hear_75 : decode cX2_hear 75 = .ok (.aload_n 0, 1) := by decide +kernel
theorem dX2_hear_76 : decode cX2_hear 76 = .ok (.dup, 1) := by decide +kernel
theorem dX2_hear_77 : decode cX2_hear 77 = .ok (.getfield 21, 3) := by decide +kernel
theorem dX2_hear_80 : decode cX2_hear 80 = .ok (.iconst 1, 1) := by decide +kernel
theorem dX2_hear_81 : decode cX2_hear 81 = .ok (.iadd, 1) := by decide +kernel
theorem dX2_hear_82 : decode cX2_hear 82 = .ok (.putfield 21, 3) := by decide +kernel
theorem dX2_hear_85 : decode cX2_hear 85 = .ok (.iinc 4 1, 3) := by decide +kernel
theorem dX2_hear_88 : decode cX2_hear 88 = .ok (.goto (-80), 3) := by decide +kernel
theorem dX2_hear_91 : decode cX2_hear 91 = .ok (.return_, 1) := by decide +kernel
theorem dX2_knowAtLast_0 : decode cX2_knowAtLast 0 = .ok (.iload_n 1, 1) := by decide +kernel
theorem dX2_knowAtLast_1 : decode cX2_knowAtLast 1 = .ok (.istore_n 2, 1) := by decide +kernel
theorem dX2_knowAtLast_2 : decode cX2_knowAtLast 2 = .ok (.iconst 0, 1) := by decide +kernel
theorem dX2_knowAtLast_3 : decode cX2_knowAtLast 3 = .ok (.istore_n 3, 1) := by decide +kernel
theorem dX2_knowAtLast_4 : decode cX2_knowAtLast 4 = .ok (.iload_n 3, 1) := by decide +kernel
theorem dX2_knowAtLast_5 : decode cX2_knowAtLast 5 = .ok (.bipush 8, 2) := by decide +kernel
theorem dX2_knowAtLast_7 : decode cX2_knowAtLast 7 = .ok (.if_icmp .ge 54, 3) := by decide +kernel
theorem dX2_knowAtLast_10 : decode cX2_knowAtLast 10 = .ok (.iconst 0, 1) := by decide +kernel
theorem dX2_knowAtLast_11 : decode cX2_knowAtLast 11 = .ok (.istore 4, 2) := by decide +kernel
theorem dX2_knowAtLast_13 : decode cX2_knowAtLast 13 = .ok (.iload 4, 2) := by decide +kernel
theorem dX2_knowAtLast_15 : decode cX2_knowAtLast 15 = .ok (.aload_n 0, 1) := by decide +kernel
theorem dX2_knowAtLast_16 : decode cX2_knowAtLast 16 = .ok (.getfield 21, 3) := by decide +kernel
theorem dX2_knowAtLast_19 : decode cX2_knowAtLast 19 = .ok (.if_icmp .ge 36, 3) := by decide +kernel
theorem dX2_knowAtLast_22 : decode cX2_knowAtLast 22 = .ok (.iload_n 2, 1) := by decide +kernel
theorem dX2_knowAtLast_23 : decode cX2_knowAtLast 23 = .ok (.aload_n 0, 1) := by decide +kernel
theorem dX2_knowAtLast_24 : decode cX2_knowAtLast 24 = .ok (.getfield 9, 3) := by decide +kernel
theorem dX2_knowAtLast_27 : decode cX2_knowAtLast 27 = .ok (.iload 4, 2) := by decide +kernel
theorem dX2_knowAtLast_29 : decode cX2_knowAtLast 29 = .ok (.iaload, 1) := by decide +kernel
theorem dX2_knowAtLast_30 : decode cX2_knowAtLast 30 = .ok (.ishr, 1) := by decide +kernel
theorem dX2_knowAtLast_31 : decode cX2_knowAtLast 31 = .ok (.iconst 1, 1) := by decide +kernel
theorem dX2_knowAtLast_32 : decode cX2_knowAtLast 32 = .ok (.iand, 1) := by decide +kernel
theorem dX2_knowAtLast_33 : decode cX2_knowAtLast 33 = .ok (.iconst 1, 1) := by decide +kernel
theorem dX2_knowAtLast_34 : decode cX2_knowAtLast 34 = .ok (.if_icmp .ne 15, 3) := by decide +kernel
theorem dX2_knowAtLast_37 : decode cX2_knowAtLast 37 = .ok (.iload_n 2, 1) := by decide +kernel
theorem dX2_knowAtLast_38 : decode cX2_knowAtLast 38 = .ok (.iconst 1, 1) := by decide +kernel
theorem dX2_knowAtLast_39 : decode cX2_knowAtLast 39 = .ok (.aload_n 0, 1) := by decide +kernel
theorem dX2_knowAtLast_40 : decode cX2_knowAtLast 40 = .ok (.getfield 15, 3) := by decide +kernel
theorem dX2_knowAtLast_43 : decode cX2_knowAtLast 43 = .ok (.iload 4, 2) := by decide +kernel
theorem dX2_knowAtLast_45 : decode cX2_knowAtLast 45 = .ok (.iaload, 1) := by decide +kernel
theorem dX2_knowAtLast_46 : decode cX2_knowAtLast 46 = .ok (.ishl, 1) := by decide +kernel
theorem dX2_knowAtLast_47 : decode cX2_knowAtLast 47 = .ok (.ior, 1) := by decide +kernel
theorem dX2_knowAtLast_48 : decode cX2_knowAtLast 48 = .ok (.istore_n 2, 1) := by decide +kernel
theorem dX2_knowAtLast_49 : decode cX2_knowAtLast 49 = .ok (.iinc 4 1, 3) := by decide +kernel
theorem dX2_knowAtLast_52 : decode cX2_knowAtLast 52 = .ok (.goto (-39), 3) := by decide +kernel
theorem dX2_knowAtLast_55 : decode cX2_knowAtLast 55 = .ok (.iinc 3 1, 3) := by decide +kernel
theorem dX2_knowAtLast_58 : decode cX2_knowAtLast 58 = .ok (.goto (-54), 3) := by decide +kernel
theorem dX2_knowAtLast_61 : decode cX2_knowAtLast 61 = .ok (.iload_n 2, 1) := by decide +kernel
theorem dX2_knowAtLast_62 : decode cX2_knowAtLast 62 = .ok (.ireturn, 1) := by decide +kernel
theorem dX2_fewestToTell_0 : decode cX2_fewestToTell 0 = .ok (.iconst 0, 1) := by decide +kernel
theorem dX2_fewestToTell_1 : decode cX2_fewestToTell 1 = .ok (.istore_n 1, 1) := by decide +kernel
theorem dX2_fewestToTell_2 : decode cX2_fewestToTell 2 = .ok (.iload_n 1, 1) := by decide +kernel
theorem dX2_fewestToTell_3 : decode cX2_fewestToTell 3 = .ok (.bipush 8, 2) := by decide +kernel
theorem dX2_fewestToTell_5 : decode cX2_fewestToTell 5 = .ok (.if_icmp .ge 22, 3) := by decide +kernel
theorem dX2_fewestToTell_8 : decode cX2_fewestToTell 8 = .ok (.aload_n 0, 1) := by decide +kernel
theorem dX2_fewestToTell_9 : decode cX2_fewestToTell 9 = .ok (.getfield 18, 3) := by decide +kernel
theorem dX2_fewestToTell_12 : decode cX2_fewestToTell 12 = .ok (.iload_n 1, 1) := by decide +kernel
theorem dX2_fewestToTell_13 : decode cX2_fewestToTell 13 = .ok (.aload_n 0, 1) := by decide +kernel
theorem dX2_fewestToTell_14 : decode cX2_fewestToTell 14 = .ok (.iconst 1, 1) := by decide +kernel
theorem dX2_fewestToTell_15 : decode cX2_fewestToTell 15 = .ok (.iload_n 1, 1) := by decide +kernel
theorem dX2_fewestToTell_16 : decode cX2_fewestToTell 16 = .ok (.ishl, 1) := by decide +kernel
theorem dX2_fewestToTell_17 : decode cX2_fewestToTell 17 = .ok (.invokevirtual 35, 3) := by decide +kernel
theorem dX2_fewestToTell_20 : decode cX2_fewestToTell 20 = .ok (.iastore, 1) := by decide +kernel
theorem dX2_fewestToTell_21 : decode cX2_fewestToTell 21 = .ok (.iinc 1 1, 3) := by decide +kernel
theorem dX2_fewestToTell_24 : decode cX2_fewestToTell 24 = .ok (.goto (-22), 3) := by decide +kernel
theorem dX2_fewestToTell_27 : decode cX2_fewestToTell 27 = .ok (.sipush 255, 3) := by decide +kernel
theorem dX2_fewestToTell_30 : decode cX2_fewestToTell 30 = .ok (.istore_n 1, 1) := by decide +kernel
theorem dX2_fewestToTell_31 : decode cX2_fewestToTell 31 = .ok (.iconst 0, 1) := by decide +kernel
theorem dX2_fewestToTell_32 : decode cX2_fewestToTell 32 = .ok (.istore_n 2, 1) := by decide +kernel
theorem dX2_fewestToTell_33 : decode cX2_fewestToTell 33 = .ok (.iload_n 2, 1) := by decide +kernel
theorem dX2_fewestToTell_34 : decode cX2_fewestToTell 34 = .ok (.sipush 255, 3) := by decide +kernel
theorem dX2_fewestToTell_37 : decode cX2_fewestToTell 37 = .ok (.if_icmp .ge 43, 3) := by decide +kernel
theorem dX2_fewestToTell_40 : decode cX2_fewestToTell 40 = .ok (.iload_n 2, 1) := by decide +kernel
theorem dX2_fewestToTell_41 : decode cX2_fewestToTell 41 = .ok (.invokestatic 39, 3) := by decide +kernel
theorem dX2_fewestToTell_44 : decode cX2_fewestToTell 44 = .ok (.iload_n 1, 1) := by decide +kernel
theorem dX2_fewestToTell_45 : decode cX2_fewestToTell 45 = .ok (.invokestatic 39, 3) := by decide +kernel
theorem dX2_fewestToTell_48 : decode cX2_fewestToTell 48 = .ok (.if_icmp .ge 7, 3) := by decide +kernel
theorem dX2_fewestToTell_51 : decode cX2_fewestToTell 51 = .ok (.iconst 1, 1) := by decide +kernel
theorem dX2_fewestToTell_52 : decode cX2_fewestToTell 52 = .ok (.goto 4, 3) := by decide +kernel
theorem dX2_fewestToTell_55 : decode cX2_fewestToTell 55 = .ok (.iconst 0, 1) := by decide +kernel
theorem dX2_fewestToTell_56 : decode cX2_fewestToTell 56 = .ok (.istore_n 3, 1) := by decide +kernel
theorem dX2_fewestToTell_57 : decode cX2_fewestToTell 57 = .ok (.iload_n 3, 1) := by decide +kernel
theorem dX2_fewestToTell_58 : decode cX2_fewestToTell 58 = .ok (.ifCond .eq 16, 3) := by decide +kernel
theorem dX2_fewestToTell_61 : decode cX2_fewestToTell 61 = .ok (.aload_n 0, 1) := by decide +kernel
theorem dX2_fewestToTell_62 : decode cX2_fewestToTell 62 = .ok (.iload_n 2, 1) := by decide +kernel
theorem dX2_fewestToTell_63 : decode cX2_fewestToTell 63 = .ok (.invokevirtual 44, 3) := by decide +kernel
theorem dX2_fewestToTell_66 : decode cX2_fewestToTell 66 = .ok (.sipush 255, 3) := by decide +kernel
theorem dX2_fewestToTell_69 : decode cX2_fewestToTell 69 = .ok (.if_icmp .ne 5, 3) := by decide +kernel
theorem dX2_fewestToTell_72 : decode cX2_fewestToTell 72 = .ok (.iload_n 2, 1) := by decide +kernel
theorem dX2_fewestToTell_73 : decode cX2_fewestToTell 73 = .ok (.istore_n 1, 1) := by decide +kernel
theorem dX2_fewestToTell_74 : decode cX2_fewestToTell 74 = .ok (.iinc 2 1, 3) := by decide +kernel
theorem dX2_fewestToTell_77 : decode cX2_fewestToTell 77 = .ok (.goto (-44), 3) := by decide +kernel
theorem dX2_fewestToTell_80 : decode cX2_fewestToTell 80 = .ok (.iload_n 1, 1) := by decide +kernel
theorem dX2_fewestToTell_81 : decode cX2_fewestToTell 81 = .ok (.ireturn, 1) := by decide +kernel
theorem dX2_knownFrom_0 : decode cX2_knownFrom 0 = .ok (.iconst 0, 1) := by decide +kernel
theorem dX2_knownFrom_1 : decode cX2_knownFrom 1 = .ok (.istore_n 2, 1) := by decide +kernel
theorem dX2_knownFrom_2 : decode cX2_knownFrom 2 = .ok (.iconst 0, 1) := by decide +kernel
theorem dX2_knownFrom_3 : decode cX2_knownFrom 3 = .ok (.istore_n 3, 1) := by decide +kernel
theorem dX2_knownFrom_4 : decode cX2_knownFrom 4 = .ok (.iload_n 3, 1) := by decide +kernel
theorem dX2_knownFrom_5 : decode cX2_knownFrom 5 = .ok (.bipush 8, 2) := by decide +kernel
theorem dX2_knownFrom_7 : decode cX2_knownFrom 7 = .ok (.if_icmp .ge 27, 3) := by decide +kernel
theorem dX2_knownFrom_10 : decode cX2_knownFrom 10 = .ok (.iload_n 1, 1) := by decide +kernel
theorem dX2_knownFrom_11 : decode cX2_knownFrom 11 = .ok (.iload_n 3, 1) := by decide +kernel
theorem dX2_knownFrom_12 : decode cX2_knownFrom 12 = .ok (.ishr, 1) := by decide +kernel
theorem dX2_knownFrom_13 : decode cX2_knownFrom 13 = .ok (.iconst 1, 1) := by decide +kernel
theorem dX2_knownFrom_14 : decode cX2_knownFrom 14 = .ok (.iand, 1) := by decide +kernel
theorem dX2_knownFrom_15 : decode cX2_knownFrom 15 = .ok (.iconst 1, 1) := by decide +kernel
theorem dX2_knownFrom_16 : decode cX2_knownFrom 16 = .ok (.if_icmp .ne 12, 3) := by decide +kernel
theorem dX2_knownFrom_19 : decode cX2_knownFrom 19 = .ok (.iload_n 2, 1) := by decide +kernel
theorem dX2_knownFrom_20 : decode cX2_knownFrom 20 = .ok (.aload_n 0, 1) := by decide +kernel
theorem dX2_knownFrom_21 : decode cX2_knownFrom 21 = .ok (.getfield 18, 3) := by decide +kernel
theorem dX2_knownFrom_24 : decode cX2_knownFrom 24 = .ok (.iload_n 3, 1) := by decide +kernel
theorem dX2_knownFrom_25 : decode cX2_knownFrom 25 = .ok (.iaload, 1) := by decide +kernel
theorem dX2_knownFrom_26 : decode cX2_knownFrom 26 = .ok (.ior, 1) := by decide +kernel
theorem dX2_knownFrom_27 : decode cX2_knownFrom 27 = .ok (.istore_n 2, 1) := by decide +kernel
theorem dX2_knownFrom_28 : decode cX2_knownFrom 28 = .ok (.iinc 3 1, 3) := by decide +kernel
theorem dX2_knownFrom_31 : decode cX2_knownFrom 31 = .ok (.goto (-27), 3) := by decide +kernel
theorem dX2_knownFrom_34 : decode cX2_knownFrom 34 = .ok (.iload_n 2, 1) := by decide +kernel
theorem dX2_knownFrom_35 : decode cX2_knownFrom 35 = .ok (.ireturn, 1) := by decide +kernel
theorem dX3_init_0 : decode cX3_init 0 = .ok (.aload_n 0, 1) := by decide +kernel
theorem dX3_init_1 : decode cX3_init 1 = .ok (.invokespecial 3, 3) := by decide +kernel
theorem dX3_init_4 : decode cX3_init 4 = .ok (.aload_n 0, 1) := by decide +kernel
theorem dX3_init_5 : decode cX3_init 5 = .ok (.bipush 20, 2) := by decide +kernel
theorem dX3_init_7 : decode cX3_init 7 = .ok (.anewarray 9, 3) := by decide +kernel
theorem dX3_init_10 : decode cX3_init 10 = .ok (.putfield 11, 3) := by decide +kernel
theorem dX3_init_13 : decode cX3_init 13 = .ok (.iconst 0, 1) := by decide +kernel
theorem dX3_init_14 : decode cX3_init 14 = .ok (.istore_n 1, 1) := by decide +kernel
theorem dX3_init_15 : decode cX3_init 15 = .ok (.iload_n 1, 1) := by decide +kernel
theorem dX3_init_16 : decode cX3_init 16 = .ok (.bipush 20, 2) := by decide +kernel
theorem dX3_init_18 : decode cX3_init 18 = .ok (.if_icmp .ge 22, 3) := by decide +kernel
theorem dX3_init_21 : decode cX3_init 21 = .ok (.aload_n 0, 1) := by decide +kernel
theorem dX3_init_22 : decode cX3_init 22 = .ok (.getfield 11, 3) := by decide +kernel
theorem dX3_init_25 : decode cX3_init 25 = .ok (.iload_n 1, 1) := by decide +kernel
theorem dX3_init_26 : decode cX3_init 26 = .ok (.new 9, 3) := by decide +kernel
theorem dX3_init_29 : decode cX3_init 29 = .ok (.dup, 1) := by decide +kernel
theorem dX3_init_30 : decode cX3_init 30 = .ok (.invokespecial 17, 3) := by decide +kernel
theorem dX3_init_33 : decode cX3_init 33 = .ok (.aastore, 1) := by decide +kernel
theorem dX3_init_34 : decode cX3_init 34 = .ok (.iinc 1 1, 3) := by decide +kernel
theorem dX3_init_37 : decode cX3_init 37 = .ok (.goto (-22), 3) := by decide +kernel
theorem dX3_init_40 : decode cX3_init 40 = .ok (.return_, 1) := by decide +kernel
theorem dX3_keep_0 : decode cX3_keep 0 = .ok (.aload_n 0, 1) := by decide +kernel
theorem dX3_keep_1 : decode cX3_keep 1 = .ok (.getfield 11, 3) := by decide +kernel
theorem dX3_keep_4 : decode cX3_keep 4 = .ok (.aload_n 0, 1) := by decide +kernel
theorem dX3_keep_5 : decode cX3_keep 5 = .ok (.getfield 18, 3) := by decide +kernel
theorem dX3_keep_8 : decode cX3_keep 8 = .ok (.aaload, 1) := by decide +kernel
theorem dX3_keep_9 : decode cX3_keep 9 = .ok (.aload_n 1, 1) := by decide +kernel
theorem dX3_keep_10 : decode cX3_keep 10 = .ok (.invokevirtual 22, 3) := by decide +kernel
theorem dX3_keep_13 : decode cX3_keep 13 = .ok (.aload_n 0, 1) := by decide +kernel
theorem dX3_keep_14 : decode cX3_keep 14 = .ok (.aload_n 0, 1) := by decide +kernel
theorem dX3_keep_15 : decode cX3_keep 15 = .ok (.getfield 18, 3) := by decide +kernel
theorem dX3_keep_18 : decode cX3_keep 18 = .ok (.iconst 1, 1) := by decide +kernel
theorem dX3_keep_19 : decode cX3_keep 19 = .ok (.iadd, 1) := by decide +kernel
theorem dX3_keep_20 : decode cX3_keep 20 = .ok (.bipush 20, 2) := by decide +kernel
theorem dX3_keep_22 : decode cX3_keep 22 = .ok (.irem, 1) := by decide +kernel
theorem dX3_keep_23 : decode cX3_keep 23 = .ok (.putfield 18, 3) := by decide +kernel
theorem dX3_keep_26 : decode cX3_keep 26 = .ok (.aload_n 0, 1) := by decide +kernel
theorem dX3_keep_27 : decode cX3_keep 27 = .ok (.bipush 20, 2) := by decide +kernel
theorem dX3_keep_29 : decode cX3_keep 29 = .ok (.aload_n 0, 1) := by decide +kernel
theorem dX3_keep_30 : decode cX3_keep 30 = .ok (.getfield 26, 3) := by decide +kernel
theorem dX3_keep_33 : decode cX3_keep 33 = .ok (.iconst 1, 1) := by decide +kernel
theorem dX3_keep_34 : decode cX3_keep 34 = .ok (.iadd, 1) := by decide +kernel
theorem dX3_keep_35 : decode cX3_keep 35 = .ok (.invokestatic 29, 3) := by decide +kernel
theorem dX3_keep_38 : decode cX3_keep 38 = .ok (.putfield 26, 3) := by decide +kernel
theorem dX3_keep_41 : decode cX3_keep 41 = .ok (.return_, 1) := by decide +kernel
theorem dX3_giveBack_0 : decode cX3_giveBack 0 = .ok (.aload_n 0, 1) := by decide +kernel
theorem dX3_giveBack_1 : decode cX3_giveBack 1 = .ok (.getfield 26, 3) := by decide +kernel
theorem dX3_giveBack_4 : decode cX3_giveBack 4 = .ok (.ifCond .ne 5, 3) := by decide +kernel
theorem dX3_giveBack_7 : decode cX3_giveBack 7 = .ok (.iconst 0, 1) := by decide +kernel
theorem dX3_giveBack_8 : decode cX3_giveBack 8 = .ok (.ireturn, 1) := by decide +kernel
theorem dX3_giveBack_9 : decode cX3_giveBack 9 = .ok (.aload_n 0, 1) := by decide +kernel
theorem dX3_giveBack_10 : decode cX3_giveBack 10 = .ok (.aload_n 0, 1) := by decide +kernel
theorem dX3_giveBack_11 : decode cX3_giveBack 11 = .ok (.getfield 18, 3) := by decide +kernel
theorem dX3_giveBack_14 : decode cX3_giveBack 14 = .ok (.bipush 20, 2) := by decide +kernel
theorem dX3_giveBack_16 : decode cX3_giveBack 16 = .ok (.iadd, 1) := by decide +kernel
theorem dX3_giveBack_17 : decode cX3_giveBack 17 = .ok (.iconst 1, 1) := by decide +kernel
theorem dX3_giveBack_18 : decode cX3_giveBack 18 = .ok (.isub, 1) := by decide +kernel
theorem dX3_giveBack_19 : decode cX3_giveBack 19 = .ok (.bipush 20, 2) := by decide +kernel
theorem dX3_giveBack_21 : decode cX3_giveBack 21 = .ok (.irem, 1) := by decide +kernel
theorem dX3_giveBack_22 : decode cX3_giveBack 22 = .ok (.putfield 18, 3) := by decide +kernel
theorem dX3_giveBack_25 : decode cX3_giveBack 25 = .ok (.aload_n 0, 1) := by decide +kernel
theorem dX3_giveBack_26 : decode cX3_giveBack 26 = .ok (.dup, 1) := by decide +kernel
theorem dX3_giveBack_27 : decode cX3_giveBack 27 = .ok (.getfield 26, 3) := by decide +kernel
theorem dX3_giveBack_30 : decode cX3_giveBack 30 = .ok (.iconst 1, 1) := by decide +kernel
theorem dX3_giveBack_31 : decode cX3_giveBack 31 = .ok (.isub, 1) := by decide +kernel
theorem dX3_giveBack_32 : decode cX3_giveBack 32 = .ok (.putfield 26, 3) := by decide +kernel
theorem dX3_giveBack_35 : decode cX3_giveBack 35 = .ok (.aload_n 1, 1) := by decide +kernel
theorem dX3_giveBack_36 : decode cX3_giveBack 36 = .ok (.aload_n 0, 1) := by decide +kernel
theorem dX3_giveBack_37 : decode cX3_giveBack 37 = .ok (.getfield 11, 3) := by decide +kernel
theorem dX3_giveBack_40 : decode cX3_giveBack 40 = .ok (.aload_n 0, 1) := by decide +kernel
theorem dX3_giveBack_41 : decode cX3_giveBack 41 = .ok (.getfield 18, 3) := by decide +kernel
theorem dX3_giveBack_44 : decode cX3_giveBack 44 = .ok (.aaload, 1) := by decide +kernel
theorem dX3_giveBack_45 : decode cX3_giveBack 45 = .ok (.invokevirtual 22, 3) := by decide +kernel
theorem dX3_giveBack_48 : decode cX3_giveBack 48 = .ok (.iconst 1, 1) := by decide +kernel
theorem dX3_giveBack_49 : decode cX3_giveBack 49 = .ok (.ireturn, 1) := by decide +kernel
theorem dX3_forget_0 : decode cX3_forget 0 = .ok (.aload_n 0, 1) := by decide +kernel
theorem dX3_forget_1 : decode cX3_forget 1 = .ok (.iconst 0, 1) := by decide +kernel
theorem dX3_forget_2 : decode cX3_forget 2 = .ok (.putfield 26, 3) := by decide +kernel
theorem dX3_forget_5 : decode cX3_forget 5 = .ok (.return_, 1) := by decide +kernel
theorem dX4_init_0 : decode cX4_init 0 = .ok (.aload_n 0, 1) := by decide +kernel
theorem dX4_init_1 : decode cX4_init 1 = .ok (.invokespecial 3, 3) := by decide +kernel
theorem dX4_init_4 : decode cX4_init 4 = .ok (.aload_n 0, 1) := by decide +kernel
theorem dX4_init_5 : decode cX4_init 5 = .ok (.bipush 7, 2) := by decide +kernel
theorem dX4_init_7 : decode cX4_init 7 = .ok (.anewarray 11, 3) := by decide +kernel
theorem dX4_init_10 : decode cX4_init 10 = .ok (.putfield 13, 3) := by decide +kernel
theorem dX4_init_13 : decode cX4_init 13 = .ok (.aload_n 0, 1) := by decide +kernel
theorem dX4_init_14 : decode cX4_init 14 = .ok (.bipush 7, 2) := by decide +kernel
theorem dX4_init_16 : decode cX4_init 16 = .ok (.anewarray 11, 3) := by decide +kernel
theorem dX4_init_19 : decode cX4_init 19 = .ok (.putfield 17, 3) := by decide +kernel
theorem dX4_init_22 : decode cX4_init 22 = .ok (.iconst 0, 1) := by decide +kernel
theorem dX4_init_23 : decode cX4_init 23 = .ok (.istore_n 1, 1) := by decide +kernel
theorem dX4_init_24 : decode cX4_init 24 = .ok (.iload_n 1, 1) := by decide +kernel
theorem dX4_init_25 : decode cX4_init 25 = .ok (.bipush 7, 2) := by decide +kernel
theorem dX4_init_27 : decode cX4_init 27 = .ok (.if_icmp .ge 35, 3) := by decide +kernel
theorem dX4_init_30 : decode cX4_init 30 = .ok (.aload_n 0, 1) := by decide +kernel
theorem dX4_init_31 : decode cX4_init 31 = .ok (.getfield 13, 3) := by decide +kernel
theorem dX4_init_34 : decode cX4_init 34 = .ok (.iload_n 1, 1) := by decide +kernel
theorem dX4_init_35 : decode cX4_init 35 = .ok (.new 11, 3) := by decide +kernel
theorem dX4_init_38 : decode cX4_init 38 = .ok (.dup, 1) := by decide +kernel
theorem dX4_init_39 : decode cX4_init 39 = .ok (.invokespecial 20, 3) := by decide +kernel
theorem dX4_init_42 : decode cX4_init 42 = .ok (.aastore, 1) := by decide +kernel
theorem dX4_init_43 : decode cX4_init 43 = .ok (.aload_n 0, 1) := by decide +kernel
theorem dX4_init_44 : decode cX4_init 44 = .ok (.getfield 17, 3) := by decide +kernel
theorem dX4_init_47 : decode cX4_init 47 = .ok (.iload_n 1, 1) := by decide +kernel
theorem dX4_init_48 : decode cX4_init 48 = .ok (.new 11, 3) := by decide +kernel
theorem dX4_init_51 : decode cX4_init 51 = .ok (.dup, 1) := by decide +kernel
theorem dX4_init_52 : decode cX4_init 52 = .ok (.invokespecial 20, 3) := by decide +kernel
theorem dX4_init_55 : decode cX4_init 55 = .ok (.aastore, 1) := by decide +kernel
theorem dX4_init_56 : decode cX4_init 56 = .ok (.iinc 1 1, 3) := by decide +kernel
theorem dX4_init_59 : decode cX4_init 59 = .ok (.goto (-35), 3) := by decide +kernel
theorem dX4_init_62 : decode cX4_init 62 = .ok (.return_, 1) := by decide +kernel
theorem dX4_play_0 : decode cX4_play 0 = .ok (.aload_n 0, 1) := by decide +kernel
theorem dX4_play_1 : decode cX4_play 1 = .ok (.aload_n 3, 1) := by decide +kernel
theorem dX4_play_2 : decode cX4_play 2 = .ok (.putfield 21, 3) := by decide +kernel
theorem dX4_play_5 : decode cX4_play 5 = .ok (.aload_n 0, 1) := by decide +kernel
theorem dX4_play_6 : decode cX4_play 6 = .ok (.getfield 13, 3) := by decide +kernel
theorem dX4_play_9 : decode cX4_play 9 = .ok (.iconst 0, 1) := by decide +kernel
theorem dX4_play_10 : decode cX4_play 10 = .ok (.aaload, 1) := by decide +kernel
theorem dX4_play_11 : decode cX4_play 11 = .ok (.aload_n 1, 1) := by decide +kernel
theorem dX4_play_12 : decode cX4_play 12 = .ok (.invokevirtual 25, 3) := by decide +kernel
theorem dX4_play_15 : decode cX4_play 15 = .ok (.aload_n 0, 1) := by decide +kernel
theorem dX4_play_16 : decode cX4_play 16 = .ok (.getfield 17, 3) := by decide +kernel
theorem dX4_play_19 : decode cX4_play 19 = .ok (.iconst 0, 1) := by decide +kernel
theorem dX4_play_20 : decode cX4_play 20 = .ok (.aaload, 1) := by decide +kernel
theorem dX4_play_21 : decode cX4_play 21 = .ok (.aload_n 2, 1) := by decide +kernel
theorem dX4_play_22 : decode cX4_play 22 = .ok (.invokevirtual 25, 3) := by decide +kernel
theorem dX4_play_25 : decode cX4_play 25 = .ok (.aload_n 0, 1) := by decide +kernel
theorem dX4_play_26 : decode cX4_play 26 = .ok (.iconst 0, 1) := by decide +kernel
theorem dX4_play_27 : decode cX4_play 27 = .ok (.iconst 2, 1) := by decide +kernel
theorem dX4_play_28 : decode cX4_play 28 = .ok (.iload 4, 2) := by decide +kernel
theorem dX4_play_30 : decode cX4_play 30 = .ok (.imul, 1) := by decide +kernel
theorem dX4_play_31 : decode cX4_play 31 = .ok (.bipush 6, 2) := by decide +kernel
theorem dX4_play_33 : decode cX4_play 33 = .ok (.invokestatic 29, 3) := by decide +kernel
theorem dX4_play_36 : decode cX4_play 36 = .ok (.invokestatic 35, 3) := by decide +kernel
theorem dX4_play_39 : decode cX4_play 39 = .ok (.ireturn, 1) := by decide +kernel
theorem dX4_edgeFrom_0 : decode cX4_edgeFrom 0 = .ok (.iload_n 1, 1) := by decide +kernel
theorem dX4_edgeFrom_1 : decode cX4_edgeFrom 1 = .ok (.iload_n 2, 1) := by decide +kernel
theorem dX4_edgeFrom_2 : decode cX4_edgeFrom 2 = .ok (.if_icmp .lt 9, 3) := by decide +kernel
theorem dX4_edgeFrom_5 : decode cX4_edgeFrom 5 = .ok (.aload_n 0, 1) := by decide +kernel
theorem dX4_edgeFrom_6 : decode cX4_edgeFrom 6 = .ok (.iload_n 1, 1) := by decide +kernel
theorem dX4_edgeFrom_7 : decode cX4_edgeFrom 7 = .ok (.invokevirtual 39, 3) := by decide +kernel
theorem dX4_edgeFrom_10 : decode cX4_edgeFrom 10 = .ok (.ireturn, 1) := by decide +kernel
theorem dX4_edgeFrom_11 : decode cX4_edgeFrom 11 = .ok (.iload_n 1, 1) := by decide +kernel
theorem dX4_edgeFrom_12 : decode cX4_edgeFrom 12 = .ok (.iconst 2, 1) := by decide +kernel
theorem dX4_edgeFrom_13 : decode cX4_edgeFrom 13 = .ok (.irem, 1) := by decide +kernel
theorem dX4_edgeFrom_14 : decode cX4_edgeFrom 14 = .ok (.ifCond .ne 7, 3) := by decide +kernel
theorem dX4_edgeFrom_17 : decode cX4_edgeFrom 17 = .ok (.iconst 1, 1) := by decide +kernel
theorem dX4_edgeFrom_18 : decode cX4_edgeFrom 18 = .ok (.goto 4, 3) := by decide +kernel
theorem dX4_edgeFrom_21 : decode cX4_edgeFrom 21 = .ok (.iconst 0, 1) := by decide +kernel
theorem dX4_edgeFrom_22 : decode cX4_edgeFrom 22 = .ok (.istore_n 3, 1) := by decide +kernel
theorem dX4_edgeFrom_23 : decode cX4_edgeFrom 23 = .ok (.iload_n 3, 1) := by decide +kernel
theorem dX4_edgeFrom_24 : decode cX4_edgeFrom 24 = .ok (.ifCond .eq 8, 3) := by decide +kernel
theorem dX4_edgeFrom_27 : decode cX4_edgeFrom 27 = .ok (.ldc 43, 2) := by decide +kernel
theorem dX4_edgeFrom_29 : decode cX4_edgeFrom 29 = .ok (.goto 5, 3) := by decide +kernel
theorem dX4_edgeFrom_32 : decode cX4_edgeFrom 32 = .ok (.ldc 44, 2) := by decide +kernel
theorem dX4_edgeFrom_34 : decode cX4_edgeFrom 34 = .ok (.istore 4, 2) := by decide +kernel
theorem dX4_edgeFrom_36 : decode cX4_edgeFrom 36 = .ok (.iconst 0, 1) := by decide +kernel
theorem dX4_edgeFrom_37 : decode cX4_edgeFrom 37 = .ok (.istore 5, 2) := by decide +kernel
theorem dX4_edgeFrom_39 : decode cX4_edgeFrom 39 = .ok (.iload 5, 2) := by decide +kernel
theorem dX4_edgeFrom_41 : decode cX4_edgeFrom 41 = .ok (.iconst 3, 1) := by decide +kernel
theorem dX4_edgeFrom_42 : decode cX4_edgeFrom 42 = .ok (.if_icmp .ge 62, 3) := by decide +kernel
theorem dX4_edgeFrom_45 : decode cX4_edgeFrom 45 = .ok (.aload_n 0, 1) := by decide +kernel
theorem dX4_edgeFrom_46 : decode cX4_edgeFrom 46 = .ok (.iload_n 1, 1) := by decide +kernel
theorem dX4_edgeFrom_47 : decode cX4_edgeFrom 47 = .ok (.iload 5, 2) := by decide +kernel
theorem dX4_edgeFrom_49 : decode cX4_edgeFrom 49 = .ok (.invokevirtual 45, 3) := by decide +kernel
theorem dX4_edgeFrom_52 : decode cX4_edgeFrom 52 = .ok (.ifCond .ne 6, 3) := by decide +kernel
theorem dX4_edgeFrom_55 : decode cX4_edgeFrom 55 = .ok (.goto 43, 3) := by decide +kernel
theorem dX4_edgeFrom_58 : decode cX4_edgeFrom 58 = .ok (.aload_n 0, 1) := by decide +kernel
theorem dX4_edgeFrom_59 : decode cX4_edgeFrom 59 = .ok (.iload_n 1, 1) := by decide +kernel
theorem dX4_edgeFrom_60 : decode cX4_edgeFrom 60 = .ok (.iload 5, 2) := by decide +kernel
theorem dX4_edgeFrom_62 : decode cX4_edgeFrom 62 = .ok (.invokevirtual 49, 3) := by decide +kernel
theorem dX4_edgeFrom_65 : decode cX4_edgeFrom 65 = .ok (.aload_n 0, 1) := by decide +kernel
theorem dX4_edgeFrom_66 : decode cX4_edgeFrom 66 = .ok (.iload_n 1, 1) := by decide +kernel
theorem dX4_edgeFrom_67 : decode cX4_edgeFrom 67 = .ok (.iconst 1, 1) := by decide +kernel
theorem dX4_edgeFrom_68 : decode cX4_edgeFrom 68 = .ok (.iadd, 1) := by decide +kernel
theorem dX4_edgeFrom_69 : decode cX4_edgeFrom 69 = .ok (.iload_n 2, 1) := by decide +kernel
theorem dX4_edgeFrom_70 : decode cX4_edgeFrom 70 = .ok (.invokestatic 35, 3) := by decide +kernel
theorem dX4_edgeFrom_73 : decode cX4_edgeFrom 73 = .ok (.istore 6, 2) := by decide +kernel
theorem dX4_edgeFrom_75 : decode cX4_edgeFrom 75 = .ok (.iload_n 3, 1) := by decide +kernel
theorem dX4_edgeFrom_76 : decode cX4_edgeFrom 76 = .ok (.ifCond .eq 13, 3) := by decide +kernel
theorem dX4_edgeFrom_79 : decode cX4_edgeFrom 79 = .ok (.iload 4, 2) := by decide +kernel
theorem dX4_edgeFrom_81 : decode cX4_edgeFrom 81 = .ok (.iload 6, 2) := by decide +kernel
theorem dX4_edgeFrom_83 : decode cX4_edgeFrom 83 = .ok (.invokestatic 53, 3) := by decide +kernel
theorem dX4_edgeFrom_86 : decode cX4_edgeFrom 86 = .ok (.goto 10, 3) := by decide +kernel
theorem dX4_edgeFrom_89 : decode cX4_edgeFrom 89 = .ok (.iload 4, 2) := by decide +kernel
theorem dX4_edgeFrom_91 : decode cX4_edgeFrom 91 = .ok (.iload 6, 2) := by decide +kernel
theorem dX4_edgeFrom_93 : decode cX4_edgeFrom 93 = .ok (.invokestatic 29, 3) := by decide +kernel
theorem dX4_edgeFrom_96 : decode cX4_edgeFrom 96 = .ok (.istore 4, 2) := by decide +kernel
theorem dX4_edgeFrom_98 : decode cX4_edgeFrom 98 = .ok (.iinc 5 1, 3) := by decide +kernel
theorem dX4_edgeFrom_101 : decode cX4_edgeFrom 101 = .ok (.goto (-62), 3) := by decide +kernel
theorem dX4_edgeFrom_104 : decode cX4_edgeFrom 104 = .ok (.iload 4, 2) := by decide +kernel
theorem dX4_edgeFrom_106 : decode cX4_edgeFrom 106 = .ok (.ireturn, 1) := by decide +kernel
theorem dX4_edgeAt_0 : decode cX4_edgeAt 0 = .ok (.iload_n 1, 1) := by decide +kernel
theorem dX4_edgeAt_1 : decode cX4_edgeAt 1 = .ok (.iconst 0, 1) := by decide +kernel
theorem dX4_edgeAt_2 : decode cX4_edgeAt 2 = .ok (.bipush 6, 2) := by decide +kernel
theorem dX4_edgeAt_4 : decode cX4_edgeAt 4 = .ok (.invokestatic 56, 3) := by decide +kernel
theorem dX4_edgeAt_7 : decode cX4_edgeAt 7 = .ok (.ifCond .ne 5, 3) := by decide +kernel
theorem dX4_edgeAt_10 : decode cX4_edgeAt 10 = .ok (.iconst 0, 1) := by decide +kernel
theorem dX4_edgeAt_11 : decode cX4_edgeAt 11 = .ok (.ireturn, 1) := by decide +kernel
theorem dX4_edgeAt_12 : decode cX4_edgeAt 12 = .ok (.aload_n 0, 1) := by decide +kernel
theorem dX4_edgeAt_13 : decode cX4_edgeAt 13 = .ok (.getfield 13, 3) := by decide +kernel
theorem dX4_edgeAt_16 : decode cX4_edgeAt 16 = .ok (.iload_n 1, 1) := by decide +kernel
theorem dX4_edgeAt_17 : decode cX4_edgeAt 17 = .ok (.aaload, 1) := by decide +kernel
theorem dX4_edgeAt_18 : decode cX4_edgeAt 18 = .ok (.astore_n 2, 1) := by decide +kernel
theorem dX4_edgeAt_19 : decode cX4_edgeAt 19 = .ok (.aload_n 0, 1) := by decide +kernel
theorem dX4_edgeAt_20 : decode cX4_edgeAt 20 = .ok (.getfield 17, 3) := by decide +kernel
theorem dX4_edgeAt_23 : decode cX4_edgeAt 23 = .ok (.iload_n 1, 1) := by decide +kernel
theorem dX4_edgeAt_24 : decode cX4_edgeAt 24 = .ok (.aaload, 1) := by decide +kernel
theorem dX4_edgeAt_25 : decode cX4_edgeAt 25 = .ok (.astore_n 3, 1) := by decide +kernel
theorem dX4_edgeAt_26 : decode cX4_edgeAt 26 = .ok (.aload_n 2, 1) := by decide +kernel
theorem dX4_edgeAt_27 : decode cX4_edgeAt 27 = .ok (.getfield 60, 3) := by decide +kernel
theorem dX4_edgeAt_30 : decode cX4_edgeAt 30 = .ok (.aload_n 2, 1) := by decide +kernel
theorem dX4_edgeAt_31 : decode cX4_edgeAt 31 = .ok (.getfield 64, 3) := by decide +kernel
theorem dX4_edgeAt_34 : decode cX4_edgeAt 34 = .ok (.isub, 1) := by decide +kernel
theorem dX4_edgeAt_35 : decode cX4_edgeAt 35 = .ok (.aload_n 3, 1) := by decide +kernel
theorem dX4_edgeAt_36 : decode cX4_edgeAt 36 = .ok (.getfield 60, 3) := by decide +kernel
theorem dX4_edgeAt_39 : decode cX4_edgeAt 39 = .ok (.aload_n 3, 1) := by decide +kernel
theorem dX4_edgeAt_40 : decode cX4_edgeAt 40 = .ok (.getfield 64, 3) := by decide +kernel
theorem dX4_edgeAt_43 : decode cX4_edgeAt 43 = .ok (.isub, 1) := by decide +kernel
theorem dX4_edgeAt_44 : decode cX4_edgeAt 44 = .ok (.isub, 1) := by decide +kernel
theorem dX4_edgeAt_45 : decode cX4_edgeAt 45 = .ok (.ireturn, 1) := by decide +kernel
theorem dX4_isAllowed_0 : decode cX4_isAllowed 0 = .ok (.iload_n 1, 1) := by decide +kernel
theorem dX4_isAllowed_1 : decode cX4_isAllowed 1 = .ok (.iconst 0, 1) := by decide +kernel
theorem dX4_isAllowed_2 : decode cX4_isAllowed 2 = .ok (.iconst 5, 1) := by decide +kernel
theorem dX4_isAllowed_3 : decode cX4_isAllowed 3 = .ok (.invokestatic 56, 3) := by decide +kernel
theorem dX4_isAllowed_6 : decode cX4_isAllowed 6 = .ok (.ifCond .ne 5, 3) := by decide +kernel
theorem dX4_isAllowed_9 : decode cX4_isAllowed 9 = .ok (.iconst 0, 1) := by decide +kernel
theorem dX4_isAllowed_10 : decode cX4_isAllowed 10 = .ok (.ireturn, 1) := by decide +kernel
theorem dX4_isAllowed_11 : decode cX4_isAllowed 11 = .ok (.iload_n 1, 1) := by decide +kernel
theorem dX4_isAllowed_12 : decode cX4_isAllowed 12 = .ok (.iconst 2, 1) := by decide +kernel
theorem dX4_isAllowed_13 : decode cX4_isAllowed 13 = .ok (.irem, 1) := by decide +kernel
theorem dX4_isAllowed_14 : decode cX4_isAllowed 14 = .ok (.ifCond .ne 7, 3) := by decide +kernel
theorem dX4_isAllowed_17 : decode cX4_isAllowed 17 = .ok (.iconst 1, 1) := by decide +kernel
theorem dX4_isAllowed_18 : decode cX4_isAllowed 18 = .ok (.goto 4, 3) := by decide +kernel
theorem dX4_isAllowed_21 : decode cX4_isAllowed 21 = .ok (.iconst 0, 1) := by decide +kernel
theorem dX4_isAllowed_22 : decode cX4_isAllowed 22 = .ok (.istore_n 3, 1) := by decide +kernel
theorem dX4_isAllowed_23 : decode cX4_isAllowed 23 = .ok (.iload_n 3, 1) := by decide +kernel
theorem dX4_isAllowed_24 : decode cX4_isAllowed 24 = .ok (.ifCond .eq 12, 3) := by decide +kernel
theorem dX4_isAllowed_27 : decode cX4_isAllowed 27 = .ok (.aload_n 0, 1) := by decide +kernel
theorem dX4_isAllowed_28 : decode cX4_isAllowed 28 = .ok (.getfield 13, 3) := by decide +kernel
theorem dX4_isAllowed_31 : decode cX4_isAllowed 31 = .ok (.iload_n 1, 1) := by decide +kernel
theorem dX4_isAllowed_32 : decode cX4_isAllowed 32 = .ok (.aaload, 1) := by decide +kernel
theorem dX4_isAllowed_33 : decode cX4_isAllowed 33 = .ok (.goto 9, 3) := by decide +kernel
theorem dX4_isAllowed_36 : decode cX4_isAllowed 36 = .ok (.aload_n 0, 1) := by decide +kernel
theorem dX4_isAllowed_37 : decode cX4_isAllowed 37 = .ok (.getfield 17, 3) := by decide +kernel
theorem dX4_isAllowed_40 : decode cX4_isAllowed 40 = .ok (.iload_n 1, 1) := by decide +kernel
theorem dX4_isAllowed_41 : decode cX4_isAllowed 41 = .ok (.aaload, 1) := by decide +kernel
theorem dX4_isAllowed_42 : decode cX4_isAllowed 42 = .ok (.astore 4, 2) := by decide +kernel
theorem dX4_isAllowed_44 : decode cX4_isAllowed 44 = .ok (.iload_n 3, 1) := by decide +kernel
theorem dX4_isAllowed_45 : decode cX4_isAllowed 45 = .ok (.ifCond .eq 12, 3) := by decide +kernel
theorem dX4_isAllowed_48 : decode cX4_isAllowed 48 = .ok (.aload_n 0, 1) := by decide +kernel
theorem dX4_isAllowed_49 : decode cX4_isAllowed 49 = .ok (.getfield 17, 3) := by decide +kernel
theorem dX4_isAllowed_52 : decode cX4_isAllowed 52 = .ok (.iload_n 1, 1) := by decide +kernel
theorem dX4_isAllowed_53 : decode cX4_isAllowed 53 = .ok (.aaload, 1) := by decide +kernel
theorem dX4_isAllowed_54 : decode cX4_isAllowed 54 = .ok (.goto 9, 3) := by decide +kernel
theorem dX4_isAllowed_57 : decode cX4_isAllowed 57 = .ok (.aload_n 0, 1) := by decide +kernel
theorem dX4_isAllowed_58 : decode cX4_isAllowed 58 = .ok (.getfield 13, 3) := by decide +kernel
theorem dX4_isAllowed_61 : decode cX4_isAllowed 61 = .ok (.iload_n 1, 1) := by decide +kernel
theorem dX4_isAllowed_62 : decode cX4_isAllowed 62 = .ok (.aaload, 1) := by decide +kernel
theorem dX4_isAllowed_63 : decode cX4_isAllowed 63 = .ok (.astore 5, 2) := by decide +kernel
theorem dX4_isAllowed_65 : decode cX4_isAllowed 65 = .ok (.iload_n 2, 1) := by decide +kernel
theorem dX4_isAllowed_66 : decode cX4_isAllowed 66 = .ok (.iconst 1, 1) := by decide +kernel
theorem dX4_isAllowed_67 : decode cX4_isAllowed 67 = .ok (.if_icmp .ne 9, 3) := by decide +kernel
theorem dX4_isAllowed_70 : decode cX4_isAllowed 70 = .ok (.aload 4, 2) := by decide +kernel
theorem dX4_isAllowed_72 : decode cX4_isAllowed 72 = .ok (.invokevirtual 67, 3) := by decide +kernel
theorem dX4_isAllowed_75 : decode cX4_isAllowed 75 = .ok (.ireturn, 1) := by decide +kernel
theorem dX4_isAllowed_76 : decode cX4_isAllowed 76 = .ok (.iload_n 2, 1) := by decide +kernel
theorem dX4_isAllowed_77 : decode cX4_isAllowed 77 = .ok (.iconst 2, 1) := by decide +kernel
theorem dX4_isAllowed_78 : decode cX4_isAllowed 78 = .ok (.if_icmp .ne 11, 3) := by decide +kernel
theorem dX4_isAllowed_81 : decode cX4_isAllowed 81 = .ok (.aload 5, 2) := by decide +kernel
theorem dX4_isAllowed_83 : decode cX4_isAllowed 83 = .ok (.invokevirtual 71, 3) := by decide +kernel
theorem dX4_isAllowed_86 : decode cX4_isAllowed 86 = .ok (.ifCond .eq 7, 3) := by decide +kernel
theorem dX4_isAllowed_89 : decode cX4_isAllowed 89 = .ok (.iconst 1, 1) := by decide +kernel
theorem dX4_isAllowed_90 : decode cX4_isAllowed 90 = .ok (.goto 4, 3) := by decide +kernel
theorem dX4_isAllowed_93 : decode cX4_isAllowed 93 = .ok (.iconst 0, 1) := by decide +kernel
theorem dX4_isAllowed_94 : decode cX4_isAllowed 94 = .ok (.ireturn, 1) := by decide +kernel
theorem dX4_playMove_0 : decode cX4_playMove 0 = .ok (.iload_n 1, 1) := by decide +kernel
theorem dX4_playMove_1 : decode cX4_playMove 1 = .ok (.iconst 0, 1) := by decide +kernel
theorem dX4_playMove_2 : decode cX4_playMove 2 = .ok (.iconst 5, 1) := by decide +kernel
theorem dX4_playMove_3 : decode cX4_playMove 3 = .ok (.invokestatic 56, 3) := by decide +kernel
theorem dX4_playMove_6 : decode cX4_playMove 6 = .ok (.ifCond .ne 4, 3) := by decide +kernel
theorem dX4_playMove_9 : decode cX4_playMove 9 = .ok (.return_, 1) := by decide +kernel
theorem dX4_playMove_10 : decode cX4_playMove 10 = .ok (.aload_n 0, 1) := by decide +kernel
theorem dX4_playMove_11 : decode cX4_playMove 11 = .ok (.getfield 13, 3) := by decide +kernel
theorem dX4_playMove_14 : decode cX4_playMove 14 = .ok (.iload_n 1, 1) := by decide +kernel
theorem dX4_playMove_15 : decode cX4_playMove 15 = .ok (.iconst 1, 1) := by decide +kernel
theorem dX4_playMove_16 : decode cX4_playMove 16 = .ok (.iadd, 1) := by decide +kernel
theorem dX4_playMove_17 : decode cX4_playMove 17 = .ok (.aaload, 1) := by decide +kernel
theorem dX4_playMove_18 : decode cX4_playMove 18 = .ok (.astore_n 3, 1) := by decide +kernel
theorem dX4_playMove_19 : decode cX4_playMove 19 = .ok (.aload_n 0, 1) := by decide +kernel
theorem dX4_playMove_20 : decode cX4_playMove 20 = .ok (.getfield 17, 3) := by decide +kernel
theorem dX4_playMove_23 : decode cX4_playMove 23 = .ok (.iload_n 1, 1) := by decide +kernel
theorem dX4_playMove_24 : decode cX4_playMove 24 = .ok (.iconst 1, 1) := by decide +kernel
theorem dX4_playMove_25 : decode cX4_playMove 25 = .ok (.iadd, 1) := by decide +kernel
theorem dX4_playMove_26 : decode cX4_playMove 26 = .ok (.aaload, 1) := by decide +kernel
theorem dX4_playMove_27 : decode cX4_playMove 27 = .ok (.astore 4, 2) := by decide +kernel
theorem dX4_playMove_29 : decode cX4_playMove 29 = .ok (.aload_n 3, 1) := by decide +kernel
theorem dX4_playMove_30 : decode cX4_playMove 30 = .ok (.aload_n 0, 1) := by decide +kernel
theorem dX4_playMove_31 : decode cX4_playMove 31 = .ok (.getfield 13, 3) := by decide +kernel
theorem dX4_playMove_34 : decode cX4_playMove 34 = .ok (.iload_n 1, 1) := by decide +kernel
theorem dX4_playMove_35 : decode cX4_playMove 35 = .ok (.aaload, 1) := by decide +kernel
theorem dX4_playMove_36 : decode cX4_playMove 36 = .ok (.invokevirtual 25, 3) := by decide +kernel
theorem dX4_playMove_39 : decode cX4_playMove 39 = .ok (.aload 4, 2) := by decide +kernel
theorem dX4_playMove_41 : decode cX4_playMove 41 = .ok (.aload_n 0, 1) := by decide +kernel
theorem dX4_playMove_42 : decode cX4_playMove 42 = .ok (.getfield 17, 3) := by decide +kernel
theorem dX4_playMove_45 : decode cX4_playMove 45 = .ok (.iload_n 1, 1) := by decide +kernel
theorem dX4_playMove_46 : decode cX4_playMove 46 = .ok (.aaload, 1) := by decide +kernel
theorem dX4_playMove_47 : decode cX4_playMove 47 = .ok (.invokevirtual 25, 3) := by decide +kernel
theorem dX4_playMove_50 : decode cX4_playMove 50 = .ok (.iload_n 1, 1) := by decide +kernel
theorem dX4_playMove_51 : decode cX4_playMove 51 = .ok (.iconst 2, 1) := by decide +kernel
theorem dX4_playMove_52 : decode cX4_playMove 52 = .ok (.irem, 1) := by decide +kernel
theorem dX4_playMove_53 : decode cX4_playMove 53 = .ok (.ifCond .ne 7, 3) := by decide +kernel
theorem dX4_playMove_56 : decode cX4_playMove 56 = .ok (.iconst 1, 1) := by decide +kernel
theorem dX4_playMove_57 : decode cX4_playMove 57 = .ok (.goto 4, 3) := by decide +kernel
theorem dX4_playMove_60 : decode cX4_playMove 60 = .ok (.iconst 0, 1) := by decide +kernel
theorem dX4_playMove_61 : decode cX4_playMove 61 = .ok (.istore 5, 2) := by decide +kernel
theorem dX4_playMove_63 : decode cX4_playMove 63 = .ok (.iload_n 2, 1) := by decide +kernel
theorem dX4_playMove_64 : decode cX4_playMove 64 = .ok (.iconst 1, 1) := by decide +kernel
theorem dX4_playMove_65 : decode cX4_playMove 65 = .ok (.if_icmp .ne 17, 3) := by decide +kernel
theorem dX4_playMove_68 : decode cX4_playMove 68 = .ok (.iload 5, 2) := by decide +kernel
theorem dX4_playMove_70 : decode cX4_playMove 70 = .ok (.ifCond .eq 7, 3) := by decide +kernel
theorem dX4_playMove_73 : decode cX4_playMove 73 = .ok (.aload_n 3, 1) := by decide +kernel
theorem dX4_playMove_74 : decode cX4_playMove 74 = .ok (.goto 5, 3) := by decide +kernel
theorem dX4_playMove_77 : decode cX4_playMove 77 = .ok (.aload 4, 2) := by decide +kernel
theorem dX4_playMove_79 : decode cX4_playMove 79 = .ok (.invokevirtual 74, 3) := by decide +kernel
theorem dX4_playMove_82 : decode cX4_playMove 82 = .ok (.iload_n 2, 1) := by decide +kernel
theorem dX4_playMove_83 : decode cX4_playMove 83 = .ok (.iconst 2, 1) := by decide +kernel
theorem dX4_playMove_84 : decode cX4_playMove 84 = .ok (.if_icmp .ne 18, 3) := by decide +kernel
theorem dX4_playMove_87 : decode cX4_playMove 87 = .ok (.iload 5, 2) := by decide +kernel
theorem dX4_playMove_89 : decode cX4_playMove 89 = .ok (.ifCond .eq 8, 3) := by decide +kernel
theorem dX4_playMove_92 : decode cX4_playMove 92 = .ok (.aload 4, 2) := by decide +kernel
theorem dX4_playMove_94 : decode cX4_playMove 94 = .ok (.goto 4, 3) := by decide +kernel
theorem dX4_playMove_97 : decode cX4_playMove 97 = .ok (.aload_n 3, 1) := by decide +kernel
theorem dX4_playMove_98 : decode cX4_playMove 98 = .ok (.iconst 2, 1) := by decide +kernel
theorem dX4_playMove_99 : decode cX4_playMove 99 = .ok (.putfield 77, 3) := by decide +kernel
theorem dX4_playMove_102 : decode cX4_playMove 102 = .ok (.iload 5, 2) := by decide +kernel
theorem dX4_playMove_104 : decode cX4_playMove 104 = .ok (.ifCond .ne 68, 3) := by decide +kernel
theorem dX4_playMove_107 : decode cX4_playMove 107 = .ok (.aload_n 0, 1) := by decide +kernel
theorem dX4_playMove_108 : decode cX4_playMove 108 = .ok (.getfield 21, 3) := by decide +kernel
theorem dX4_playMove_111 : decode cX4_playMove 111 = .ok (.ifnull 61, 3) := by decide +kernel
theorem dX4_playMove_114 : decode cX4_playMove 114 = .ok (.iload_n 1, 1) := by decide +kernel
theorem dX4_playMove_115 : decode cX4_playMove 115 = .ok (.iconst 2, 1) := by decide +kernel
theorem dX4_playMove_116 : decode cX4_playMove 116 = .ok (.idiv, 1) := by decide +kernel
theorem dX4_playMove_117 : decode cX4_playMove 117 = .ok (.istore 6, 2) := by decide +kernel
theorem dX4_playMove_119 : decode cX4_playMove 119 = .ok (.aload_n 3, 1) := by decide +kernel
theorem dX4_playMove_120 : decode cX4_playMove 120 = .ok (.aload_n 0, 1) := by decide +kernel
theorem dX4_playMove_121 : decode cX4_playMove 121 = .ok (.getfield 21, 3) := by decide +kernel
theorem dX4_playMove_124 : decode cX4_playMove 124 = .ok (.getfield 80, 3) := by decide +kernel
theorem dX4_playMove_127 : decode cX4_playMove 127 = .ok (.iload 6, 2) := by decide +kernel
theorem dX4_playMove_129 : decode cX4_playMove 129 = .ok (.iaload, 1) := by decide +kernel
theorem dX4_playMove_130 : decode cX4_playMove 130 = .ok (.aload_n 0, 1) := by decide +kernel
theorem dX4_playMove_131 : decode cX4_playMove 131 = .ok (.getfield 21, 3) := by decide +kernel
theorem dX4_playMove_134 : decode cX4_playMove 134 = .ok (.getfield 86, 3) := by decide +kernel
theorem dX4_playMove_137 : decode cX4_playMove 137 = .ok (.iload 6, 2) := by decide +kernel
theorem dX4_playMove_139 : decode cX4_playMove 139 = .ok (.baload, 1) := by decide +kernel
theorem dX4_playMove_140 : decode cX4_playMove 140 = .ok (.iload 6, 2) := by decide +kernel
theorem dX4_playMove_142 : decode cX4_playMove 142 = .ok (.invokevirtual 90, 3) := by decide +kernel
theorem dX4_playMove_145 : decode cX4_playMove 145 = .ok (.aload 4, 2) := by decide +kernel
theorem dX4_playMove_147 : decode cX4_playMove 147 = .ok (.aload_n 0, 1) := by decide +kernel
theorem dX4_playMove_148 : decode cX4_playMove 148 = .ok (.getfield 21, 3) := by decide +kernel
theorem dX4_playMove_151 : decode cX4_playMove 151 = .ok (.getfield 80, 3) := by decide +kernel
theorem dX4_playMove_154 : decode cX4_playMove 154 = .ok (.iload 6, 2) := by decide +kernel
theorem dX4_playMove_156 : decode cX4_playMove 156 = .ok (.iaload, 1) := by decide +kernel
theorem dX4_playMove_157 : decode cX4_playMove 157 = .ok (.aload_n 0, 1) := by decide +kernel
theorem dX4_playMove_158 : decode cX4_playMove 158 = .ok (.getfield 21, 3) := by decide +kernel
theorem dX4_playMove_161 : decode cX4_playMove 161 = .ok (.getfield 86, 3) := by decide +kernel
theorem dX4_playMove_164 : decode cX4_playMove 164 = .ok (.iload 6, 2) := by decide +kernel
theorem dX4_playMove_166 : decode cX4_playMove 166 = .ok (.baload, 1) := by decide +kernel
theorem dX4_playMove_167 : decode cX4_playMove 167 = .ok (.iload 6, 2) := by decide +kernel
theorem dX4_playMove_169 : decode cX4_playMove 169 = .ok (.invokevirtual 90, 3) := by decide +kernel
theorem dX4_playMove_172 : decode cX4_playMove 172 = .ok (.return_, 1) := by decide +kernel
theorem dX5_init_0 : decode cX5_init 0 = .ok (.aload_n 0, 1) := by decide +kernel
theorem dX5_init_1 : decode cX5_init 1 = .ok (.invokespecial 3, 3) := by decide +kernel
theorem dX5_init_4 : decode cX5_init 4 = .ok (.aload_n 0, 1) := by decide +kernel
theorem dX5_init_5 : decode cX5_init 5 = .ok (.iconst (-1), 1) := by decide +kernel
theorem dX5_init_6 : decode cX5_init 6 = .ok (.putfield 11, 3) := by decide +kernel
theorem dX5_init_9 : decode cX5_init 9 = .ok (.aload_n 0, 1) := by decide +kernel
theorem dX5_init_10 : decode cX5_init 10 = .ok (.bipush 24, 2) := by decide +kernel
theorem dX5_init_12 : decode cX5_init 12 = .ok (.newarray .long, 2) := by decide +kernel
theorem dX5_init_14 : decode cX5_init 14 = .ok (.putfield 15, 3) := by decide +kernel
theorem dX5_init_17 : decode cX5_init 17 = .ok (.return_, 1) := by decide +kernel
theorem dX5_isNothing_0 : decode cX5_isNothing 0 = .ok (.aload_n 0, 1) := by decide +kernel
theorem dX5_isNothing_1 : decode cX5_isNothing 1 = .ok (.getfield 11, 3) := by decide +kernel
theorem dX5_isNothing_4 : decode cX5_isNothing 4 = .ok (.iconst (-1), 1) := by decide +kernel
theorem dX5_isNothing_5 : decode cX5_isNothing 5 = .ok (.if_icmp .ne 7, 3) := by decide +kernel
theorem dX5_isNothing_8 : decode cX5_isNothing 8 = .ok (.iconst 1, 1) := by decide +kernel
theorem dX5_isNothing_9 : decode cX5_isNothing 9 = .ok (.goto 4, 3) := by decide +kernel
theorem dX5_isNothing_12 : decode cX5_isNothing 12 = .ok (.iconst 0, 1) := by decide +kernel
theorem dX5_isNothing_13 : decode cX5_isNothing 13 = .ok (.ireturn, 1) := by decide +kernel
theorem dX5_becomeNothing_0 : decode cX5_becomeNothing 0 = .ok (.aload_n 0, 1) := by decide +kernel
theorem dX5_becomeNothing_1 : decode cX5_becomeNothing 1 = .ok (.iconst (-1), 1) := by decide +kernel
theorem dX5_becomeNothing_2 : decode cX5_becomeNothing 2 = .ok (.putfield 11, 3) := by decide +kernel
theorem dX5_becomeNothing_5 : decode cX5_becomeNothing 5 = .ok (.aload_n 0, 1) := by decide +kernel
theorem dX5_becomeNothing_6 : decode cX5_becomeNothing 6 = .ok (.iconst 0, 1) := by decide +kernel
theorem dX5_becomeNothing_7 : decode cX5_becomeNothing 7 = .ok (.putfield 19, 3) := by decide +kernel
theorem dX5_becomeNothing_10 : decode cX5_becomeNothing 10 = .ok (.return_, 1) := by decide +kernel
theorem dX5_begin_0 : decode cX5_begin 0 = .ok (.aload_n 0, 1) := by decide +kernel
theorem dX5_begin_1 : decode cX5_begin 1 = .ok (.iload_n 1, 1) := by decide +kernel
theorem dX5_begin_2 : decode cX5_begin 2 = .ok (.putfield 11, 3) := by decide +kernel
theorem dX5_begin_5 : decode cX5_begin 5 = .ok (.aload_n 0, 1) := by decide +kernel
theorem dX5_begin_6 : decode cX5_begin 6 = .ok (.iload_n 2, 1) := by decide +kernel
theorem dX5_begin_7 : decode cX5_begin 7 = .ok (.putfield 19, 3) := by decide +kernel
theorem dX5_begin_10 : decode cX5_begin 10 = .ok (.iconst 0, 1) := by decide +kernel
theorem dX5_begin_11 : decode cX5_begin 11 = .ok (.istore_n 3, 1) := by decide +kernel
theorem dX5_begin_12 : decode cX5_begin 12 = .ok (.iload_n 3, 1) := by decide +kernel
theorem dX5_begin_13 : decode cX5_begin 13 = .ok (.bipush 24, 2) := by decide +kernel
theorem dX5_begin_15 : decode cX5_begin 15 = .ok (.if_icmp .ge 16, 3) := by decide +kernel
theorem dX5_begin_18 : decode cX5_begin 18 = .ok (.aload_n 0, 1) := by decide +kernel
theorem dX5_begin_19 : decode cX5_begin 19 = .ok (.getfield 15, 3) := by decide +kernel
theorem dX5_begin_22 : decode cX5_begin 22 = .ok (.iload_n 3, 1) := by decide +kernel
theorem dX5_begin_23 : decode cX5_begin 23 = .ok (.lconst 0, 1) := by decide +kernel
theorem dX5_begin_24 : decode cX5_begin 24 = .ok (.lastore, 1) := by decide +kernel
theorem dX5_begin_25 : decode cX5_begin 25 = .ok (.iinc 3 1, 3) := by decide +kernel
theorem dX5_begin_28 : decode cX5_begin 28 = .ok (.goto (-16), 3) := by decide +kernel
theorem dX5_begin_31 : decode cX5_begin 31 = .ok (.return_, 1) := by decide +kernel
theorem dX5_holds_0 : decode cX5_holds 0 = .ok (.iload_n 1, 1) := by decide +kernel
theorem dX5_holds_1 : decode cX5_holds 1 = .ok (.ifCond .lt 29, 3) := by decide +kernel
theorem dX5_holds_4 : decode cX5_holds 4 = .ok (.iload_n 2, 1) := by decide +kernel
theorem dX5_holds_5 : decode cX5_holds 5 = .ok (.ifCond .lt 25, 3) := by decide +kernel
theorem dX5_holds_8 : decode cX5_holds 8 = .ok (.iload_n 1, 1) := by decide +kernel
theorem dX5_holds_9 : decode cX5_holds 9 = .ok (.aload_n 0, 1) := by decide +kernel
theorem dX5_holds_10 : decode cX5_holds 10 = .ok (.getfield 19, 3) := by decide +kernel
theorem dX5_holds_13 : decode cX5_holds 13 = .ok (.if_icmp .gt 17, 3) := by decide +kernel
theorem dX5_holds_16 : decode cX5_holds 16 = .ok (.iload_n 2, 1) := by decide +kernel
theorem dX5_holds_17 : decode cX5_holds 17 = .ok (.aload_n 0, 1) := by decide +kernel
theorem dX5_holds_18 : decode cX5_holds 18 = .ok (.getfield 19, 3) := by decide +kernel
theorem dX5_holds_21 : decode cX5_holds 21 = .ok (.iload_n 1, 1) := by decide +kernel
theorem dX5_holds_22 : decode cX5_holds 22 = .ok (.isub, 1) := by decide +kernel
theorem dX5_holds_23 : decode cX5_holds 23 = .ok (.if_icmp .gt 7, 3) := by decide +kernel
theorem dX5_holds_26 : decode cX5_holds 26 = .ok (.iconst 1, 1) := by decide +kernel
theorem dX5_holds_27 : decode cX5_holds 27 = .ok (.goto 4, 3) := by decide +kernel
theorem dX5_holds_30 : decode cX5_holds 30 = .ok (.iconst 0, 1) := by decide +kernel
theorem dX5_holds_31 : decode cX5_holds 31 = .ok (.ireturn, 1) := by decide +kernel
theorem dX5_put_0 : decode cX5_put 0 = .ok (.aload_n 0, 1) := by decide +kernel
theorem dX5_put_1 : decode cX5_put 1 = .ok (.iload_n 1, 1) := by decide +kernel
theorem dX5_put_2 : decode cX5_put 2 = .ok (.iconst 1, 1) := by decide +kernel
theorem dX5_put_3 : decode cX5_put 3 = .ok (.invokevirtual 22, 3) := by decide +kernel
theorem dX5_put_6 : decode cX5_put 6 = .ok (.ifCond .eq 14, 3) := by decide +kernel
theorem dX5_put_9 : decode cX5_put 9 = .ok (.aload_n 0, 1) := by decide +kernel
theorem dX5_put_10 : decode cX5_put 10 = .ok (.getfield 15, 3) := by decide +kernel
theorem dX5_put_13 : decode cX5_put 13 = .ok (.iload_n 1, 1) := by decide +kernel
theorem dX5_put_14 : decode cX5_put 14 = .ok (.aload_n 0, 1) := by decide +kernel
theorem dX5_put_15 : decode cX5_put 15 = .ok (.lload_n 2, 1) := by decide +kernel
theorem dX5_put_16 : decode cX5_put 16 = .ok (.invokevirtual 26, 3) := by decide +kernel
theorem dX5_put_19 : decode cX5_put 19 = .ok (.lastore, 1) := by decide +kernel
theorem dX5_put_20 : decode cX5_put 20 = .ok (.return_, 1) := by decide +kernel
theorem dX5_cut_0 : decode cX5_cut 0 = .ok (.aload_n 0, 1) := by decide +kernel
theorem dX5_cut_1 : decode cX5_cut 1 = .ok (.getfield 11, 3) := by decide +kernel
theorem dX5_cut_4 : decode cX5_cut 4 = .ok (.tableswitch 42 0 2 #[28, 33, 38], 28) := by decide +kernel
theorem dX5_cut_32 : decode cX5_cut 32 = .ok (.lload_n 1, 1) := by decide +kernel
theorem dX5_cut_33 : decode cX5_cut 33 = .ok (.l2i, 1) := by decide +kernel
theorem dX5_cut_34 : decode cX5_cut 34 = .ok (.i2b, 1) := by decide +kernel
theorem dX5_cut_35 : decode cX5_cut 35 = .ok (.i2l, 1) := by decide +kernel
theorem dX5_cut_36 : decode cX5_cut 36 = .ok (.lreturn, 1) := by decide +kernel
theorem dX5_cut_37 : decode cX5_cut 37 = .ok (.lload_n 1, 1) := by decide +kernel
theorem dX5_cut_38 : decode cX5_cut 38 = .ok (.l2i, 1) := by decide +kernel
theorem dX5_cut_39 : decode cX5_cut 39 = .ok (.i2s, 1) := by decide +kernel
theorem dX5_cut_40 : decode cX5_cut 40 = .ok (.i2l, 1) := by decide +kernel
theorem dX5_cut_41 : decode cX5_cut 41 = .ok (.lreturn, 1) := by decide +kernel
theorem dX5_cut_42 : decode cX5_cut 42 = .ok (.lload_n 1, 1) := by decide +kernel
theorem dX5_cut_43 : decode cX5_cut 43 = .ok (.l2i, 1) := by decide +kernel
theorem dX5_cut_44 : decode cX5_cut 44 = .ok (.i2l, 1) := by decide +kernel
theorem dX5_cut_45 : decode cX5_cut 45 = .ok (.lreturn, 1) := by decide +kernel
theorem dX5_cut_46 : decode cX5_cut 46 = .ok (.lload_n 1, 1) := by decide +kernel
theorem dX5_cut_47 : decode cX5_cut 47 = .ok (.lreturn, 1) := by decide +kernel
theorem dX5_areWithin_0 : decode cX5_areWithin 0 = .ok (.aload_n 0, 1) := by decide +kernel
theorem dX5_areWithin_1 : decode cX5_areWithin 1 = .ok (.iload_n 1, 1) := by decide +kernel
theorem dX5_areWithin_2 : decode cX5_areWithin 2 = .ok (.iload_n 2, 1) := by decide +kernel
theorem dX5_areWithin_3 : decode cX5_areWithin 3 = .ok (.invokevirtual 22, 3) := by decide +kernel
theorem dX5_areWithin_6 : decode cX5_areWithin 6 = .ok (.ifCond .ne 5, 3) := by decide +kernel
theorem dX5_areWithin_9 : decode cX5_areWithin 9 = .ok (.iconst 0, 1) := by decide +kernel
theorem dX5_areWithin_10 : decode cX5_areWithin 10 = .ok (.ireturn, 1) := by decide +kernel
theorem dX5_areWithin_11 : decode cX5_areWithin 11 = .ok (.iload_n 1, 1) := by decide +kernel
theorem dX5_areWithin_12 : decode cX5_areWithin 12 = .ok (.istore 4, 2) := by decide +kernel
theorem dX5_areWithin_14 : decode cX5_areWithin 14 = .ok (.iload 4, 2) := by decide +kernel
theorem dX5_areWithin_16 : decode cX5_areWithin 16 = .ok (.iload_n 1, 1) := by decide +kernel
theorem dX5_areWithin_17 : decode cX5_areWithin 17 = .ok (.iload_n 2, 1) := by decide +kernel
theorem dX5_areWithin_18 : decode cX5_areWithin 18 = .ok (.iadd, 1) := by decide +kernel
theorem dX5_areWithin_19 : decode cX5_areWithin 19 = .ok (.if_icmp .ge 36, 3) := by decide +kernel
theorem dX5_areWithin_22 : decode cX5_areWithin 22 = .ok (.aload_n 0, 1) := by decide +kernel
theorem dX5_areWithin_23 : decode cX5_areWithin 23 = .ok (.getfield 15, 3) := by decide +kernel
theorem dX5_areWithin_26 : decode cX5_areWithin 26 = .ok (.iload 4, 2) := by decide +kernel
theorem dX5_areWithin_28 : decode cX5_areWithin 28 = .ok (.laload, 1) := by decide +kernel
theorem dX5_areWithin_29 : decode cX5_areWithin 29 = .ok (.lconst 0, 1) := by decide +kernel
theorem dX5_areWithin_30 : decode cX5_areWithin 30 = .ok (.lcmp, 1) := by decide +kernel
theorem dX5_areWithin_31 : decode cX5_areWithin 31 = .ok (.ifCond .lt 16, 3) := by decide +kernel
theorem dX5_areWithin_34 : decode cX5_areWithin 34 = .ok (.aload_n 0, 1) := by decide +kernel
theorem dX5_areWithin_35 : decode cX5_areWithin 35 = .ok (.getfield 15, 3) := by decide +kernel
theorem dX5_areWithin_38 : decode cX5_areWithin 38 = .ok (.iload 4, 2) := by decide +kernel
theorem dX5_areWithin_40 : decode cX5_areWithin 40 = .ok (.laload, 1) := by decide +kernel
theorem dX5_areWithin_41 : decode cX5_areWithin 41 = .ok (.iload_n 3, 1) := by decide +kernel
theorem dX5_areWithin_42 : decode cX5_areWithin 42 = .ok (.i2l, 1) := by decide +kernel
theorem dX5_areWithin_43 : decode cX5_areWithin 43 = .ok (.lcmp, 1) := by decide +kernel
theorem dX5_areWithin_44 : decode cX5_areWithin 44 = .ok (.ifCond .le 5, 3) := by decide +kernel
theorem dX5_areWithin_47 : decode cX5_areWithin 47 = .ok (.iconst 0, 1) := by decide +kernel
theorem dX5_areWithin_48 : decode cX5_areWithin 48 = .ok (.ireturn, 1) := by decide +kernel
theorem dX5_areWithin_49 : decode cX5_areWithin 49 = .ok (.iinc 4 1, 3) := by decide +kernel
theorem dX5_areWithin_52 : decode cX5_areWithin 52 = .ok (.goto (-38), 3) := by decide +kernel
theorem dX5_areWithin_55 : decode cX5_areWithin 55 = .ok (.iconst 1, 1) := by decide +kernel
theorem dX5_areWithin_56 : decode cX5_areWithin 56 = .ok (.ireturn, 1) := by decide +kernel
theorem dX6_init_0 : decode cX6_init 0 = .ok (.aload_n 0, 1) := by decide +kernel
theorem dX6_init_1 : decode cX6_init 1 = .ok (.invokespecial 3, 3) := by decide +kernel
theorem dX6_init_4 : decode cX6_init 4 = .ok (.aload_n 0, 1) := by decide +kernel
theorem dX6_init_5 : decode cX6_init 5 = .ok (.bipush (-4), 2) := by decide +kernel
theorem dX6_init_7 : decode cX6_init 7 = .ok (.putfield 9, 3) := by decide +kernel
theorem dX6_init_10 : decode cX6_init 10 = .ok (.return_, 1) := by decide +kernel
theorem dX6_takeFrom_0 : decode cX6_takeFrom 0 = .ok (.aload_n 0, 1) := by decide +kernel
theorem dX6_takeFrom_1 : decode cX6_takeFrom 1 = .ok (.aload_n 1, 1) := by decide +kernel
theorem dX6_takeFrom_2 : decode cX6_takeFrom 2 = .ok (.getfield 15, 3) := by decide +kernel
theorem dX6_takeFrom_5 : decode cX6_takeFrom 5 = .ok (.putfield 15, 3) := by decide +kernel
theorem dX6_takeFrom_8 : decode cX6_takeFrom 8 = .ok (.aload_n 0, 1) := by decide +kernel
theorem dX6_takeFrom_9 : decode cX6_takeFrom 9 = .ok (.aload_n 1, 1) := by decide +kernel
theorem dX6_takeFrom_10 : decode cX6_takeFrom 10 = .ok (.getfield 18, 3) := by decide +kernel
theorem dX6_takeFrom_13 : decode cX6_takeFrom 13 = .ok (.putfield 18, 3) := by decide +kernel
theorem dX6_takeFrom_16 : decode cX6_takeFrom 16 = .ok (.aload_n 0, 1) := by decide +kernel
theorem dX6_takeFrom_17 : decode cX6_takeFrom 17 = .ok (.aload_n 1, 1) := by decide +kernel
theorem dX6_takeFrom_18 : decode cX6_takeFrom 18 = .ok (.getfield 21, 3) := by decide +kernel
theorem dX6_takeFrom_21 : decode cX6_takeFrom 21 = .ok (.putfield 21, 3) := by decide +kernel
theorem dX6_takeFrom_24 : decode cX6_takeFrom 24 = .ok (.aload_n 0, 1) := by decide +kernel
theorem dX6_takeFrom_25 : decode cX6_takeFrom 25 = .ok (.aload_n 1, 1) := by decide +kernel
theorem dX6_takeFrom_26 : decode cX6_takeFrom 26 = .ok (.getfield 24, 3) := by decide +kernel
theorem dX6_takeFrom_29 : decode cX6_takeFrom 29 = .ok (.putfield 24, 3) := by decide +kernel
theorem dX6_takeFrom_32 : decode cX6_takeFrom 32 = .ok (.aload_n 0, 1) := by decide +kernel
theorem dX6_takeFrom_33 : decode cX6_takeFrom 33 = .ok (.aload_n 1, 1) := by decide +kernel
theorem dX6_takeFrom_34 : decode cX6_takeFrom 34 = .ok (.getfield 27, 3) := by decide +kernel
theorem dX6_takeFrom_37 : decode cX6_takeFrom 37 = .ok (.putfield 27, 3) := by decide +kernel
theorem dX6_takeFrom_40 : decode cX6_takeFrom 40 = .ok (.aload_n 0, 1) := by decide +kernel
theorem dX6_takeFrom_41 : decode cX6_takeFrom 41 = .ok (.aload_n 1, 1) := by decide +kernel
theorem dX6_takeFrom_42 : decode cX6_takeFrom 42 = .ok (.getfield 30, 3) := by decide +kernel
theorem dX6_takeFrom_45 : decode cX6_takeFrom 45 = .ok (.putfield 30, 3) := by decide +kernel
theorem dX6_takeFrom_48 : decode cX6_takeFrom 48 = .ok (.aload_n 0, 1) := by decide +kernel
theorem dX6_takeFrom_49 : decode cX6_takeFrom 49 = .ok (.aload_n 1, 1) := by decide +kernel
theorem dX6_takeFrom_50 : decode cX6_takeFrom 50 = .ok (.getfield 33, 3) := by decide +kernel
theorem dX6_takeFrom_53 : decode cX6_takeFrom 53 = .ok (.putfield 33, 3) := by decide +kernel
theorem dX6_takeFrom_56 : decode cX6_takeFrom 56 = .ok (.aload_n 0, 1) := by decide +kernel
theorem dX6_takeFrom_57 : decode cX6_takeFrom 57 = .ok (.aload_n 1, 1) := by decide +kernel
theorem dX6_takeFrom_58 : decode cX6_takeFrom 58 = .ok (.getfield 36, 3) := by decide +kernel
theorem dX6_takeFrom_61 : decode cX6_takeFrom 61 = .ok (.putfield 36, 3) := by decide +kernel
theorem dX6_takeFrom_64 : decode cX6_takeFrom 64 = .ok (.aload_n 0, 1) := by decide +kernel
theorem dX6_takeFrom_65 : decode cX6_takeFrom 65 = .ok (.aload_n 1, 1) := by decide +kernel
theorem dX6_takeFrom_66 : decode cX6_takeFrom 66 = .ok (.getfield 39, 3) := by decide +kernel
theorem dX6_takeFrom_69 : decode cX6_takeFrom 69 = .ok (.putfield 39, 3) := by decide +kernel
theorem dX6_takeFrom_72 : decode cX6_takeFrom 72 = .ok (.aload_n 0, 1) := by decide +kernel
theorem dX6_takeFrom_73 : decode cX6_takeFrom 73 = .ok (.aload_n 1, 1) := by decide +kernel
theorem dX6_takeFrom_74 : decode cX6_takeFrom 74 = .ok (.getfield 42, 3) := by decide +kernel
theorem dX6_takeFrom_77 : decode cX6_takeFrom 77 = .ok (.putfield 42, 3) := by decide +kernel
theorem dX6_takeFrom_80 : decode cX6_takeFrom 80 = .ok (.aload_n 0, 1) := by decide +kernel
theorem dX6_takeFrom_81 : decode cX6_takeFrom 81 = .ok (.aload_n 1, 1) := by decide +kernel
theorem dX6_takeFrom_82 : decode cX6_takeFrom 82 = .ok (.getfield 9, 3) := by decide +kernel
theorem dX6_takeFrom_85 : decode cX6_takeFrom 85 = .ok (.putfield 9, 3) := by decide +kernel
theorem dX6_takeFrom_88 : decode cX6_takeFrom 88 = .ok (.return_, 1) := by decide +kernel
theorem dX6_sitDown_0 : decode cX6_sitDown 0 = .ok (.aload_n 0, 1) := by decide +kernel
theorem dX6_sitDown_1 : decode cX6_sitDown 1 = .ok (.iconst 0, 1) := by decide +kernel
theorem dX6_sitDown_2 : decode cX6_sitDown 2 = .ok (.putfield 30, 3) := by decide +kernel
theorem dX6_sitDown_5 : decode cX6_sitDown 5 = .ok (.aload_n 0, 1) := by decide +kernel
theorem dX6_sitDown_6 : decode cX6_sitDown 6 = .ok (.iload_n 1, 1) := by decide +kernel
theorem dX6_sitDown_7 : decode cX6_sitDown 7 = .ok (.putfield 33, 3) := by decide +kernel
theorem dX6_sitDown_10 : decode cX6_sitDown 10 = .ok (.aload_n 0, 1) := by decide +kernel
theorem dX6_sitDown_11 : decode cX6_sitDown 11 = .ok (.iconst 0, 1) := by decide +kernel
theorem dX6_sitDown_12 : decode cX6_sitDown 12 = .ok (.putfield 36, 3) := by decide +kernel
theorem dX6_sitDown_15 : decode cX6_sitDown 15 = .ok (.aload_n 0, 1) := by decide +kernel
theorem dX6_sitDown_16 : decode cX6_sitDown 16 = .ok (.iconst 0, 1) := by decide +kernel
theorem dX6_sitDown_17 : decode cX6_sitDown 17 = .ok (.putfield 39, 3) := by decide +kernel
theorem dX6_sitDown_20 : decode cX6_sitDown 20 = .ok (.aload_n 0, 1) := by decide +kernel
theorem dX6_sitDown_21 : decode cX6_sitDown 21 = .ok (.iconst 0, 1) := by decide +kernel
theorem dX6_sitDown_22 : decode cX6_sitDown 22 = .ok (.putfield 42, 3) := by decide +kernel
theorem dX6_sitDown_25 : decode cX6_sitDown 25 = .ok (.aload_n 0, 1) := by decide +kernel
theorem dX6_sitDown_26 : decode cX6_sitDown 26 = .ok (.bipush (-4), 2) := by decide +kernel
theorem dX6_sitDown_28 : decode cX6_sitDown 28 = .ok (.putfield 9, 3) := by decide +kernel
theorem dX6_sitDown_31 : decode cX6_sitDown 31 = .ok (.return_, 1) := by decide +kernel
theorem dX6_sits_0 : decode cX6_sits 0 = .ok (.aload_n 0, 1) := by decide +kernel
theorem dX6_sits_1 : decode cX6_sits 1 = .ok (.getfield 9, 3) := by decide +kernel
theorem dX6_sits_4 : decode cX6_sits 4 = .ok (.bipush (-4), 2) := by decide +kernel
theorem dX6_sits_6 : decode cX6_sits 6 = .ok (.if_icmp .ne 7, 3) := by decide +kernel
theorem dX6_sits_9 : decode cX6_sits 9 = .ok (.iconst 1, 1) := by decide +kernel
theorem dX6_sits_10 : decode cX6_sits 10 = .ok (.goto 4, 3) := by decide +kernel
theorem dX6_sits_13 : decode cX6_sits 13 = .ok (.iconst 0, 1) := by decide +kernel
theorem dX6_sits_14 : decode cX6_sits 14 = .ok (.ireturn, 1) := by decide +kernel
theorem dX6_canEat_0 : decode cX6_canEat 0 = .ok (.aload_n 0, 1) := by decide +kernel
theorem dX6_canEat_1 : decode cX6_canEat 1 = .ok (.invokevirtual 46, 3) := by decide +kernel
theorem dX6_canEat_4 : decode cX6_canEat 4 = .ok (.ifCond .eq 14, 3) := by decide +kernel
theorem dX6_canEat_7 : decode cX6_canEat 7 = .ok (.aload_n 0, 1) := by decide +kernel
theorem dX6_canEat_8 : decode cX6_canEat 8 = .ok (.getfield 33, 3) := by decide +kernel
theorem dX6_canEat_11 : decode cX6_canEat 11 = .ok (.ifCond .le 7, 3) := by decide +kernel
theorem dX6_canEat_14 : decode cX6_canEat 14 = .ok (.iconst 1, 1) := by decide +kernel
theorem dX6_canEat_15 : decode cX6_canEat 15 = .ok (.goto 4, 3) := by decide +kernel
theorem dX6_canEat_18 : decode cX6_canEat 18 = .ok (.iconst 0, 1) := by decide +kernel
theorem dX6_canEat_19 : decode cX6_canEat 19 = .ok (.ireturn, 1) := by decide +kernel
theorem dX6_eatCrust_0 : decode cX6_eatCrust 0 = .ok (.aload_n 0, 1) := by decide +kernel
theorem dX6_eatCrust_1 : decode cX6_eatCrust 1 = .ok (.invokevirtual 50, 3) := by decide +kernel
theorem dX6_eatCrust_4 : decode cX6_eatCrust 4 = .ok (.ifCond .eq 28, 3) := by decide +kernel
theorem dX6_eatCrust_7 : decode cX6_eatCrust 7 = .ok (.aload_n 0, 1) := by decide +kernel
theorem dX6_eatCrust_8 : decode cX6_eatCrust 8 = .ok (.dup, 1) := by decide +kernel
theorem dX6_eatCrust_9 : decode cX6_eatCrust 9 = .ok (.getfield 33, 3) := by decide +kernel
theorem dX6_eatCrust_12 : decode cX6_eatCrust 12 = .ok (.iconst 1, 1) := by decide +kernel
theorem dX6_eatCrust_13 : decode cX6_eatCrust 13 = .ok (.isub, 1) := by decide +kernel
theorem dX6_eatCrust_14 : decode cX6_eatCrust 14 = .ok (.putfield 33, 3) := by decide +kernel
theorem dX6_eatCrust_17 : decode cX6_eatCrust 17 = .ok (.aload_n 0, 1) := by decide +kernel
theorem dX6_eatCrust_18 : decode cX6_eatCrust 18 = .ok (.iconst 0, 1) := by decide +kernel
theorem dX6_eatCrust_19 : decode cX6_eatCrust 19 = .ok (.aload_n 0, 1) := by decide +kernel
theorem dX6_eatCrust_20 : decode cX6_eatCrust 20 = .ok (.getfield 30, 3) := by decide +kernel
theorem dX6_eatCrust_23 : decode cX6_eatCrust 23 = .ok (.bipush 6, 2) := by decide +kernel
theorem dX6_eatCrust_25 : decode cX6_eatCrust 25 = .ok (.isub, 1) := by decide +kernel
theorem dX6_eatCrust_26 : decode cX6_eatCrust 26 = .ok (.invokestatic 53, 3) := by decide +kernel
theorem dX6_eatCrust_29 : decode cX6_eatCrust 29 = .ok (.putfield 30, 3) := by decide +kernel
theorem dX6_eatCrust_32 : decode cX6_eatCrust 32 = .ok (.return_, 1) := by decide +kernel
theorem dX6_grows_0 : decode cX6_grows 0 = .ok (.aload_n 0, 1) := by decide +kernel
theorem dX6_grows_1 : decode cX6_grows 1 = .ok (.getfield 15, 3) := by decide +kernel
theorem dX6_grows_4 : decode cX6_grows 4 = .ok (.iconst 4, 1) := by decide +kernel
theorem dX6_grows_5 : decode cX6_grows 5 = .ok (.if_icmp .eq 11, 3) := by decide +kernel
theorem dX6_grows_8 : decode cX6_grows 8 = .ok (.aload_n 0, 1) := by decide +kernel
theorem dX6_grows_9 : decode cX6_grows 9 = .ok (.getfield 15, 3) := by decide +kernel
theorem dX6_grows_12 : decode cX6_grows 12 = .ok (.iconst 5, 1) := by decide +kernel
theorem dX6_grows_13 : decode cX6_grows 13 = .ok (.if_icmp .ne 12, 3) := by decide +kernel
theorem dX6_grows_16 : decode cX6_grows 16 = .ok (.aload_n 0, 1) := by decide +kernel
theorem dX6_grows_17 : decode cX6_grows 17 = .ok (.getfield 21, 3) := by decide +kernel
theorem dX6_grows_20 : decode cX6_grows 20 = .ok (.iconst 1, 1) := by decide +kernel
theorem dX6_grows_21 : decode cX6_grows 21 = .ok (.iadd, 1) := by decide +kernel
theorem dX6_grows_22 : decode cX6_grows 22 = .ok (.goto 7, 3) := by decide +kernel
theorem dX6_grows_25 : decode cX6_grows 25 = .ok (.aload_n 0, 1) := by decide +kernel
theorem dX6_grows_26 : decode cX6_grows 26 = .ok (.getfield 21, 3) := by decide +kernel
theorem dX6_grows_29 : decode cX6_grows 29 = .ok (.istore_n 3, 1) := by decide +kernel
theorem dX6_grows_30 : decode cX6_grows 30 = .ok (.aload_n 0, 1) := by decide +kernel
theorem dX6_grows_31 : decode cX6_grows 31 = .ok (.getfield 15, 3) := by decide +kernel
theorem dX6_grows_34 : decode cX6_grows 34 = .ok (.iconst 2, 1) := by decide +kernel
theorem dX6_grows_35 : decode cX6_grows 35 = .ok (.if_icmp .ne 12, 3) := by decide +kernel
theorem dX6_grows_38 : decode cX6_grows 38 = .ok (.iconst 2, 1) := by decide +kernel
theorem dX6_grows_39 : decode cX6_grows 39 = .ok (.aload_n 0, 1) := by decide +kernel
theorem dX6_grows_40 : decode cX6_grows 40 = .ok (.getfield 39, 3) := by decide +kernel
theorem dX6_grows_43 : decode cX6_grows 43 = .ok (.imul, 1) := by decide +kernel
theorem dX6_grows_44 : decode cX6_grows 44 = .ok (.goto 7, 3) := by decide +kernel
theorem dX6_grows_47 : decode cX6_grows 47 = .ok (.aload_n 0, 1) := by decide +kernel
theorem dX6_grows_48 : decode cX6_grows 48 = .ok (.getfield 39, 3) := by decide +kernel
theorem dX6_grows_51 : decode cX6_grows 51 = .ok (.istore 4, 2) := by decide +kernel
theorem dX6_grows_53 : decode cX6_grows 53 = .ok (.iconst 0, 1) := by decide +kernel
theorem dX6_grows_54 : decode cX6_grows 54 = .ok (.iload_n 3, 1) := by decide +kernel
theorem dX6_grows_55 : decode cX6_grows 55 = .ok (.aload_n 0, 1) := by decide +kernel
theorem dX6_grows_56 : decode cX6_grows 56 = .ok (.iload_n 1, 1) := by decide +kernel
theorem dX6_grows_57 : decode cX6_grows 57 = .ok (.iload_n 2, 1) := by decide +kernel
theorem dX6_grows_58 : decode cX6_grows 58 = .ok (.invokevirtual 59, 3) := by decide +kernel
theorem dX6_grows_61 : decode cX6_grows 61 = .ok (.iadd, 1) := by decide +kernel
theorem dX6_grows_62 : decode cX6_grows 62 = .ok (.aload_n 0, 1) := by decide +kernel
theorem dX6_grows_63 : decode cX6_grows 63 = .ok (.invokevirtual 63, 3) := by decide +kernel
theorem dX6_grows_66 : decode cX6_grows 66 = .ok (.iadd, 1) := by decide +kernel
theorem dX6_grows_67 : decode cX6_grows 67 = .ok (.iload 4, 2) := by decide +kernel
theorem dX6_grows_69 : decode cX6_grows 69 = .ok (.isub, 1) := by decide +kernel
theorem dX6_grows_70 : decode cX6_grows 70 = .ok (.invokestatic 53, 3) := by decide +kernel
theorem dX6_grows_73 : decode cX6_grows 73 = .ok (.istore 5, 2) := by decide +kernel
theorem dX6_grows_75 : decode cX6_grows 75 = .ok (.aload_n 0, 1) := by decide +kernel
theorem dX6_grows_76 : decode cX6_grows 76 = .ok (.getfield 15, 3) := by decide +kernel
theorem dX6_grows_79 : decode cX6_grows 79 = .ok (.iconst 5, 1) := by decide +kernel
theorem dX6_grows_80 : decode cX6_grows 80 = .ok (.if_icmp .ne 14, 3) := by decide +kernel
theorem dX6_grows_83 : decode cX6_grows 83 = .ok (.iload_n 2, 1) := by decide +kernel
theorem dX6_grows_84 : decode cX6_grows 84 = .ok (.ifCond .eq 10, 3) := by decide +kernel
theorem dX6_grows_87 : decode cX6_grows 87 = .ok (.iload 5, 2) := by decide +kernel
theorem dX6_grows_89 : decode cX6_grows 89 = .ok (.iconst 2, 1) := by decide +kernel
theorem dX6_grows_90 : decode cX6_grows 90 = .ok (.idiv, 1) := by decide +kernel
theorem dX6_grows_91 : decode cX6_grows 91 = .ok (.goto 5, 3) := by decide +kernel
theorem dX6_grows_94 : decode cX6_grows 94 = .ok (.iload 5, 2) := by decide +kernel
theorem dX6_grows_96 : decode cX6_grows 96 = .ok (.ireturn, 1) := by decide +kernel
theorem dX6_chill_0 : decode cX6_chill 0 = .ok (.iload_n 1, 1) := by decide +kernel
theorem dX6_chill_1 : decode cX6_chill 1 = .ok (.iconst 1, 1) := by decide +kernel
theorem dX6_chill_2 : decode cX6_chill 2 = .ok (.if_icmp .ne 10, 3) := by decide +kernel
theorem dX6_chill_5 : decode cX6_chill 5 = .ok (.aload_n 0, 1) := by decide +kernel
theorem dX6_chill_6 : decode cX6_chill 6 = .ok (.getfield 24, 3) := by decide +kernel
theorem dX6_chill_9 : decode cX6_chill 9 = .ok (.goto 4, 3) := by decide +kernel
theorem dX6_chill_12 : decode cX6_chill 12 = .ok (.iconst 0, 1) := by decide +kernel
theorem dX6_chill_13 : decode cX6_chill 13 = .ok (.iload_n 2, 1) := by decide +kernel
theorem dX6_chill_14 : decode cX6_chill 14 = .ok (.ifCond .eq 10, 3) := by decide +kernel
theorem dX6_chill_17 : decode cX6_chill 17 = .ok (.aload_n 0, 1) := by decide +kernel
theorem dX6_chill_18 : decode cX6_chill 18 = .ok (.getfield 24, 3) := by decide +kernel
theorem dX6_chill_21 : decode cX6_chill 21 = .ok (.goto 4, 3) := by decide +kernel
theorem dX6_chill_24 : decode cX6_chill 24 = .ok (.iconst 0, 1) := by decide +kernel
theorem dX6_chill_25 : decode cX6_chill 25 = .ok (.iadd, 1) := by decide +kernel
theorem dX6_chill_26 : decode cX6_chill 26 = .ok (.istore_n 3, 1) := by decide +kernel
theorem dX6_chill_27 : decode cX6_chill 27 = .ok (.aload_n 0, 1) := by decide +kernel
theorem dX6_chill_28 : decode cX6_chill 28 = .ok (.getfield 42, 3) := by decide +kernel
theorem dX6_chill_31 : decode cX6_chill 31 = .ok (.ifCond .eq 9, 3) := by decide +kernel
theorem dX6_chill_34 : decode cX6_chill 34 = .ok (.iload_n 3, 1) := by decide +kernel
theorem dX6_chill_35 : decode cX6_chill 35 = .ok (.iconst 2, 1) := by decide +kernel
theorem dX6_chill_36 : decode cX6_chill 36 = .ok (.idiv, 1) := by decide +kernel
theorem dX6_chill_37 : decode cX6_chill 37 = .ok (.goto 4, 3) := by decide +kernel
theorem dX6_chill_40 : decode cX6_chill 40 = .ok (.iload_n 3, 1) := by decide +kernel
theorem dX6_chill_41 : decode cX6_chill 41 = .ok (.ireturn, 1) := by decide +kernel
theorem dX6_care_0 : decode cX6_care 0 = .ok (.aload_n 0, 1) := by decide +kernel
theorem dX6_care_1 : decode cX6_care 1 = .ok (.getfield 36, 3) := by decide +kernel
theorem dX6_care_4 : decode cX6_care 4 = .ok (.iconst 1, 1) := by decide +kernel
theorem dX6_care_5 : decode cX6_care 5 = .ok (.if_icmp .ne 5, 3) := by decide +kernel
theorem dX6_care_8 : decode cX6_care 8 = .ok (.iconst 0, 1) := by decide +kernel
theorem dX6_care_9 : decode cX6_care 9 = .ok (.ireturn, 1) := by decide +kernel
theorem dX6_care_10 : decode cX6_care 10 = .ok (.aload_n 0, 1) := by decide +kernel
theorem dX6_care_11 : decode cX6_care 11 = .ok (.getfield 36, 3) := by decide +kernel
theorem dX6_care_14 : decode cX6_care 14 = .ok (.iconst 2, 1) := by decide +kernel
theorem dX6_care_15 : decode cX6_care 15 = .ok (.if_icmp .ne 10, 3) := by decide +kernel
theorem dX6_care_18 : decode cX6_care 18 = .ok (.aload_n 0, 1) := by decide +kernel
theorem dX6_care_19 : decode cX6_care 19 = .ok (.getfield 27, 3) := by decide +kernel
theorem dX6_care_22 : decode cX6_care 22 = .ok (.goto 9, 3) := by decide +kernel
theorem dX6_care_25 : decode cX6_care 25 = .ok (.aload_n 0, 1) := by decide +kernel
theorem dX6_care_26 : decode cX6_care 26 = .ok (.getfield 27, 3) := by decide +kernel
theorem dX6_care_29 : decode cX6_care 29 = .ok (.iconst 2, 1) := by decide +kernel
theorem dX6_care_30 : decode cX6_care 30 = .ok (.idiv, 1) := by decide +kernel
theorem dX6_care_31 : decode cX6_care 31 = .ok (.istore_n 1, 1) := by decide +kernel
theorem dX6_care_32 : decode cX6_care 32 = .ok (.aload_n 0, 1) := by decide +kernel
theorem dX6_care_33 : decode cX6_care 33 = .ok (.getfield 15, 3) := by decide +kernel
theorem dX6_care_36 : decode cX6_care 36 = .ok (.iconst 3, 1) := by decide +kernel
theorem dX6_care_37 : decode cX6_care 37 = .ok (.if_icmp .ne 9, 3) := by decide +kernel
theorem dX6_care_40 : decode cX6_care 40 = .ok (.iconst 2, 1) := by decide +kernel
theorem dX6_care_41 : decode cX6_care 41 = .ok (.iload_n 1, 1) := by decide +kernel
theorem dX6_care_42 : decode cX6_care 42 = .ok (.imul, 1) := by decide +kernel
theorem dX6_care_43 : decode cX6_care 43 = .ok (.goto 4, 3) := by decide +kernel
theorem dX6_care_46 : decode cX6_care 46 = .ok (.iload_n 1, 1) := by decide +kernel
theorem dX6_care_47 : decode cX6_care 47 = .ok (.ireturn, 1) := by decide +kernel
theorem dX6_passHour_0 : decode cX6_passHour 0 = .ok (.aload_n 0, 1) := by decide +kernel
theorem dX6_passHour_1 : decode cX6_passHour 1 = .ok (.invokevirtual 46, 3) := by decide +kernel
theorem dX6_passHour_4 : decode cX6_passHour 4 = .ok (.ifCond .ne 4, 3) := by decide +kernel
theorem dX6_passHour_7 : decode cX6_passHour 7 = .ok (.return_, 1) := by decide +kernel
theorem dX6_passHour_8 : decode cX6_passHour 8 = .ok (.aload_n 0, 1) := by decide +kernel
theorem dX6_passHour_9 : decode cX6_passHour 9 = .ok (.sipush 999, 3) := by decide +kernel
theorem dX6_passHour_12 : decode cX6_passHour 12 = .ok (.aload_n 0, 1) := by decide +kernel
theorem dX6_passHour_13 : decode cX6_passHour 13 = .ok (.getfield 30, 3) := by decide +kernel
theorem dX6_passHour_16 : decode cX6_passHour 16 = .ok (.aload_n 0, 1) := by decide +kernel
theorem dX6_passHour_17 : decode cX6_passHour 17 = .ok (.iload_n 1, 1) := by decide +kernel
theorem dX6_passHour_18 : decode cX6_passHour 18 = .ok (.iload_n 2, 1) := by decide +kernel
theorem dX6_passHour_19 : decode cX6_passHour 19 = .ok (.invokevirtual 67, 3) := by decide +kernel
theorem dX6_passHour_22 : decode cX6_passHour 22 = .ok (.iadd, 1) := by decide +kernel
theorem dX6_passHour_23 : decode cX6_passHour 23 = .ok (.invokestatic 70, 3) := by decide +kernel
theorem dX6_passHour_26 : decode cX6_passHour 26 = .ok (.putfield 30, 3) := by decide +kernel
theorem dX6_passHour_29 : decode cX6_passHour 29 = .ok (.aload_n 0, 1) := by decide +kernel
theorem dX6_passHour_30 : decode cX6_passHour 30 = .ok (.getfield 30, 3) := by decide +kernel
theorem dX6_passHour_33 : decode cX6_passHour 33 = .ok (.aload_n 0, 1) := by decide +kernel
theorem dX6_passHour_34 : decode cX6_passHour 34 = .ok (.getfield 18, 3) := by decide +kernel
theorem dX6_passHour_37 : decode cX6_passHour 37 = .ok (.if_icmp .lt 8, 3) := by decide +kernel
theorem dX6_passHour_40 : decode cX6_passHour 40 = .ok (.aload_n 0, 1) := by decide +kernel
theorem dX6_passHour_41 : decode cX6_passHour 41 = .ok (.iload_n 3, 1) := by decide +kernel
theorem dX6_passHour_42 : decode cX6_passHour 42 = .ok (.putfield 9, 3) := by decide +kernel
theorem dX6_passHour_45 : decode cX6_passHour 45 = .ok (.return_, 1) := by decide +kernel
theorem dX7_init_0 : decode cX7_init 0 = .ok (.aload_n 0, 1) := by decide +kernel
theorem dX7_init_1 : decode cX7_init 1 = .ok (.invokespecial 3, 3) := by decide +kernel
theorem dX7_init_4 : decode cX7_init 4 = .ok (.aload_n 0, 1) := by decide +kernel
theorem dX7_init_5 : decode cX7_init 5 = .ok (.bipush 90, 2) := by decide +kernel
theorem dX7_init_7 : decode cX7_init 7 = .ok (.newarray .int, 2) := by decide +kernel
theorem dX7_init_9 : decode cX7_init 9 = .ok (.putfield 9, 3) := by decide +kernel
theorem dX7_init_12 : decode cX7_init 12 = .ok (.return_, 1) := by decide +kernel
theorem dX7_put_0 : decode cX7_put 0 = .ok (.aload_n 0, 1) := by decide +kernel
theorem dX7_put_1 : decode cX7_put 1 = .ok (.getfield 15, 3) := by decide +kernel
theorem dX7_put_4 : decode cX7_put 4 = .ok (.bipush 90, 2) := by decide +kernel
theorem dX7_put_6 : decode cX7_put 6 = .ok (.if_icmp .lt 5, 3) := by decide +kernel
theorem dX7_put_9 : decode cX7_put 9 = .ok (.iconst 0, 1) := by decide +kernel
theorem dX7_put_10 : decode cX7_put 10 = .ok (.ireturn, 1) := by decide +kernel
theorem dX7_put_11 : decode cX7_put 11 = .ok (.aload_n 0, 1) := by decide +kernel
theorem dX7_put_12 : decode cX7_put 12 = .ok (.getfield 9, 3) := by decide +kernel
theorem dX7_put_15 : decode cX7_put 15 = .ok (.aload_n 0, 1) := by decide +kernel
theorem dX7_put_16 : decode cX7_put 16 = .ok (.getfield 15, 3) := by decide +kernel
theorem dX7_put_19 : decode cX7_put 19 = .ok (.iload_n 1, 1) := by decide +kernel
theorem dX7_put_20 : decode cX7_put 20 = .ok (.iastore, 1) := by decide +kernel
theorem dX7_put_21 : decode cX7_put 21 = .ok (.aload_n 0, 1) := by decide +kernel
theorem dX7_put_22 : decode cX7_put 22 = .ok (.dup, 1) := by decide +kernel
theorem dX7_put_23 : decode cX7_put 23 = .ok (.getfield 15, 3) := by decide +kernel
theorem dX7_put_26 : decode cX7_put 26 = .ok (.iconst 1, 1) := by decide +kernel
theorem dX7_put_27 : decode cX7_put 27 = .ok (.iadd, 1) := by decide +kernel
theorem dX7_put_28 : decode cX7_put 28 = .ok (.putfield 15, 3) := by decide +kernel
theorem dX7_put_31 : decode cX7_put 31 = .ok (.iconst 1, 1) := by decide +kernel
theorem dX7_put_32 : decode cX7_put 32 = .ok (.ireturn, 1) := by decide +kernel
theorem dX7_readInto_0 : decode cX7_readInto 0 = .ok (.aload_n 0, 1) := by decide +kernel
theorem dX7_readInto_1 : decode cX7_readInto 1 = .ok (.iconst 0, 1) := by decide +kernel
theorem dX7_readInto_2 : decode cX7_readInto 2 = .ok (.putfield 19, 3) := by decide +kernel
theorem dX7_readInto_5 : decode cX7_readInto 5 = .ok (.aload_n 0, 1) := by decide +kernel
theorem dX7_readInto_6 : decode cX7_readInto 6 = .ok (.iconst (-1), 1) := by decide +kernel
theorem dX7_readInto_7 : decode cX7_readInto 7 = .ok (.putfield 22, 3) := by decide +kernel
theorem dX7_readInto_10 : decode cX7_readInto 10 = .ok (.aload_n 0, 1) := by decide +kernel
theorem dX7_readInto_11 : decode cX7_readInto 11 = .ok (.bipush 119, 2) := by decide +kernel
theorem dX7_readInto_13 : decode cX7_readInto 13 = .ok (.invokevirtual 25, 3) := by decide +kernel
theorem dX7_readInto_16 : decode cX7_readInto 16 = .ok (.aload_n 0, 1) := by decide +kernel
theorem dX7_readInto_17 : decode cX7_readInto 17 = .ok (.iconst 1, 1) := by decide +kernel
theorem dX7_readInto_18 : decode cX7_readInto 18 = .ok (.bipush 24, 2) := by decide +kernel
theorem dX7_readInto_20 : decode cX7_readInto 20 = .ok (.invokevirtual 29, 3) := by decide +kernel
theorem dX7_readInto_23 : decode cX7_readInto 23 = .ok (.istore_n 2, 1) := by decide +kernel
theorem dX7_readInto_24 : decode cX7_readInto 24 = .ok (.aload_n 0, 1) := by decide +kernel
theorem dX7_readInto_25 : decode cX7_readInto 25 = .ok (.bipush 44, 2) := by decide +kernel
theorem dX7_readInto_27 : decode cX7_readInto 27 = .ok (.invokevirtual 25, 3) := by decide +kernel
theorem dX7_readInto_30 : decode cX7_readInto 30 = .ok (.aload_n 0, 1) := by decide +kernel
theorem dX7_readInto_31 : decode cX7_readInto 31 = .ok (.iconst 0, 1) := by decide +kernel
theorem dX7_readInto_32 : decode cX7_readInto 32 = .ok (.bipush 9, 2) := by decide +kernel
theorem dX7_readInto_34 : decode cX7_readInto 34 = .ok (.invokevirtual 29, 3) := by decide +kernel
theorem dX7_readInto_37 : decode cX7_readInto 37 = .ok (.istore_n 3, 1) := by decide +kernel
theorem dX7_readInto_38 : decode cX7_readInto 38 = .ok (.aload_n 0, 1) := by decide +kernel
theorem dX7_readInto_39 : decode cX7_readInto 39 = .ok (.bipush 59, 2) := by decide +kernel
theorem dX7_readInto_41 : decode cX7_readInto 41 = .ok (.invokevirtual 25, 3) := by decide +kernel
theorem dX7_readInto_44 : decode cX7_readInto 44 = .ok (.aload_n 1, 1) := by decide +kernel
theorem dX7_readInto_45 : decode cX7_readInto 45 = .ok (.iload_n 2, 1) := by decide +kernel
theorem dX7_readInto_46 : decode cX7_readInto 46 = .ok (.iload_n 3, 1) := by decide +kernel
theorem dX7_readInto_47 : decode cX7_readInto 47 = .ok (.invokevirtual 33, 3) := by decide +kernel
theorem dX7_readInto_50 : decode cX7_readInto 50 = .ok (.aload_n 0, 1) := by decide +kernel
theorem dX7_readInto_51 : decode cX7_readInto 51 = .ok (.aload_n 1, 1) := by decide +kernel
theorem dX7_readInto_52 : decode cX7_readInto 52 = .ok (.invokevirtual 39, 3) := by decide +kernel
theorem dX7_readInto_55 : decode cX7_readInto 55 = .ok (.iconst 1, 1) := by decide +kernel
theorem dX7_readInto_56 : decode cX7_readInto 56 = .ok (.istore 4, 2) := by decide +kernel
theorem dX7_readInto_58 : decode cX7_readInto 58 = .ok (.iload 4, 2) := by decide +kernel
theorem dX7_readInto_60 : decode cX7_readInto 60 = .ok (.bipush 6, 2) := by decide +kernel
theorem dX7_readInto_62 : decode cX7_readInto 62 = .ok (.if_icmp .ge 25, 3) := by decide +kernel
theorem dX7_readInto_65 : decode cX7_readInto 65 = .ok (.aload_n 0, 1) := by decide +kernel
theorem dX7_readInto_66 : decode cX7_readInto 66 = .ok (.getfield 19, 3) := by decide +kernel
theorem dX7_readInto_69 : decode cX7_readInto 69 = .ok (.aload_n 0, 1) := by decide +kernel
theorem dX7_readInto_70 : decode cX7_readInto 70 = .ok (.getfield 15, 3) := by decide +kernel
theorem dX7_readInto_73 : decode cX7_readInto 73 = .ok (.if_icmp .ge 14, 3) := by decide +kernel
theorem dX7_readInto_76 : decode cX7_readInto 76 = .ok (.aload_n 0, 1) := by decide +kernel
theorem dX7_readInto_77 : decode cX7_readInto 77 = .ok (.aload_n 1, 1) := by decide +kernel
theorem dX7_readInto_78 : decode cX7_readInto 78 = .ok (.invokevirtual 39, 3) := by decide +kernel
theorem dX7_readInto_81 : decode cX7_readInto 81 = .ok (.iinc 4 1, 3) := by decide +kernel
theorem dX7_readInto_84 : decode cX7_readInto 84 = .ok (.goto (-26), 3) := by decide +kernel
theorem dX7_readInto_87 : decode cX7_readInto 87 = .ok (.aload_n 0, 1) := by decide +kernel
theorem dX7_readInto_88 : decode cX7_readInto 88 = .ok (.getfield 22, 3) := by decide +kernel
theorem dX7_readInto_91 : decode cX7_readInto 91 = .ok (.iconst (-1), 1) := by decide +kernel
theorem dX7_readInto_92 : decode cX7_readInto 92 = .ok (.if_icmp .ne 22, 3) := by decide +kernel
theorem dX7_readInto_95 : decode cX7_readInto 95 = .ok (.aload_n 0, 1) := by decide +kernel
theorem dX7_readInto_96 : decode cX7_readInto 96 = .ok (.getfield 19, 3) := by decide +kernel
theorem dX7_readInto_99 : decode cX7_readInto 99 = .ok (.aload_n 0, 1) := by decide +kernel
theorem dX7_readInto_100 : decode cX7_readInto 100 = .ok (.getfield 15, 3) := by decide +kernel
theorem dX7_readInto_103 : decode cX7_readInto 103 = .ok (.if_icmp .ge 11, 3) := by decide +kernel
theorem dX7_readInto_106 : decode cX7_readInto 106 = .ok (.aload_n 0, 1) := by decide +kernel
theorem dX7_readInto_107 : decode cX7_readInto 107 = .ok (.aload_n 0, 1) := by decide +kernel
theorem dX7_readInto_108 : decode cX7_readInto 108 = .ok (.getfield 19, 3) := by decide +kernel
theorem dX7_readInto_111 : decode cX7_readInto 111 = .ok (.putfield 22, 3) := by decide +kernel
theorem dX7_readInto_114 : decode cX7_readInto 114 = .ok (.aload_n 0, 1) := by decide +kernel
theorem dX7_readInto_115 : decode cX7_readInto 115 = .ok (.getfield 22, 3) := by decide +kernel
theorem dX7_readInto_118 : decode cX7_readInto 118 = .ok (.ireturn, 1) := by decide +kernel
theorem dX7_readSitter_0 : decode cX7_readSitter 0 = .ok (.aload_n 0, 1) := by decide +kernel
theorem dX7_readSitter_1 : decode cX7_readSitter 1 = .ok (.invokevirtual 43, 3) := by decide +kernel
theorem dX7_readSitter_4 : decode cX7_readSitter 4 = .ok (.istore_n 2, 1) := by decide +kernel
theorem dX7_readSitter_5 : decode cX7_readSitter 5 = .ok (.aload_n 0, 1) := by decide +kernel
theorem dX7_readSitter_6 : decode cX7_readSitter 6 = .ok (.bipush 10, 2) := by decide +kernel
theorem dX7_readSitter_8 : decode cX7_readSitter 8 = .ok (.bipush 99, 2) := by decide +kernel
theorem dX7_readSitter_10 : decode cX7_readSitter 10 = .ok (.invokevirtual 29, 3) := by decide +kernel
theorem dX7_readSitter_13 : decode cX7_readSitter 13 = .ok (.istore_n 3, 1) := by decide +kernel
theorem dX7_readSitter_14 : decode cX7_readSitter 14 = .ok (.aload_n 0, 1) := by decide +kernel
theorem dX7_readSitter_15 : decode cX7_readSitter 15 = .ok (.bipush 44, 2) := by decide +kernel
theorem dX7_readSitter_17 : decode cX7_readSitter 17 = .ok (.invokevirtual 25, 3) := by decide +kernel
theorem dX7_readSitter_20 : decode cX7_readSitter 20 = .ok (.aload_n 0, 1) := by decide +kernel
theorem dX7_readSitter_21 : decode cX7_readSitter 21 = .ok (.iconst 0, 1) := by decide +kernel
theorem dX7_readSitter_22 : decode cX7_readSitter 22 = .ok (.bipush 9, 2) := by decide +kernel
theorem dX7_readSitter_24 : decode cX7_readSitter 24 = .ok (.invokevirtual 29, 3) := by decide +kernel
theorem dX7_readSitter_27 : decode cX7_readSitter 27 = .ok (.istore 4, 2) := by decide +kernel
theorem dX7_readSitter_29 : decode cX7_readSitter 29 = .ok (.aload_n 0, 1) := by decide +kernel
theorem dX7_readSitter_30 : decode cX7_readSitter 30 = .ok (.bipush 44, 2) := by decide +kernel
theorem dX7_readSitter_32 : decode cX7_readSitter 32 = .ok (.invokevirtual 25, 3) := by decide +kernel
theorem dX7_readSitter_35 : decode cX7_readSitter 35 = .ok (.aload_n 0, 1) := by decide +kernel
theorem dX7_readSitter_36 : decode cX7_readSitter 36 = .ok (.iconst 0, 1) := by decide +kernel
theorem dX7_readSitter_37 : decode cX7_readSitter 37 = .ok (.bipush 9, 2) := by decide +kernel
theorem dX7_readSitter_39 : decode cX7_readSitter 39 = .ok (.invokevirtual 29, 3) := by decide +kernel
theorem dX7_readSitter_42 : decode cX7_readSitter 42 = .ok (.istore 5, 2) := by decide +kernel
theorem dX7_readSitter_44 : decode cX7_readSitter 44 = .ok (.aload_n 0, 1) := by decide +kernel
theorem dX7_readSitter_45 : decode cX7_readSitter 45 = .ok (.bipush 44, 2) := by decide +kernel
theorem dX7_readSitter_47 : decode cX7_readSitter 47 = .ok (.invokevirtual 25, 3) := by decide +kernel
theorem dX7_readSitter_50 : decode cX7_readSitter 50 = .ok (.aload_n 0, 1) := by decide +kernel
theorem dX7_readSitter_51 : decode cX7_readSitter 51 = .ok (.iconst 0, 1) := by decide +kernel
theorem dX7_readSitter_52 : decode cX7_readSitter 52 = .ok (.bipush 9, 2) := by decide +kernel
theorem dX7_readSitter_54 : decode cX7_readSitter 54 = .ok (.invokevirtual 29, 3) := by decide +kernel
theorem dX7_readSitter_57 : decode cX7_readSitter 57 = .ok (.istore 6, 2) := by decide +kernel
theorem dX7_readSitter_59 : decode cX7_readSitter 59 = .ok (.aload_n 0, 1) := by decide +kernel
theorem dX7_readSitter_60 : decode cX7_readSitter 60 = .ok (.bipush 59, 2) := by decide +kernel
theorem dX7_readSitter_62 : decode cX7_readSitter 62 = .ok (.invokevirtual 25, 3) := by decide +kernel
theorem dX7_readSitter_65 : decode cX7_readSitter 65 = .ok (.aload_n 0, 1) := by decide +kernel
theorem dX7_readSitter_66 : decode cX7_readSitter 66 = .ok (.getfield 22, 3) := by decide +kernel
theorem dX7_readSitter_69 : decode cX7_readSitter 69 = .ok (.iconst (-1), 1) := by decide +kernel
theorem dX7_readSitter_70 : decode cX7_readSitter 70 = .ok (.if_icmp .ne 12, 3) := by decide +kernel
theorem dX7_readSitter_73 : decode cX7_readSitter 73 = .ok (.aload_n 1, 1) := by decide +kernel
theorem dX7_readSitter_74 : decode cX7_readSitter 74 = .ok (.getfield 47, 3) := by decide +kernel
theorem dX7_readSitter_77 : decode cX7_readSitter 77 = .ok (.bipush 6, 2) := by decide +kernel
theorem dX7_readSitter_79 : decode cX7_readSitter 79 = .ok (.if_icmp .lt 4, 3) := by decide +kernel
theorem dX7_readSitter_82 : decode cX7_readSitter 82 = .ok (.return_, 1) := by decide +kernel
theorem dX7_readSitter_83 : decode cX7_readSitter 83 = .ok (.aload_n 1, 1) := by decide +kernel
theorem dX7_readSitter_84 : decode cX7_readSitter 84 = .ok (.getfield 50, 3) := by decide +kernel
theorem dX7_readSitter_87 : decode cX7_readSitter 87 = .ok (.aload_n 1, 1) := by decide +kernel
theorem dX7_readSitter_88 : decode cX7_readSitter 88 = .ok (.getfield 47, 3) := by decide +kernel
theorem dX7_readSitter_91 : decode cX7_readSitter 91 = .ok (.aaload, 1) := by decide +kernel
theorem dX7_readSitter_92 : decode cX7_readSitter 92 = .ok (.astore 7, 2) := by decide +kernel
theorem dX7_readSitter_94 : decode cX7_readSitter 94 = .ok (.aload 7, 2) := by decide +kernel
theorem dX7_readSitter_96 : decode cX7_readSitter 96 = .ok (.iload_n 2, 1) := by decide +kernel
theorem dX7_readSitter_97 : decode cX7_readSitter 97 = .ok (.putfield 54, 3) := by decide +kernel
theorem dX7_readSitter_100 : decode cX7_readSitter 100 = .ok (.aload 7, 2) := by decide +kernel
theorem dX7_readSitter_102 : decode cX7_readSitter 102 = .ok (.iload_n 3, 1) := by decide +kernel
theorem dX7_readSitter_103 : decode cX7_readSitter 103 = .ok (.putfield 59, 3) := by decide +kernel
theorem dX7_readSitter_106 : decode cX7_readSitter 106 = .ok (.aload 7, 2) := by decide +kernel
theorem dX7_readSitter_108 : decode cX7_readSitter 108 = .ok (.iload 4, 2) := by decide +kernel
theorem dX7_readSitter_110 : decode cX7_readSitter 110 = .ok (.putfield 62, 3) := by decide +kernel
theorem dX7_readSitter_113 : decode cX7_readSitter 113 = .ok (.aload 7, 2) := by decide +kernel
theorem dX7_readSitter_115 : decode cX7_readSitter 115 = .ok (.iload 5, 2) := by decide +kernel
theorem dX7_readSitter_117 : decode cX7_readSitter 117 = .ok (.putfield 65, 3) := by decide +kernel
theorem dX7_readSitter_120 : decode cX7_readSitter 120 = .ok (.aload 7, 2) := by decide +kernel
theorem dX7_readSitter_122 : decode cX7_readSitter 122 = .ok (.iload 6, 2) := by decide +kernel
theorem dX7_readSitter_124 : decode cX7_readSitter 124 = .ok (.putfield 68, 3) := by decide +kernel
theorem dX7_readSitter_127 : decode cX7_readSitter 127 = .ok (.aload 7, 2) := by decide +kernel
theorem dX7_readSitter_129 : decode cX7_readSitter 129 = .ok (.aload_n 1, 1) := by decide +kernel
theorem dX7_readSitter_130 : decode cX7_readSitter 130 = .ok (.getfield 71, 3) := by decide +kernel
theorem dX7_readSitter_133 : decode cX7_readSitter 133 = .ok (.invokevirtual 74, 3) := by decide +kernel
theorem dX7_readSitter_136 : decode cX7_readSitter 136 = .ok (.aload_n 1, 1) := by decide +kernel
theorem dX7_readSitter_137 : decode cX7_readSitter 137 = .ok (.dup, 1) := by decide +kernel
theorem dX7_readSitter_138 : decode cX7_readSitter 138 = .ok (.getfield 47, 3) := by decide +kernel
theorem dX7_readSitter_141 : decode cX7_readSitter 141 = .ok (.iconst 1, 1) := by decide +kernel
theorem dX7_readSitter_142 : decode cX7_readSitter 142 = .ok (.iadd, 1) := by decide +kernel
theorem dX7_readSitter_143 : decode cX7_readSitter 143 = .ok (.putfield 47, 3) := by decide +kernel
theorem dX7_readSitter_146 : decode cX7_readSitter 146 = .ok (.return_, 1) := by decide +kernel
theorem dX7_here_0 : decode cX7_here 0 = .ok (.aload_n 0, 1) := by decide +kernel
theorem dX7_here_1 : decode cX7_here 1 = .ok (.getfield 19, 3) := by decide +kernel
theorem dX7_here_4 : decode cX7_here 4 = .ok (.ifCond .lt 26, 3) := by decide +kernel
theorem dX7_here_7 : decode cX7_here 7 = .ok (.aload_n 0, 1) := by decide +kernel
theorem dX7_here_8 : decode cX7_here 8 = .ok (.getfield 19, 3) := by decide +kernel
theorem dX7_here_11 : decode cX7_here 11 = .ok (.aload_n 0, 1) := by decide +kernel
theorem dX7_here_12 : decode cX7_here 12 = .ok (.getfield 15, 3) := by decide +kernel
theorem dX7_here_15 : decode cX7_here 15 = .ok (.if_icmp .ge 15, 3) := by decide +kernel
theorem dX7_here_18 : decode cX7_here 18 = .ok (.aload_n 0, 1) := by decide +kernel
theorem dX7_here_19 : decode cX7_here 19 = .ok (.getfield 9, 3) := by decide +kernel
theorem dX7_here_22 : decode cX7_here 22 = .ok (.aload_n 0, 1) := by decide +kernel
theorem dX7_here_23 : decode cX7_here 23 = .ok (.getfield 19, 3) := by decide +kernel
theorem dX7_here_26 : decode cX7_here 26 = .ok (.iaload, 1) := by decide +kernel
theorem dX7_here_27 : decode cX7_here 27 = .ok (.goto 4, 3) := by decide +kernel
theorem dX7_here_30 : decode cX7_here 30 = .ok (.iconst (-1), 1) := by decide +kernel
theorem dX7_here_31 : decode cX7_here 31 = .ok (.ireturn, 1) := by decide +kernel
theorem dX7_isFigure_0 : decode cX7_isFigure 0 = .ok (.aload_n 0, 1) := by decide +kernel
theorem dX7_isFigure_1 : decode cX7_isFigure 1 = .ok (.invokevirtual 77, 3) := by decide +kernel
theorem dX7_isFigure_4 : decode cX7_isFigure 4 = .ok (.bipush 48, 2) := by decide +kernel
theorem dX7_isFigure_6 : decode cX7_isFigure 6 = .ok (.bipush 57, 2) := by decide +kernel
theorem dX7_isFigure_8 : decode cX7_isFigure 8 = .ok (.invokestatic 80, 3) := by decide +kernel
theorem dX7_isFigure_11 : decode cX7_isFigure 11 = .ok (.ireturn, 1) := by decide +kernel
theorem dX7_expect_0 : decode cX7_expect 0 = .ok (.aload_n 0, 1) := by decide +kernel
theorem dX7_expect_1 : decode cX7_expect 1 = .ok (.getfield 22, 3) := by decide +kernel
theorem dX7_expect_4 : decode cX7_expect 4 = .ok (.iconst (-1), 1) := by decide +kernel
theorem dX7_expect_5 : decode cX7_expect 5 = .ok (.if_icmp .eq 4, 3) := by decide +kernel
theorem dX7_expect_8 : decode cX7_expect 8 = .ok (.return_, 1) := by decide +kernel
theorem dX7_expect_9 : decode cX7_expect 9 = .ok (.aload_n 0, 1) := by decide +kernel
theorem dX7_expect_10 : decode cX7_expect 10 = .ok (.invokevirtual 77, 3) := by decide +kernel
theorem dX7_expect_13 : decode cX7_expect 13 = .ok (.iload_n 1, 1) := by decide +kernel
theorem dX7_expect_14 : decode cX7_expect 14 = .ok (.if_icmp .ne 16, 3) := by decide +kernel
theorem dX7_expect_17 : decode cX7_expect 17 = .ok (.aload_n 0, 1) := by decide +kernel
theorem dX7_expect_18 : decode cX7_expect 18 = .ok (.dup, 1) := by decide +kernel
theorem dX7_expect_19 : decode cX7_expect 19 = .ok (.getfield 19, 3) := by decide +kernel
theorem dX7_expect_22 : decode cX7_expect 22 = .ok (.iconst 1, 1) := by decide +kernel
theorem dX7_expect_23 : decode cX7_expect 23 = .ok (.iadd, 1) := by decide +kernel
theorem dX7_expect_24 : decode cX7_expect 24 = .ok (.putfield 19, 3) := by decide +kernel
theorem dX7_expect_27 : decode cX7_expect 27 = .ok (.goto 11, 3) := by decide +kernel
theorem dX7_expect_30 : decode cX7_expect 30 = .ok (.aload_n 0, 1) := by decide +kernel
theorem dX7_expect_31 : decode cX7_expect 31 = .ok (.aload_n 0, 1) := by decide +kernel
theorem dX7_expect_32 : decode cX7_expect 32 = .ok (.getfield 19, 3) := by decide +kernel
theorem dX7_expect_35 : decode cX7_expect 35 = .ok (.putfield 22, 3) := by decide +kernel
theorem dX7_expect_38 : decode cX7_expect 38 = .ok (.return_, 1) := by decide +kernel
theorem dX7_readSort_0 : decode cX7_readSort 0 = .ok (.aload_n 0, 1) := by decide +kernel
theorem dX7_readSort_1 : decode cX7_readSort 1 = .ok (.getfield 22, 3) := by decide +kernel
theorem dX7_readSort_4 : decode cX7_readSort 4 = .ok (.iconst (-1), 1) := by decide +kernel
theorem dX7_readSort_5 : decode cX7_readSort 5 = .ok (.if_icmp .eq 5, 3) := by decide +kernel
theorem dX7_readSort_8 : decode cX7_readSort 8 = .ok (.iconst 0, 1) := by decide +kernel
theorem dX7_readSort_9 : decode cX7_readSort 9 = .ok (.ireturn, 1) := by decide +kernel
theorem dX7_readSort_10 : decode cX7_readSort 10 = .ok (.iconst 0, 1) := by decide +kernel
theorem dX7_readSort_11 : decode cX7_readSort 11 = .ok (.istore_n 1, 1) := by decide +kernel
theorem dX7_readSort_12 : decode cX7_readSort 12 = .ok (.iload_n 1, 1) := by decide +kernel
theorem dX7_readSort_13 : decode cX7_readSort 13 = .ok (.getstatic 84, 3) := by decide +kernel
theorem dX7_readSort_16 : decode cX7_readSort 16 = .ok (.arraylength, 1) := by decide +kernel
theorem dX7_readSort_17 : decode cX7_readSort 17 = .ok (.if_icmp .ge 35, 3) := by decide +kernel
theorem dX7_readSort_20 : decode cX7_readSort 20 = .ok (.aload_n 0, 1) := by decide +kernel
theorem dX7_readSort_21 : decode cX7_readSort 21 = .ok (.invokevirtual 77, 3) := by decide +kernel
theorem dX7_readSort_24 : decode cX7_readSort 24 = .ok (.getstatic 84, 3) := by decide +kernel
theorem dX7_readSort_27 : decode cX7_readSort 27 = .ok (.iload_n 1, 1) := by decide +kernel
theorem dX7_readSort_28 : decode cX7_readSort 28 = .ok (.caload, 1) := by decide +kernel
theorem dX7_readSort_29 : decode cX7_readSort 29 = .ok (.if_icmp .ne 17, 3) := by decide +kernel
theorem dX7_readSort_32 : decode cX7_readSort 32 = .ok (.aload_n 0, 1) := by decide +kernel
theorem dX7_readSort_33 : decode cX7_readSort 33 = .ok (.dup, 1) := by decide +kernel
theorem dX7_readSort_34 : decode cX7_readSort 34 = .ok (.getfield 19, 3) := by decide +kernel
theorem dX7_readSort_37 : decode cX7_readSort 37 = .ok (.iconst 1, 1) := by decide +kernel
theorem dX7_readSort_38 : decode cX7_readSort 38 = .ok (.iadd, 1) := by decide +kernel
theorem dX7_readSort_39 : decode cX7_readSort 39 = .ok (.putfield 19, 3) := by decide +kernel
theorem dX7_readSort_42 : decode cX7_readSort 42 = .ok (.iload_n 1, 1) := by decide +kernel
theorem dX7_readSort_43 : decode cX7_readSort 43 = .ok (.iconst 1, 1) := by decide +kernel
theorem dX7_readSort_44 : decode cX7_readSort 44 = .ok (.iadd, 1) := by decide +kernel
theorem dX7_readSort_45 : decode cX7_readSort 45 = .ok (.ireturn, 1) := by decide +kernel
theorem dX7_readSort_46 : decode cX7_readSort 46 = .ok (.iinc 1 1, 3) := by decide +kernel
theorem dX7_readSort_49 : decode cX7_readSort 49 = .ok (.goto (-37), 3) := by decide +kernel
theorem dX7_readSort_52 : decode cX7_readSort 52 = .ok (.aload_n 0, 1) := by decide +kernel
theorem dX7_readSort_53 : decode cX7_readSort 53 = .ok (.aload_n 0, 1) := by decide +kernel
theorem dX7_readSort_54 : decode cX7_readSort 54 = .ok (.getfield 19, 3) := by decide +kernel
theorem dX7_readSort_57 : decode cX7_readSort 57 = .ok (.putfield 22, 3) := by decide +kernel
theorem dX7_readSort_60 : decode cX7_readSort 60 = .ok (.iconst 0, 1) := by decide +kernel
theorem dX7_readSort_61 : decode cX7_readSort 61 = .ok (.ireturn, 1) := by decide +kernel
theorem dX7_readNumber_0 : decode cX7_readNumber 0 = .ok (.aload_n 0, 1) := by decide +kernel
theorem dX7_readNumber_1 : decode cX7_readNumber 1 = .ok (.getfield 22, 3) := by decide +kernel
theorem dX7_readNumber_4 : decode cX7_readNumber 4 = .ok (.iconst (-1), 1) := by decide +kernel
theorem dX7_readNumber_5 : decode cX7_readNumber 5 = .ok (.if_icmp .eq 5, 3) := by decide +kernel
theorem dX7_readNumber_8 : decode cX7_readNumber 8 = .ok (.iconst 0, 1) := by decide +kernel
theorem dX7_readNumber_9 : decode cX7_readNumber 9 = .ok (.ireturn, 1) := by decide +kernel
theorem dX7_readNumber_10 : decode cX7_readNumber 10 = .ok (.aload_n 0, 1) := by decide +kernel
theorem dX7_readNumber_11 : decode cX7_readNumber 11 = .ok (.getfield 19, 3) := by decide +kernel
theorem dX7_readNumber_14 : decode cX7_readNumber 14 = .ok (.istore_n 3, 1) := by decide +kernel
theorem dX7_readNumber_15 : decode cX7_readNumber 15 = .ok (.iconst 0, 1) := by decide +kernel
theorem dX7_readNumber_16 : decode cX7_readNumber 16 = .ok (.istore 4, 2) := by decide +kernel
theorem dX7_readNumber_18 : decode cX7_readNumber 18 = .ok (.iconst 0, 1) := by decide +kernel
theorem dX7_readNumber_19 : decode cX7_readNumber 19 = .ok (.istore 5, 2) := by decide +kernel
theorem dX7_readNumber_21 : decode cX7_readNumber 21 = .ok (.iload 5, 2) := by decide +kernel
theorem dX7_readNumber_23 : decode cX7_readNumber 23 = .ok (.iconst 2, 1) := by decide +kernel
theorem dX7_readNumber_24 : decode cX7_readNumber 24 = .ok (.if_icmp .ge 41, 3) := by decide +kernel
theorem dX7_readNumber_27 : decode cX7_readNumber 27 = .ok (.aload_n 0, 1) := by decide +kernel
theorem dX7_readNumber_28 : decode cX7_readNumber 28 = .ok (.invokevirtual 88, 3) := by decide +kernel
theorem dX7_readNumber_31 : decode cX7_readNumber 31 = .ok (.ifCond .eq 34, 3) := by decide +kernel
theorem dX7_readNumber_34 : decode cX7_readNumber 34 = .ok (.bipush 10, 2) := by decide +kernel
theorem dX7_readNumber_36 : decode cX7_readNumber 36 = .ok (.iload 4, 2) := by decide +kernel
theorem dX7_readNumber_38 : decode cX7_readNumber 38 = .ok (.imul, 1) := by decide +kernel
theorem dX7_readNumber_39 : decode cX7_readNumber 39 = .ok (.aload_n 0, 1) := by decide +kernel
theorem dX7_readNumber_40 : decode cX7_readNumber 40 = .ok (.invokevirtual 77, 3) := by decide +kernel
theorem dX7_readNumber_43 : decode cX7_readNumber 43 = .ok (.iadd, 1) := by decide +kernel
theorem dX7_readNumber_44 : decode cX7_readNumber 44 = .ok (.bipush 48, 2) := by decide +kernel
theorem dX7_readNumber_46 : decode cX7_readNumber 46 = .ok (.isub, 1) := by decide +kernel
theorem dX7_readNumber_47 : decode cX7_readNumber 47 = .ok (.istore 4, 2) := by decide +kernel
theorem dX7_readNumber_49 : decode cX7_readNumber 49 = .ok (.aload_n 0, 1) := by decide +kernel
theorem dX7_readNumber_50 : decode cX7_readNumber 50 = .ok (.dup, 1) := by decide +kernel
theorem dX7_readNumber_51 : decode cX7_readNumber 51 = .ok (.getfield 19, 3) := by decide +kernel
theorem dX7_readNumber_54 : decode cX7_readNumber 54 = .ok (.iconst 1, 1) := by decide +kernel
theorem dX7_readNumber_55 : decode cX7_readNumber 55 = .ok (.iadd, 1) := by decide +kernel
theorem dX7_readNumber_56 : decode cX7_readNumber 56 = .ok (.putfield 19, 3) := by decide +kernel
theorem dX7_readNumber_59 : decode cX7_readNumber 59 = .ok (.iinc 5 1, 3) := by decide +kernel
theorem dX7_readNumber_62 : decode cX7_readNumber 62 = .ok (.goto (-41), 3) := by decide +kernel
theorem dX7_readNumber_65 : decode cX7_readNumber 65 = .ok (.aload_n 0, 1) := by decide +kernel
theorem dX7_readNumber_66 : decode cX7_readNumber 66 = .ok (.getfield 19, 3) := by decide +kernel
theorem dX7_readNumber_69 : decode cX7_readNumber 69 = .ok (.iload_n 3, 1) := by decide +kernel
theorem dX7_readNumber_70 : decode cX7_readNumber 70 = .ok (.if_icmp .eq 20, 3) := by decide +kernel
theorem dX7_readNumber_73 : decode cX7_readNumber 73 = .ok (.aload_n 0, 1) := by decide +kernel
theorem dX7_readNumber_74 : decode cX7_readNumber 74 = .ok (.invokevirtual 88, 3) := by decide +kernel
theorem dX7_readNumber_77 : decode cX7_readNumber 77 = .ok (.ifCond .ne 13, 3) := by decide +kernel
theorem dX7_readNumber_80 : decode cX7_readNumber 80 = .ok (.iload 4, 2) := by decide +kernel
theorem dX7_readNumber_82 : decode cX7_readNumber 82 = .ok (.iload_n 1, 1) := by decide +kernel
theorem dX7_readNumber_83 : decode cX7_readNumber 83 = .ok (.iload_n 2, 1) := by decide +kernel
theorem dX7_readNumber_84 : decode cX7_readNumber 84 = .ok (.invokestatic 80, 3) := by decide +kernel
theorem dX7_readNumber_87 : decode cX7_readNumber 87 = .ok (.ifCond .ne 8, 3) := by decide +kernel
theorem dX7_readNumber_90 : decode cX7_readNumber 90 = .ok (.aload_n 0, 1) := by decide +kernel
theorem dX7_readNumber_91 : decode cX7_readNumber 91 = .ok (.iload_n 3, 1) := by decide +kernel
theorem dX7_readNumber_92 : decode cX7_readNumber 92 = .ok (.putfield 22, 3) := by decide +kernel
theorem dX7_readNumber_95 : decode cX7_readNumber 95 = .ok (.iload 4, 2) := by decide +kernel
theorem dX7_readNumber_97 : decode cX7_readNumber 97 = .ok (.ireturn, 1) := by decide +kernel
theorem dX8_init_0 : decode cX8_init 0 = .ok (.aload_n 0, 1) := by decide +kernel
theorem dX8_init_1 : decode cX8_init 1 = .ok (.invokespecial 3, 3) := by decide +kernel
theorem dX8_init_4 : decode cX8_init 4 = .ok (.aload_n 0, 1) := by decide +kernel
theorem dX8_init_5 : decode cX8_init 5 = .ok (.bipush 7, 2) := by decide +kernel
theorem dX8_init_7 : decode cX8_init 7 = .ok (.newarray .int, 2) := by decide +kernel
theorem dX8_init_9 : decode cX8_init 9 = .ok (.putfield 9, 3) := by decide +kernel
theorem dX8_init_12 : decode cX8_init 12 = .ok (.aload_n 0, 1) := by decide +kernel
theorem dX8_init_13 : decode cX8_init 13 = .ok (.bipush 7, 2) := by decide +kernel
theorem dX8_init_15 : decode cX8_init 15 = .ok (.newarray .int, 2) := by decide +kernel
theorem dX8_init_17 : decode cX8_init 17 = .ok (.putfield 15, 3) := by decide +kernel
theorem dX8_init_20 : decode cX8_init 20 = .ok (.return_, 1) := by decide +kernel
theorem dX8_plan_0 : decode cX8_plan 0 = .ok (.aload_n 0, 1) := by decide +kernel
theorem dX8_plan_1 : decode cX8_plan 1 = .ok (.iconst 0, 1) := by decide +kernel
theorem dX8_plan_2 : decode cX8_plan 2 = .ok (.putfield 18, 3) := by decide +kernel
theorem dX8_plan_5 : decode cX8_plan 5 = .ok (.iconst 0, 1) := by decide +kernel
theorem dX8_plan_6 : decode cX8_plan 6 = .ok (.istore 4, 2) := by decide +kernel
theorem dX8_plan_8 : decode cX8_plan 8 = .ok (.iload 4, 2) := by decide +kernel
theorem dX8_plan_10 : decode cX8_plan 10 = .ok (.iload_n 3, 1) := by decide +kernel
theorem dX8_plan_11 : decode cX8_plan 11 = .ok (.if_icmp .ge 80, 3) := by decide +kernel
theorem dX8_plan_14 : decode cX8_plan 14 = .ok (.iload 4, 2) := by decide +kernel
theorem dX8_plan_16 : decode cX8_plan 16 = .ok (.bipush 7, 2) := by decide +kernel
theorem dX8_plan_18 : decode cX8_plan 18 = .ok (.if_icmp .ge 73, 3) := by decide +kernel
theorem dX8_plan_21 : decode cX8_plan 21 = .ok (.aload_n 1, 1) := by decide +kernel
theorem dX8_plan_22 : decode cX8_plan 22 = .ok (.iload_n 2, 1) := by decide +kernel
theorem dX8_plan_23 : decode cX8_plan 23 = .ok (.iconst 2, 1) := by decide +kernel
theorem dX8_plan_24 : decode cX8_plan 24 = .ok (.iload 4, 2) := by decide +kernel
theorem dX8_plan_26 : decode cX8_plan 26 = .ok (.imul, 1) := by decide +kernel
theorem dX8_plan_27 : decode cX8_plan 27 = .ok (.iconst 2, 1) := by decide +kernel
theorem dX8_plan_28 : decode cX8_plan 28 = .ok (.iadd, 1) := by decide +kernel
theorem dX8_plan_29 : decode cX8_plan 29 = .ok (.invokevirtual 22, 3) := by decide +kernel
theorem dX8_plan_32 : decode cX8_plan 32 = .ok (.ifCond .eq 59, 3) := by decide +kernel
theorem dX8_plan_35 : decode cX8_plan 35 = .ok (.aload_n 0, 1) := by decide +kernel
theorem dX8_plan_36 : decode cX8_plan 36 = .ok (.getfield 9, 3) := by decide +kernel
theorem dX8_plan_39 : decode cX8_plan 39 = .ok (.iload 4, 2) := by decide +kernel
theorem dX8_plan_41 : decode cX8_plan 41 = .ok (.aload_n 1, 1) := by decide +kernel
theorem dX8_plan_42 : decode cX8_plan 42 = .ok (.getfield 28, 3) := by decide +kernel
theorem dX8_plan_45 : decode cX8_plan 45 = .ok (.iload_n 2, 1) := by decide +kernel
theorem dX8_plan_46 : decode cX8_plan 46 = .ok (.iconst 2, 1) := by decide +kernel
theorem dX8_plan_47 : decode cX8_plan 47 = .ok (.iload 4, 2) := by decide +kernel
theorem dX8_plan_49 : decode cX8_plan 49 = .ok (.imul, 1) := by decide +kernel
theorem dX8_plan_50 : decode cX8_plan 50 = .ok (.iadd, 1) := by decide +kernel
theorem dX8_plan_51 : decode cX8_plan 51 = .ok (.laload, 1) := by decide +kernel
theorem dX8_plan_52 : decode cX8_plan 52 = .ok (.l2i, 1) := by decide +kernel
theorem dX8_plan_53 : decode cX8_plan 53 = .ok (.iastore, 1) := by decide +kernel
theorem dX8_plan_54 : decode cX8_plan 54 = .ok (.aload_n 0, 1) := by decide +kernel
theorem dX8_plan_55 : decode cX8_plan 55 = .ok (.getfield 15, 3) := by decide +kernel
theorem dX8_plan_58 : decode cX8_plan 58 = .ok (.iload 4, 2) := by decide +kernel
theorem dX8_plan_60 : decode cX8_plan 60 = .ok (.aload_n 1, 1) := by decide +kernel
theorem dX8_plan_61 : decode cX8_plan 61 = .ok (.getfield 28, 3) := by decide +kernel
theorem dX8_plan_64 : decode cX8_plan 64 = .ok (.iload_n 2, 1) := by decide +kernel
theorem dX8_plan_65 : decode cX8_plan 65 = .ok (.iconst 2, 1) := by decide +kernel
theorem dX8_plan_66 : decode cX8_plan 66 = .ok (.iload 4, 2) := by decide +kernel
theorem dX8_plan_68 : decode cX8_plan 68 = .ok (.imul, 1) := by decide +kernel
theorem dX8_plan_69 : decode cX8_plan 69 = .ok (.iadd, 1) := by decide +kernel
theorem dX8_plan_70 : decode cX8_plan 70 = .ok (.iconst 1, 1) := by decide +kernel
theorem dX8_plan_71 : decode cX8_plan 71 = .ok (.iadd, 1) := by decide +kernel
theorem dX8_plan_72 : decode cX8_plan 72 = .ok (.laload, 1) := by decide +kernel
theorem dX8_plan_73 : decode cX8_plan 73 = .ok (.l2i, 1) := by decide +kernel
theorem dX8_plan_74 : decode cX8_plan 74 = .ok (.iastore, 1) := by decide +kernel
theorem dX8_plan_75 : decode cX8_plan 75 = .ok (.aload_n 0, 1) := by decide +kernel
theorem dX8_plan_76 : decode cX8_plan 76 = .ok (.dup, 1) := by decide +kernel
theorem dX8_plan_77 : decode cX8_plan 77 = .ok (.getfield 18, 3) := by decide +kernel
theorem dX8_plan_80 : decode cX8_plan 80 = .ok (.iconst 1, 1) := by decide +kernel
theorem dX8_plan_81 : decode cX8_plan 81 = .ok (.iadd, 1) := by decide +kernel
theorem dX8_plan_82 : decode cX8_plan 82 = .ok (.putfield 18, 3) := by decide +kernel
theorem dX8_plan_85 : decode cX8_plan 85 = .ok (.iinc 4 1, 3) := by decide +kernel
theorem dX8_plan_88 : decode cX8_plan 88 = .ok (.goto (-80), 3) := by decide +kernel
theorem dX8_plan_91 : decode cX8_plan 91 = .ok (.aload_n 0, 1) := by decide +kernel
theorem dX8_plan_92 : decode cX8_plan 92 = .ok (.ldc 32, 2) := by decide +kernel
theorem dX8_plan_94 : decode cX8_plan 94 = .ok (.putfield 33, 3) := by decide +kernel
theorem dX8_plan_97 : decode cX8_plan 97 = .ok (.aload_n 0, 1) := by decide +kernel
theorem dX8_plan_98 : decode cX8_plan 98 = .ok (.iconst 0, 1) := by decide +kernel
theorem dX8_plan_99 : decode cX8_plan 99 = .ok (.putfield 36, 3) := by decide +kernel
theorem dX8_plan_102 : decode cX8_plan 102 = .ok (.iconst 1, 1) := by decide +kernel
theorem dX8_plan_103 : decode cX8_plan 103 = .ok (.aload_n 0, 1) := by decide +kernel
theorem dX8_plan_104 : decode cX8_plan 104 = .ok (.getfield 18, 3) := by decide +kernel
theorem dX8_plan_107 : decode cX8_plan 107 = .ok (.ishl, 1) := by decide +kernel
theorem dX8_plan_108 : decode cX8_plan 108 = .ok (.iconst 2, 1) := by decide +kernel
theorem dX8_plan_109 : decode cX8_plan 109 = .ok (.isub, 1) := by decide +kernel
theorem dX8_plan_110 : decode cX8_plan 110 = .ok (.istore 4, 2) := by decide +kernel
theorem dX8_plan_112 : decode cX8_plan 112 = .ok (.iconst 1, 1) := by decide +kernel
theorem dX8_plan_113 : decode cX8_plan 113 = .ok (.istore 5, 2) := by decide +kernel
theorem dX8_plan_115 : decode cX8_plan 115 = .ok (.iload 5, 2) := by decide +kernel
theorem dX8_plan_117 : decode cX8_plan 117 = .ok (.aload_n 0, 1) := by decide +kernel
theorem dX8_plan_118 : decode cX8_plan 118 = .ok (.getfield 18, 3) := by decide +kernel
theorem dX8_plan_121 : decode cX8_plan 121 = .ok (.if_icmp .ge 56, 3) := by decide +kernel
theorem dX8_plan_124 : decode cX8_plan 124 = .ok (.aload_n 0, 1) := by decide +kernel
theorem dX8_plan_125 : decode cX8_plan 125 = .ok (.iconst 0, 1) := by decide +kernel
theorem dX8_plan_126 : decode cX8_plan 126 = .ok (.iload 5, 2) := by decide +kernel
theorem dX8_plan_128 : decode cX8_plan 128 = .ok (.invokevirtual 39, 3) := by decide +kernel
theorem dX8_plan_131 : decode cX8_plan 131 = .ok (.aload_n 0, 1) := by decide +kernel
theorem dX8_plan_132 : decode cX8_plan 132 = .ok (.iload 5, 2) := by decide +kernel
theorem dX8_plan_134 : decode cX8_plan 134 = .ok (.iload 4, 2) := by decide +kernel
theorem dX8_plan_136 : decode cX8_plan 136 = .ok (.iconst 1, 1) := by decide +kernel
theorem dX8_plan_137 : decode cX8_plan 137 = .ok (.iload 5, 2) := by decide +kernel
theorem dX8_plan_139 : decode cX8_plan 139 = .ok (.ishl, 1) := by decide +kernel
theorem dX8_plan_140 : decode cX8_plan 140 = .ok (.iconst (-1), 1) := by decide +kernel
theorem dX8_plan_141 : decode cX8_plan 141 = .ok (.ixor, 1) := by decide +kernel
theorem dX8_plan_142 : decode cX8_plan 142 = .ok (.iand, 1) := by decide +kernel
theorem dX8_plan_143 : decode cX8_plan 143 = .ok (.iconst 1, 1) := by decide +kernel
theorem dX8_plan_144 : decode cX8_plan 144 = .ok (.invokestatic 43, 3) := by decide +kernel
theorem dX8_plan_147 : decode cX8_plan 147 = .ok (.iadd, 1) := by decide +kernel
theorem dX8_plan_148 : decode cX8_plan 148 = .ok (.istore 6, 2) := by decide +kernel
theorem dX8_plan_150 : decode cX8_plan 150 = .ok (.iload 6, 2) := by decide +kernel
theorem dX8_plan_152 : decode cX8_plan 152 = .ok (.aload_n 0, 1) := by decide +kernel
theorem dX8_plan_153 : decode cX8_plan 153 = .ok (.getfield 33, 3) := by decide +kernel
theorem dX8_plan_156 : decode cX8_plan 156 = .ok (.if_icmp .ge 15, 3) := by decide +kernel
theorem dX8_plan_159 : decode cX8_plan 159 = .ok (.aload_n 0, 1) := by decide +kernel
theorem dX8_plan_160 : decode cX8_plan 160 = .ok (.iload 6, 2) := by decide +kernel
theorem dX8_plan_162 : decode cX8_plan 162 = .ok (.putfield 33, 3) := by decide +kernel
theorem dX8_plan_165 : decode cX8_plan 165 = .ok (.aload_n 0, 1) := by decide +kernel
theorem dX8_plan_166 : decode cX8_plan 166 = .ok (.iload 5, 2) := by decide +kernel
theorem dX8_plan_168 : decode cX8_plan 168 = .ok (.putfield 36, 3) := by decide +kernel
theorem dX8_plan_171 : decode cX8_plan 171 = .ok (.iinc 5 1, 3) := by decide +kernel
theorem dX8_plan_174 : decode cX8_plan 174 = .ok (.goto (-59), 3) := by decide +kernel
theorem dX8_plan_177 : decode cX8_plan 177 = .ok (.return_, 1) := by decide +kernel
theorem dX8_between_0 : decode cX8_between 0 = .ok (.aload_n 0, 1) := by decide +kernel
theorem dX8_between_1 : decode cX8_between 1 = .ok (.getfield 9, 3) := by decide +kernel
theorem dX8_between_4 : decode cX8_between 4 = .ok (.iload_n 1, 1) := by decide +kernel
theorem dX8_between_5 : decode cX8_between 5 = .ok (.iaload, 1) := by decide +kernel
theorem dX8_between_6 : decode cX8_between 6 = .ok (.aload_n 0, 1) := by decide +kernel
theorem dX8_between_7 : decode cX8_between 7 = .ok (.getfield 9, 3) := by decide +kernel
theorem dX8_between_10 : decode cX8_between 10 = .ok (.iload_n 2, 1) := by decide +kernel
theorem dX8_between_11 : decode cX8_between 11 = .ok (.iaload, 1) := by decide +kernel
theorem dX8_between_12 : decode cX8_between 12 = .ok (.isub, 1) := by decide +kernel
theorem dX8_between_13 : decode cX8_between 13 = .ok (.invokestatic 47, 3) := by decide +kernel
theorem dX8_between_16 : decode cX8_between 16 = .ok (.aload_n 0, 1) := by decide +kernel
theorem dX8_between_17 : decode cX8_between 17 = .ok (.getfield 15, 3) := by decide +kernel
theorem dX8_between_20 : decode cX8_between 20 = .ok (.iload_n 1, 1) := by decide +kernel
theorem dX8_between_21 : decode cX8_between 21 = .ok (.iaload, 1) := by decide +kernel
theorem dX8_between_22 : decode cX8_between 22 = .ok (.aload_n 0, 1) := by decide +kernel
theorem dX8_between_23 : decode cX8_between 23 = .ok (.getfield 15, 3) := by decide +kernel
theorem dX8_between_26 : decode cX8_between 26 = .ok (.iload_n 2, 1) := by decide +kernel
theorem dX8_between_27 : decode cX8_between 27 = .ok (.iaload, 1) := by decide +kernel
theorem dX8_between_28 : decode cX8_between 28 = .ok (.isub, 1) := by decide +kernel
theorem dX8_between_29 : decode cX8_between 29 = .ok (.invokestatic 47, 3) := by decide +kernel
theorem dX8_between_32 : decode cX8_between 32 = .ok (.iadd, 1) := by decide +kernel
theorem dX8_between_33 : decode cX8_between 33 = .ok (.ireturn, 1) := by decide +kernel
theorem dX8_wayFrom_0 : decode cX8_wayFrom 0 = .ok (.iload_n 2, 1) := by decide +kernel
theorem dX8_wayFrom_1 : decode cX8_wayFrom 1 = .ok (.ifCond .eq 9, 3) := by decide +kernel
theorem dX8_wayFrom_4 : decode cX8_wayFrom 4 = .ok (.iload_n 3, 1) := by decide +kernel
theorem dX8_wayFrom_5 : decode cX8_wayFrom 5 = .ok (.bipush 7, 2) := by decide +kernel
theorem dX8_wayFrom_7 : decode cX8_wayFrom 7 = .ok (.if_icmp .lt 10, 3) := by decide +kernel
theorem dX8_wayFrom_10 : decode cX8_wayFrom 10 = .ok (.aload_n 0, 1) := by decide +kernel
theorem dX8_wayFrom_11 : decode cX8_wayFrom 11 = .ok (.iload_n 1, 1) := by decide +kernel
theorem dX8_wayFrom_12 : decode cX8_wayFrom 12 = .ok (.iconst 0, 1) := by decide +kernel
theorem dX8_wayFrom_13 : decode cX8_wayFrom 13 = .ok (.invokevirtual 39, 3) := by decide +kernel
theorem dX8_wayFrom_16 : decode cX8_wayFrom 16 = .ok (.ireturn, 1) := by decide +kernel
theorem dX8_wayFrom_17 : decode cX8_wayFrom 17 = .ok (.ldc 32, 2) := by decide +kernel
theorem dX8_wayFrom_19 : decode cX8_wayFrom 19 = .ok (.istore 4, 2) := by decide +kernel
theorem dX8_wayFrom_21 : decode cX8_wayFrom 21 = .ok (.iconst 1, 1) := by decide +kernel
theorem dX8_wayFrom_22 : decode cX8_wayFrom 22 = .ok (.istore 5, 2) := by decide +kernel
theorem dX8_wayFrom_24 : decode cX8_wayFrom 24 = .ok (.iload 5, 2) := by decide +kernel
theorem dX8_wayFrom_26 : decode cX8_wayFrom 26 = .ok (.aload_n 0, 1) := by decide +kernel
theorem dX8_wayFrom_27 : decode cX8_wayFrom 27 = .ok (.getfield 18, 3) := by decide +kernel
theorem dX8_wayFrom_30 : decode cX8_wayFrom 30 = .ok (.if_icmp .ge 55, 3) := by decide +kernel
theorem dX8_wayFrom_33 : decode cX8_wayFrom 33 = .ok (.iload_n 2, 1) := by decide +kernel
theorem dX8_wayFrom_34 : decode cX8_wayFrom 34 = .ok (.iload 5, 2) := by decide +kernel
theorem dX8_wayFrom_36 : decode cX8_wayFrom 36 = .ok (.ishr, 1) := by decide +kernel
theorem dX8_wayFrom_37 : decode cX8_wayFrom 37 = .ok (.iconst 1, 1) := by decide +kernel
theorem dX8_wayFrom_38 : decode cX8_wayFrom 38 = .ok (.iand, 1) := by decide +kernel
theorem dX8_wayFrom_39 : decode cX8_wayFrom 39 = .ok (.iconst 1, 1) := by decide +kernel
theorem dX8_wayFrom_40 : decode cX8_wayFrom 40 = .ok (.if_icmp .ne 39, 3) := by decide +kernel
theorem dX8_wayFrom_43 : decode cX8_wayFrom 43 = .ok (.aload_n 0, 1) := by decide +kernel
theorem dX8_wayFrom_44 : decode cX8_wayFrom 44 = .ok (.iload_n 1, 1) := by decide +kernel
theorem dX8_wayFrom_45 : decode cX8_wayFrom 45 = .ok (.iload 5, 2) := by decide +kernel
theorem dX8_wayFrom_47 : decode cX8_wayFrom 47 = .ok (.invokevirtual 39, 3) := by decide +kernel
theorem dX8_wayFrom_50 : decode cX8_wayFrom 50 = .ok (.aload_n 0, 1) := by decide +kernel
theorem dX8_wayFrom_51 : decode cX8_wayFrom 51 = .ok (.iload 5, 2) := by decide +kernel
theorem dX8_wayFrom_53 : decode cX8_wayFrom 53 = .ok (.iload_n 2, 1) := by decide +kernel
theorem dX8_wayFrom_54 : decode cX8_wayFrom 54 = .ok (.iconst 1, 1) := by decide +kernel
theorem dX8_wayFrom_55 : decode cX8_wayFrom 55 = .ok (.iload 5, 2) := by decide +kernel
theorem dX8_wayFrom_57 : decode cX8_wayFrom 57 = .ok (.ishl, 1) := by decide +kernel
theorem dX8_wayFrom_58 : decode cX8_wayFrom 58 = .ok (.iconst (-1), 1) := by decide +kernel
theorem dX8_wayFrom_59 : decode cX8_wayFrom 59 = .ok (.ixor, 1) := by decide +kernel
theorem dX8_wayFrom_60 : decode cX8_wayFrom 60 = .ok (.iand, 1) := by decide +kernel
theorem dX8_wayFrom_61 : decode cX8_wayFrom 61 = .ok (.iload_n 3, 1) := by decide +kernel
theorem dX8_wayFrom_62 : decode cX8_wayFrom 62 = .ok (.iconst 1, 1) := by decide +kernel
theorem dX8_wayFrom_63 : decode cX8_wayFrom 63 = .ok (.iadd, 1) := by decide +kernel
theorem dX8_wayFrom_64 : decode cX8_wayFrom 64 = .ok (.invokestatic 43, 3) := by decide +kernel
theorem dX8_wayFrom_67 : decode cX8_wayFrom 67 = .ok (.iadd, 1) := by decide +kernel
theorem dX8_wayFrom_68 : decode cX8_wayFrom 68 = .ok (.istore 6, 2) := by decide +kernel
theorem dX8_wayFrom_70 : decode cX8_wayFrom 70 = .ok (.iload 4, 2) := by decide +kernel
theorem dX8_wayFrom_72 : decode cX8_wayFrom 72 = .ok (.iload 6, 2) := by decide +kernel
theorem dX8_wayFrom_74 : decode cX8_wayFrom 74 = .ok (.invokestatic 53, 3) := by decide +kernel
theorem dX8_wayFrom_77 : decode cX8_wayFrom 77 = .ok (.istore 4, 2) := by decide +kernel
theorem dX8_wayFrom_79 : decode cX8_wayFrom 79 = .ok (.iinc 5 1, 3) := by decide +kernel
theorem dX8_wayFrom_82 : decode cX8_wayFrom 82 = .ok (.goto (-58), 3) := by decide +kernel
theorem dX8_wayFrom_85 : decode cX8_wayFrom 85 = .ok (.iload 4, 2) := by decide +kernel
theorem dX8_wayFrom_87 : decode cX8_wayFrom 87 = .ok (.ireturn, 1) := by decide +kernel
theorem dX9_init_0 : decode cX9_init 0 = .ok (.aload_n 0, 1) := by decide +kernel
theorem dX9_init_1 : decode cX9_init 1 = .ok (.invokespecial 3, 3) := by decide +kernel
theorem dX9_init_4 : decode cX9_init 4 = .ok (.aload_n 0, 1) := by decide +kernel
theorem dX9_init_5 : decode cX9_init 5 = .ok (.bipush 6, 2) := by decide +kernel
theorem dX9_init_7 : decode cX9_init 7 = .ok (.anewarray 9, 3) := by decide +kernel
theorem dX9_init_10 : decode cX9_init 10 = .ok (.putfield 11, 3) := by decide +kernel
theorem dX9_init_13 : decode cX9_init 13 = .ok (.aload_n 0, 1) := by decide +kernel
theorem dX9_init_14 : decode cX9_init 14 = .ok (.iconst 1, 1) := by decide +kernel
theorem dX9_init_15 : decode cX9_init 15 = .ok (.putfield 17, 3) := by decide +kernel
theorem dX9_init_18 : decode cX9_init 18 = .ok (.iconst 0, 1) := by decide +kernel
theorem dX9_init_19 : decode cX9_init 19 = .ok (.istore_n 1, 1) := by decide +kernel
theorem dX9_init_20 : decode cX9_init 20 = .ok (.iload_n 1, 1) := by decide +kernel
theorem dX9_init_21 : decode cX9_init 21 = .ok (.bipush 6, 2) := by decide +kernel
theorem dX9_init_23 : decode cX9_init 23 = .ok (.if_icmp .ge 22, 3) := by decide +kernel
theorem dX9_init_26 : decode cX9_init 26 = .ok (.aload_n 0, 1) := by decide +kernel
theorem dX9_init_27 : decode cX9_init 27 = .ok (.getfield 11, 3) := by decide +kernel
theorem dX9_init_30 : decode cX9_init 30 = .ok (.iload_n 1, 1) := by decide +kernel
theorem dX9_init_31 : decode cX9_init 31 = .ok (.new 9, 3) := by decide +kernel
theorem dX9_init_34 : decode cX9_init 34 = .ok (.dup, 1) := by decide +kernel
theorem dX9_init_35 : decode cX9_init 35 = .ok (.invokespecial 21, 3) := by decide +kernel
theorem dX9_init_38 : decode cX9_init 38 = .ok (.aastore, 1) := by decide +kernel
theorem dX9_init_39 : decode cX9_init 39 = .ok (.iinc 1 1, 3) := by decide +kernel
theorem dX9_init_42 : decode cX9_init 42 = .ok (.goto (-22), 3) := by decide +kernel
theorem dX9_init_45 : decode cX9_init 45 = .ok (.return_, 1) := by decide +kernel
theorem dX9_takeFrom_0 : decode cX9_takeFrom 0 = .ok (.aload_n 0, 1) := by decide +kernel
theorem dX9_takeFrom_1 : decode cX9_takeFrom 1 = .ok (.aload_n 1, 1) := by decide +kernel
theorem dX9_takeFrom_2 : decode cX9_takeFrom 2 = .ok (.getfield 22, 3) := by decide +kernel
theorem dX9_takeFrom_5 : decode cX9_takeFrom 5 = .ok (.putfield 22, 3) := by decide +kernel
theorem dX9_takeFrom_8 : decode cX9_takeFrom 8 = .ok (.aload_n 0, 1) := by decide +kernel
theorem dX9_takeFrom_9 : decode cX9_takeFrom 9 = .ok (.aload_n 1, 1) := by decide +kernel
theorem dX9_takeFrom_10 : decode cX9_takeFrom 10 = .ok (.getfield 25, 3) := by decide +kernel
theorem dX9_takeFrom_13 : decode cX9_takeFrom 13 = .ok (.putfield 25, 3) := by decide +kernel
theorem dX9_takeFrom_16 : decode cX9_takeFrom 16 = .ok (.aload_n 0, 1) := by decide +kernel
theorem dX9_takeFrom_17 : decode cX9_takeFrom 17 = .ok (.aload_n 1, 1) := by decide +kernel
theorem dX9_takeFrom_18 : decode cX9_takeFrom 18 = .ok (.getfield 28, 3) := by decide +kernel
theorem dX9_takeFrom_21 : decode cX9_takeFrom 21 = .ok (.putfield 28, 3) := by decide +kernel
theorem dX9_takeFrom_24 : decode cX9_takeFrom 24 = .ok (.aload_n 0, 1) := by decide +kernel
theorem dX9_takeFrom_25 : decode cX9_takeFrom 25 = .ok (.aload_n 1, 1) := by decide +kernel
theorem dX9_takeFrom_26 : decode cX9_takeFrom 26 = .ok (.getfield 31, 3) := by decide +kernel
theorem dX9_takeFrom_29 : decode cX9_takeFrom 29 = .ok (.putfield 31, 3) := by decide +kernel
theorem dX9_takeFrom_32 : decode cX9_takeFrom 32 = .ok (.aload_n 0, 1) := by decide +kernel
theorem dX9_takeFrom_33 : decode cX9_takeFrom 33 = .ok (.aload_n 1, 1) := by decide +kernel
theorem dX9_takeFrom_34 : decode cX9_takeFrom 34 = .ok (.getfield 34, 3) := by decide +kernel
theorem dX9_takeFrom_37 : decode cX9_takeFrom 37 = .ok (.putfield 34, 3) := by decide +kernel
theorem dX9_takeFrom_40 : decode cX9_takeFrom 40 = .ok (.aload_n 0, 1) := by decide +kernel
theorem dX9_takeFrom_41 : decode cX9_takeFrom 41 = .ok (.aload_n 1, 1) := by decide +kernel
theorem dX9_takeFrom_42 : decode cX9_takeFrom 42 = .ok (.getfield 17, 3) := by decide +kernel
theorem dX9_takeFrom_45 : decode cX9_takeFrom 45 = .ok (.putfield 17, 3) := by decide +kernel
theorem dX9_takeFrom_48 : decode cX9_takeFrom 48 = .ok (.iconst 0, 1) := by decide +kernel
theorem dX9_takeFrom_49 : decode cX9_takeFrom 49 = .ok (.istore_n 2, 1) := by decide +kernel
theorem dX9_takeFrom_50 : decode cX9_takeFrom 50 = .ok (.iload_n 2, 1) := by decide +kernel
theorem dX9_takeFrom_51 : decode cX9_takeFrom 51 = .ok (.bipush 6, 2) := by decide +kernel
theorem dX9_takeFrom_53 : decode cX9_takeFrom 53 = .ok (.if_icmp .ge 24, 3) := by decide +kernel
