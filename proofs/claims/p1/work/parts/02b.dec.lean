theorem dX9_findFaces_46 : decode cX9_findFaces 46 = .ok (.aload_n 0, 1) := by decide +kernel
theorem dX9_findFaces_47 : decode cX9_findFaces 47 = .ok (.getfield 19, 3) := by decide +kernel
theorem dX9_findFaces_50 : decode cX9_findFaces 50 = .ok (.bipush 30, 2) := by decide +kernel
theorem dX9_findFaces_52 : decode cX9_findFaces 52 = .ok (.if_icmp .ge 48, 3) := by decide +kernel
theorem dX9_findFaces_55 : decode cX9_findFaces 55 = .ok (.aload_n 0, 1) := by decide +kernel
theorem dX9_findFaces_56 : decode cX9_findFaces 56 = .ok (.getfield 22, 3) := by decide +kernel
theorem dX9_findFaces_59 : decode cX9_findFaces 59 = .ok (.bipush 6, 2) := by decide +kernel
theorem dX9_findFaces_61 : decode cX9_findFaces 61 = .ok (.iload_n 1, 1) := by decide +kernel
theorem dX9_findFaces_62 : decode cX9_findFaces 62 = .ok (.imul, 1) := by decide +kernel
theorem dX9_findFaces_63 : decode cX9_findFaces 63 = .ok (.iload_n 2, 1) := by decide +kernel
theorem dX9_findFaces_64 : decode cX9_findFaces 64 = .ok (.iadd, 1) := by decide +kernel
theorem dX9_findFaces_65 : decode cX9_findFaces 65 = .ok (.aload_n 0, 1) := by decide +kernel
theorem dX9_findFaces_66 : decode cX9_findFaces 66 = .ok (.getfield 19, 3) := by decide +kernel
theorem dX9_findFaces_69 : decode cX9_findFaces 69 = .ok (.iastore, 1) := by decide +kernel
theorem dX9_findFaces_70 : decode cX9_findFaces 70 = .ok (.aload_n 0, 1) := by decide +kernel
theorem dX9_findFaces_71 : decode cX9_findFaces 71 = .ok (.getfield 25, 3) := by decide +kernel
theorem dX9_findFaces_74 : decode cX9_findFaces 74 = .ok (.aload_n 0, 1) := by decide +kernel
theorem dX9_findFaces_75 : decode cX9_findFaces 75 = .ok (.getfield 19, 3) := by decide +kernel
theorem dX9_findFaces_78 : decode cX9_findFaces 78 = .ok (.iload_n 1, 1) := by decide +kernel
theorem dX9_findFaces_79 : decode cX9_findFaces 79 = .ok (.iastore, 1) := by decide +kernel
theorem dX9_findFaces_80 : decode cX9_findFaces 80 = .ok (.aload_n 0, 1) := by decide +kernel
theorem dX9_findFaces_81 : decode cX9_findFaces 81 = .ok (.getfield 28, 3) := by decide +kernel
theorem dX9_findFaces_84 : decode cX9_findFaces 84 = .ok (.aload_n 0, 1) := by decide +kernel
theorem dX9_findFaces_85 : decode cX9_findFaces 85 = .ok (.getfield 19, 3) := by decide +kernel
theorem dX9_findFaces_88 : decode cX9_findFaces 88 = .ok (.iload_n 2, 1) := by decide +kernel
theorem dX9_findFaces_89 : decode cX9_findFaces 89 = .ok (.iastore, 1) := by decide +kernel
theorem dX9_findFaces_90 : decode cX9_findFaces 90 = .ok (.aload_n 0, 1) := by decide +kernel
theorem dX9_findFaces_91 : decode cX9_findFaces 91 = .ok (.dup, 1) := by decide +kernel
theorem dX9_findFaces_92 : decode cX9_findFaces 92 = .ok (.getfield 19, 3) := by decide +kernel
theorem dX9_findFaces_95 : decode cX9_findFaces 95 = .ok (.iconst 1, 1) := by decide +kernel
theorem dX9_findFaces_96 : decode cX9_findFaces 96 = .ok (.iadd, 1) := by decide +kernel
theorem dX9_findFaces_97 : decode cX9_findFaces 97 = .ok (.putfield 19, 3) := by decide +kernel
theorem dX9_findFaces_100 : decode cX9_findFaces 100 = .ok (.iinc 2 1, 3) := by decide +kernel
theorem dX9_findFaces_103 : decode cX9_findFaces 103 = .ok (.goto (-86), 3) := by decide +kernel
theorem dX9_findFaces_106 : decode cX9_findFaces 106 = .ok (.iinc 1 1, 3) := by decide +kernel
theorem dX9_findFaces_109 : decode cX9_findFaces 109 = .ok (.goto (-102), 3) := by decide +kernel
theorem dX9_findFaces_112 : decode cX9_findFaces 112 = .ok (.return_, 1) := by decide +kernel
theorem dX9_cubeBeside_0 : decode cX9_cubeBeside 0 = .ok (.iconst 0, 1) := by decide +kernel
theorem dX9_cubeBeside_1 : decode cX9_cubeBeside 1 = .ok (.istore 4, 2) := by decide +kernel
theorem dX9_cubeBeside_3 : decode cX9_cubeBeside 3 = .ok (.iload 4, 2) := by decide +kernel
theorem dX9_cubeBeside_5 : decode cX9_cubeBeside 5 = .ok (.aload_n 0, 1) := by decide +kernel
theorem dX9_cubeBeside_6 : decode cX9_cubeBeside 6 = .ok (.getfield 9, 3) := by decide +kernel
theorem dX9_cubeBeside_9 : decode cX9_cubeBeside 9 = .ok (.if_icmp .ge 78, 3) := by decide +kernel
theorem dX9_cubeBeside_12 : decode cX9_cubeBeside 12 = .ok (.aload_n 0, 1) := by decide +kernel
theorem dX9_cubeBeside_13 : decode cX9_cubeBeside 13 = .ok (.iload_n 1, 1) := by decide +kernel
theorem dX9_cubeBeside_14 : decode cX9_cubeBeside 14 = .ok (.iload 4, 2) := by decide +kernel
theorem dX9_cubeBeside_16 : decode cX9_cubeBeside 16 = .ok (.iconst 0, 1) := by decide +kernel
theorem dX9_cubeBeside_17 : decode cX9_cubeBeside 17 = .ok (.iload_n 2, 1) := by decide +kernel
theorem dX9_cubeBeside_18 : decode cX9_cubeBeside 18 = .ok (.iconst 0, 1) := by decide +kernel
theorem dX9_cubeBeside_19 : decode cX9_cubeBeside 19 = .ok (.invokestatic 92, 3) := by decide +kernel
theorem dX9_cubeBeside_22 : decode cX9_cubeBeside 22 = .ok (.iload_n 3, 1) := by decide +kernel
theorem dX9_cubeBeside_23 : decode cX9_cubeBeside 23 = .ok (.iconst 0, 1) := by decide +kernel
theorem dX9_cubeBeside_24 : decode cX9_cubeBeside 24 = .ok (.invokestatic 92, 3) := by decide +kernel
theorem dX9_cubeBeside_27 : decode cX9_cubeBeside 27 = .ok (.iadd, 1) := by decide +kernel
theorem dX9_cubeBeside_28 : decode cX9_cubeBeside 28 = .ok (.invokevirtual 95, 3) := by decide +kernel
theorem dX9_cubeBeside_31 : decode cX9_cubeBeside 31 = .ok (.ifCond .eq 50, 3) := by decide +kernel
theorem dX9_cubeBeside_34 : decode cX9_cubeBeside 34 = .ok (.aload_n 0, 1) := by decide +kernel
theorem dX9_cubeBeside_35 : decode cX9_cubeBeside 35 = .ok (.iload_n 1, 1) := by decide +kernel
theorem dX9_cubeBeside_36 : decode cX9_cubeBeside 36 = .ok (.iload 4, 2) := by decide +kernel
theorem dX9_cubeBeside_38 : decode cX9_cubeBeside 38 = .ok (.iconst 1, 1) := by decide +kernel
theorem dX9_cubeBeside_39 : decode cX9_cubeBeside 39 = .ok (.iload_n 2, 1) := by decide +kernel
theorem dX9_cubeBeside_40 : decode cX9_cubeBeside 40 = .ok (.iconst 1, 1) := by decide +kernel
theorem dX9_cubeBeside_41 : decode cX9_cubeBeside 41 = .ok (.invokestatic 92, 3) := by decide +kernel
theorem dX9_cubeBeside_44 : decode cX9_cubeBeside 44 = .ok (.iload_n 3, 1) := by decide +kernel
theorem dX9_cubeBeside_45 : decode cX9_cubeBeside 45 = .ok (.iconst 1, 1) := by decide +kernel
theorem dX9_cubeBeside_46 : decode cX9_cubeBeside 46 = .ok (.invokestatic 92, 3) := by decide +kernel
theorem dX9_cubeBeside_49 : decode cX9_cubeBeside 49 = .ok (.iadd, 1) := by decide +kernel
theorem dX9_cubeBeside_50 : decode cX9_cubeBeside 50 = .ok (.invokevirtual 95, 3) := by decide +kernel
theorem dX9_cubeBeside_53 : decode cX9_cubeBeside 53 = .ok (.ifCond .eq 28, 3) := by decide +kernel
theorem dX9_cubeBeside_56 : decode cX9_cubeBeside 56 = .ok (.aload_n 0, 1) := by decide +kernel
theorem dX9_cubeBeside_57 : decode cX9_cubeBeside 57 = .ok (.iload_n 1, 1) := by decide +kernel
theorem dX9_cubeBeside_58 : decode cX9_cubeBeside 58 = .ok (.iload 4, 2) := by decide +kernel
theorem dX9_cubeBeside_60 : decode cX9_cubeBeside 60 = .ok (.iconst 2, 1) := by decide +kernel
theorem dX9_cubeBeside_61 : decode cX9_cubeBeside 61 = .ok (.iload_n 2, 1) := by decide +kernel
theorem dX9_cubeBeside_62 : decode cX9_cubeBeside 62 = .ok (.iconst 2, 1) := by decide +kernel
theorem dX9_cubeBeside_63 : decode cX9_cubeBeside 63 = .ok (.invokestatic 92, 3) := by decide +kernel
theorem dX9_cubeBeside_66 : decode cX9_cubeBeside 66 = .ok (.iload_n 3, 1) := by decide +kernel
theorem dX9_cubeBeside_67 : decode cX9_cubeBeside 67 = .ok (.iconst 2, 1) := by decide +kernel
theorem dX9_cubeBeside_68 : decode cX9_cubeBeside 68 = .ok (.invokestatic 92, 3) := by decide +kernel
theorem dX9_cubeBeside_71 : decode cX9_cubeBeside 71 = .ok (.iadd, 1) := by decide +kernel
theorem dX9_cubeBeside_72 : decode cX9_cubeBeside 72 = .ok (.invokevirtual 95, 3) := by decide +kernel
theorem dX9_cubeBeside_75 : decode cX9_cubeBeside 75 = .ok (.ifCond .eq 6, 3) := by decide +kernel
theorem dX9_cubeBeside_78 : decode cX9_cubeBeside 78 = .ok (.iload 4, 2) := by decide +kernel
theorem dX9_cubeBeside_80 : decode cX9_cubeBeside 80 = .ok (.ireturn, 1) := by decide +kernel
theorem dX9_cubeBeside_81 : decode cX9_cubeBeside 81 = .ok (.iinc 4 1, 3) := by decide +kernel
theorem dX9_cubeBeside_84 : decode cX9_cubeBeside 84 = .ok (.goto (-81), 3) := by decide +kernel
theorem dX9_cubeBeside_87 : decode cX9_cubeBeside 87 = .ok (.iconst (-1), 1) := by decide +kernel
theorem dX9_cubeBeside_88 : decode cX9_cubeBeside 88 = .ok (.ireturn, 1) := by decide +kernel
theorem dX9_isAway_0 : decode cX9_isAway 0 = .ok (.aload_n 0, 1) := by decide +kernel
theorem dX9_isAway_1 : decode cX9_isAway 1 = .ok (.getfield 15, 3) := by decide +kernel
theorem dX9_isAway_4 : decode cX9_isAway 4 = .ok (.iconst 3, 1) := by decide +kernel
theorem dX9_isAway_5 : decode cX9_isAway 5 = .ok (.iload_n 2, 1) := by decide +kernel
theorem dX9_isAway_6 : decode cX9_isAway 6 = .ok (.imul, 1) := by decide +kernel
theorem dX9_isAway_7 : decode cX9_isAway 7 = .ok (.iload_n 3, 1) := by decide +kernel
theorem dX9_isAway_8 : decode cX9_isAway 8 = .ok (.iadd, 1) := by decide +kernel
theorem dX9_isAway_9 : decode cX9_isAway 9 = .ok (.iaload, 1) := by decide +kernel
theorem dX9_isAway_10 : decode cX9_isAway 10 = .ok (.aload_n 0, 1) := by decide +kernel
theorem dX9_isAway_11 : decode cX9_isAway 11 = .ok (.getfield 15, 3) := by decide +kernel
theorem dX9_isAway_14 : decode cX9_isAway 14 = .ok (.iconst 3, 1) := by decide +kernel
theorem dX9_isAway_15 : decode cX9_isAway 15 = .ok (.iload_n 1, 1) := by decide +kernel
theorem dX9_isAway_16 : decode cX9_isAway 16 = .ok (.imul, 1) := by decide +kernel
theorem dX9_isAway_17 : decode cX9_isAway 17 = .ok (.iload_n 3, 1) := by decide +kernel
theorem dX9_isAway_18 : decode cX9_isAway 18 = .ok (.iadd, 1) := by decide +kernel
theorem dX9_isAway_19 : decode cX9_isAway 19 = .ok (.iaload, 1) := by decide +kernel
theorem dX9_isAway_20 : decode cX9_isAway 20 = .ok (.iload 4, 2) := by decide +kernel
theorem dX9_isAway_22 : decode cX9_isAway 22 = .ok (.iadd, 1) := by decide +kernel
theorem dX9_isAway_23 : decode cX9_isAway 23 = .ok (.if_icmp .ne 7, 3) := by decide +kernel
theorem dX9_isAway_26 : decode cX9_isAway 26 = .ok (.iconst 1, 1) := by decide +kernel
theorem dX9_isAway_27 : decode cX9_isAway 27 = .ok (.goto 4, 3) := by decide +kernel
theorem dX9_isAway_30 : decode cX9_isAway 30 = .ok (.iconst 0, 1) := by decide +kernel
theorem dX9_isAway_31 : decode cX9_isAway 31 = .ok (.ireturn, 1) := by decide +kernel
theorem dX9_step_0 : decode cX9_step 0 = .ok (.iload_n 0, 1) := by decide +kernel
theorem dX9_step_1 : decode cX9_step 1 = .ok (.iconst (-1), 1) := by decide +kernel
theorem dX9_step_2 : decode cX9_step 2 = .ok (.if_icmp .eq 10, 3) := by decide +kernel
theorem dX9_step_5 : decode cX9_step 5 = .ok (.iload_n 0, 1) := by decide +kernel
theorem dX9_step_6 : decode cX9_step 6 = .ok (.iconst 1, 1) := by decide +kernel
theorem dX9_step_7 : decode cX9_step 7 = .ok (.ishr, 1) := by decide +kernel
theorem dX9_step_8 : decode cX9_step 8 = .ok (.iload_n 1, 1) := by decide +kernel
theorem dX9_step_9 : decode cX9_step 9 = .ok (.if_icmp .eq 5, 3) := by decide +kernel
theorem dX9_step_12 : decode cX9_step 12 = .ok (.iconst 0, 1) := by decide +kernel
theorem dX9_step_13 : decode cX9_step 13 = .ok (.ireturn, 1) := by decide +kernel
theorem dX9_step_14 : decode cX9_step 14 = .ok (.iload_n 0, 1) := by decide +kernel
theorem dX9_step_15 : decode cX9_step 15 = .ok (.iconst 1, 1) := by decide +kernel
theorem dX9_step_16 : decode cX9_step 16 = .ok (.iand, 1) := by decide +kernel
theorem dX9_step_17 : decode cX9_step 17 = .ok (.ifCond .ne 7, 3) := by decide +kernel
theorem dX9_step_20 : decode cX9_step 20 = .ok (.iconst 1, 1) := by decide +kernel
theorem dX9_step_21 : decode cX9_step 21 = .ok (.goto 4, 3) := by decide +kernel
theorem dX9_step_24 : decode cX9_step 24 = .ok (.iconst (-1), 1) := by decide +kernel
theorem dX9_step_25 : decode cX9_step 25 = .ok (.ireturn, 1) := by decide +kernel
theorem dX9_findEdges_0 : decode cX9_findEdges 0 = .ok (.aload_n 0, 1) := by decide +kernel
theorem dX9_findEdges_1 : decode cX9_findEdges 1 = .ok (.iconst 0, 1) := by decide +kernel
theorem dX9_findEdges_2 : decode cX9_findEdges 2 = .ok (.putfield 37, 3) := by decide +kernel
theorem dX9_findEdges_5 : decode cX9_findEdges 5 = .ok (.iconst 0, 1) := by decide +kernel
theorem dX9_findEdges_6 : decode cX9_findEdges 6 = .ok (.istore_n 1, 1) := by decide +kernel
theorem dX9_findEdges_7 : decode cX9_findEdges 7 = .ok (.iload_n 1, 1) := by decide +kernel
theorem dX9_findEdges_8 : decode cX9_findEdges 8 = .ok (.iconst 4, 1) := by decide +kernel
theorem dX9_findEdges_9 : decode cX9_findEdges 9 = .ok (.aload_n 0, 1) := by decide +kernel
theorem dX9_findEdges_10 : decode cX9_findEdges 10 = .ok (.getfield 19, 3) := by decide +kernel
theorem dX9_findEdges_13 : decode cX9_findEdges 13 = .ok (.imul, 1) := by decide +kernel
theorem dX9_findEdges_14 : decode cX9_findEdges 14 = .ok (.if_icmp .ge 16, 3) := by decide +kernel
theorem dX9_findEdges_17 : decode cX9_findEdges 17 = .ok (.aload_n 0, 1) := by decide +kernel
theorem dX9_findEdges_18 : decode cX9_findEdges 18 = .ok (.getfield 34, 3) := by decide +kernel
theorem dX9_findEdges_21 : decode cX9_findEdges 21 = .ok (.iload_n 1, 1) := by decide +kernel
theorem dX9_findEdges_22 : decode cX9_findEdges 22 = .ok (.iconst (-1), 1) := by decide +kernel
theorem dX9_findEdges_23 : decode cX9_findEdges 23 = .ok (.iastore, 1) := by decide +kernel
theorem dX9_findEdges_24 : decode cX9_findEdges 24 = .ok (.iinc 1 1, 3) := by decide +kernel
theorem dX9_findEdges_27 : decode cX9_findEdges 27 = .ok (.goto (-20), 3) := by decide +kernel
theorem dX9_findEdges_30 : decode cX9_findEdges 30 = .ok (.iconst 0, 1) := by decide +kernel
theorem dX9_findEdges_31 : decode cX9_findEdges 31 = .ok (.istore_n 1, 1) := by decide +kernel
theorem dX9_findEdges_32 : decode cX9_findEdges 32 = .ok (.iload_n 1, 1) := by decide +kernel
theorem dX9_findEdges_33 : decode cX9_findEdges 33 = .ok (.iconst 4, 1) := by decide +kernel
theorem dX9_findEdges_34 : decode cX9_findEdges 34 = .ok (.aload_n 0, 1) := by decide +kernel
theorem dX9_findEdges_35 : decode cX9_findEdges 35 = .ok (.getfield 19, 3) := by decide +kernel
theorem dX9_findEdges_38 : decode cX9_findEdges 38 = .ok (.imul, 1) := by decide +kernel
theorem dX9_findEdges_39 : decode cX9_findEdges 39 = .ok (.if_icmp .ge 110, 3) := by decide +kernel
theorem dX9_findEdges_42 : decode cX9_findEdges 42 = .ok (.aload_n 0, 1) := by decide +kernel
theorem dX9_findEdges_43 : decode cX9_findEdges 43 = .ok (.iload_n 1, 1) := by decide +kernel
theorem dX9_findEdges_44 : decode cX9_findEdges 44 = .ok (.invokevirtual 99, 3) := by decide +kernel
theorem dX9_findEdges_47 : decode cX9_findEdges 47 = .ok (.istore_n 2, 1) := by decide +kernel
theorem dX9_findEdges_48 : decode cX9_findEdges 48 = .ok (.aload_n 0, 1) := by decide +kernel
theorem dX9_findEdges_49 : decode cX9_findEdges 49 = .ok (.getfield 34, 3) := by decide +kernel
theorem dX9_findEdges_52 : decode cX9_findEdges 52 = .ok (.iload_n 1, 1) := by decide +kernel
theorem dX9_findEdges_53 : decode cX9_findEdges 53 = .ok (.iaload, 1) := by decide +kernel
theorem dX9_findEdges_54 : decode cX9_findEdges 54 = .ok (.iconst (-1), 1) := by decide +kernel
theorem dX9_findEdges_55 : decode cX9_findEdges 55 = .ok (.if_icmp .ne 88, 3) := by decide +kernel
theorem dX9_findEdges_58 : decode cX9_findEdges 58 = .ok (.aload_n 0, 1) := by decide +kernel
theorem dX9_findEdges_59 : decode cX9_findEdges 59 = .ok (.getfield 37, 3) := by decide +kernel
theorem dX9_findEdges_62 : decode cX9_findEdges 62 = .ok (.bipush 60, 2) := by decide +kernel
theorem dX9_findEdges_64 : decode cX9_findEdges 64 = .ok (.if_icmp .ge 79, 3) := by decide +kernel
theorem dX9_findEdges_67 : decode cX9_findEdges 67 = .ok (.aload_n 0, 1) := by decide +kernel
theorem dX9_findEdges_68 : decode cX9_findEdges 68 = .ok (.getfield 34, 3) := by decide +kernel
theorem dX9_findEdges_71 : decode cX9_findEdges 71 = .ok (.iload_n 1, 1) := by decide +kernel
theorem dX9_findEdges_72 : decode cX9_findEdges 72 = .ok (.aload_n 0, 1) := by decide +kernel
theorem dX9_findEdges_73 : decode cX9_findEdges 73 = .ok (.getfield 37, 3) := by decide +kernel
theorem dX9_findEdges_76 : decode cX9_findEdges 76 = .ok (.iastore, 1) := by decide +kernel
theorem dX9_findEdges_77 : decode cX9_findEdges 77 = .ok (.aload_n 0, 1) := by decide +kernel
theorem dX9_findEdges_78 : decode cX9_findEdges 78 = .ok (.getfield 34, 3) := by decide +kernel
theorem dX9_findEdges_81 : decode cX9_findEdges 81 = .ok (.aload_n 0, 1) := by decide +kernel
theorem dX9_findEdges_82 : decode cX9_findEdges 82 = .ok (.getfield 31, 3) := by decide +kernel
theorem dX9_findEdges_85 : decode cX9_findEdges 85 = .ok (.iload_n 1, 1) := by decide +kernel
theorem dX9_findEdges_86 : decode cX9_findEdges 86 = .ok (.iaload, 1) := by decide +kernel
theorem dX9_findEdges_87 : decode cX9_findEdges 87 = .ok (.aload_n 0, 1) := by decide +kernel
theorem dX9_findEdges_88 : decode cX9_findEdges 88 = .ok (.getfield 37, 3) := by decide +kernel
theorem dX9_findEdges_91 : decode cX9_findEdges 91 = .ok (.iastore, 1) := by decide +kernel
theorem dX9_findEdges_92 : decode cX9_findEdges 92 = .ok (.aload_n 0, 1) := by decide +kernel
theorem dX9_findEdges_93 : decode cX9_findEdges 93 = .ok (.getfield 40, 3) := by decide +kernel
theorem dX9_findEdges_96 : decode cX9_findEdges 96 = .ok (.iconst 2, 1) := by decide +kernel
theorem dX9_findEdges_97 : decode cX9_findEdges 97 = .ok (.aload_n 0, 1) := by decide +kernel
theorem dX9_findEdges_98 : decode cX9_findEdges 98 = .ok (.getfield 37, 3) := by decide +kernel
theorem dX9_findEdges_101 : decode cX9_findEdges 101 = .ok (.imul, 1) := by decide +kernel
theorem dX9_findEdges_102 : decode cX9_findEdges 102 = .ok (.iload_n 1, 1) := by decide +kernel
theorem dX9_findEdges_103 : decode cX9_findEdges 103 = .ok (.iastore, 1) := by decide +kernel
theorem dX9_findEdges_104 : decode cX9_findEdges 104 = .ok (.aload_n 0, 1) := by decide +kernel
theorem dX9_findEdges_105 : decode cX9_findEdges 105 = .ok (.getfield 40, 3) := by decide +kernel
theorem dX9_findEdges_108 : decode cX9_findEdges 108 = .ok (.iconst 2, 1) := by decide +kernel
theorem dX9_findEdges_109 : decode cX9_findEdges 109 = .ok (.aload_n 0, 1) := by decide +kernel
theorem dX9_findEdges_110 : decode cX9_findEdges 110 = .ok (.getfield 37, 3) := by decide +kernel
theorem dX9_findEdges_113 : decode cX9_findEdges 113 = .ok (.imul, 1) := by decide +kernel
theorem dX9_findEdges_114 : decode cX9_findEdges 114 = .ok (.iconst 1, 1) := by decide +kernel
theorem dX9_findEdges_115 : decode cX9_findEdges 115 = .ok (.iadd, 1) := by decide +kernel
theorem dX9_findEdges_116 : decode cX9_findEdges 116 = .ok (.aload_n 0, 1) := by decide +kernel
theorem dX9_findEdges_117 : decode cX9_findEdges 117 = .ok (.getfield 31, 3) := by decide +kernel
theorem dX9_findEdges_120 : decode cX9_findEdges 120 = .ok (.iload_n 1, 1) := by decide +kernel
theorem dX9_findEdges_121 : decode cX9_findEdges 121 = .ok (.iaload, 1) := by decide +kernel
theorem dX9_findEdges_122 : decode cX9_findEdges 122 = .ok (.iastore, 1) := by decide +kernel
theorem dX9_findEdges_123 : decode cX9_findEdges 123 = .ok (.aload_n 0, 1) := by decide +kernel
theorem dX9_findEdges_124 : decode cX9_findEdges 124 = .ok (.getfield 43, 3) := by decide +kernel
theorem dX9_findEdges_127 : decode cX9_findEdges 127 = .ok (.aload_n 0, 1) := by decide +kernel
theorem dX9_findEdges_128 : decode cX9_findEdges 128 = .ok (.getfield 37, 3) := by decide +kernel
theorem dX9_findEdges_131 : decode cX9_findEdges 131 = .ok (.iload_n 2, 1) := by decide +kernel
theorem dX9_findEdges_132 : decode cX9_findEdges 132 = .ok (.iastore, 1) := by decide +kernel
theorem dX9_findEdges_133 : decode cX9_findEdges 133 = .ok (.aload_n 0, 1) := by decide +kernel
theorem dX9_findEdges_134 : decode cX9_findEdges 134 = .ok (.dup, 1) := by decide +kernel
theorem dX9_findEdges_135 : decode cX9_findEdges 135 = .ok (.getfield 37, 3) := by decide +kernel
theorem dX9_findEdges_138 : decode cX9_findEdges 138 = .ok (.iconst 1, 1) := by decide +kernel
theorem dX9_findEdges_139 : decode cX9_findEdges 139 = .ok (.iadd, 1) := by decide +kernel
theorem dX9_findEdges_140 : decode cX9_findEdges 140 = .ok (.putfield 37, 3) := by decide +kernel
theorem dX9_findEdges_143 : decode cX9_findEdges 143 = .ok (.iinc 1 1, 3) := by decide +kernel
theorem dX9_findEdges_146 : decode cX9_findEdges 146 = .ok (.goto (-114), 3) := by decide +kernel
theorem dX9_findEdges_149 : decode cX9_findEdges 149 = .ok (.return_, 1) := by decide +kernel
theorem dX9_joinSide_0 : decode cX9_joinSide 0 = .ok (.aload_n 0, 1) := by decide +kernel
theorem dX9_joinSide_1 : decode cX9_joinSide 1 = .ok (.getfield 25, 3) := by decide +kernel
theorem dX9_joinSide_4 : decode cX9_joinSide 4 = .ok (.iload_n 1, 1) := by decide +kernel
theorem dX9_joinSide_5 : decode cX9_joinSide 5 = .ok (.iconst 2, 1) := by decide +kernel
theorem dX9_joinSide_6 : decode cX9_joinSide 6 = .ok (.ishr, 1) := by decide +kernel
theorem dX9_joinSide_7 : decode cX9_joinSide 7 = .ok (.iaload, 1) := by decide +kernel
theorem dX9_joinSide_8 : decode cX9_joinSide 8 = .ok (.istore_n 2, 1) := by decide +kernel
theorem dX9_joinSide_9 : decode cX9_joinSide 9 = .ok (.aload_n 0, 1) := by decide +kernel
theorem dX9_joinSide_10 : decode cX9_joinSide 10 = .ok (.getfield 28, 3) := by decide +kernel
theorem dX9_joinSide_13 : decode cX9_joinSide 13 = .ok (.iload_n 1, 1) := by decide +kernel
theorem dX9_joinSide_14 : decode cX9_joinSide 14 = .ok (.iconst 2, 1) := by decide +kernel
theorem dX9_joinSide_15 : decode cX9_joinSide 15 = .ok (.ishr, 1) := by decide +kernel
theorem dX9_joinSide_16 : decode cX9_joinSide 16 = .ok (.iaload, 1) := by decide +kernel
theorem dX9_joinSide_17 : decode cX9_joinSide 17 = .ok (.istore_n 3, 1) := by decide +kernel
theorem dX9_joinSide_18 : decode cX9_joinSide 18 = .ok (.getstatic 103, 3) := by decide +kernel
theorem dX9_joinSide_21 : decode cX9_joinSide 21 = .ok (.iconst 4, 1) := by decide +kernel
theorem dX9_joinSide_22 : decode cX9_joinSide 22 = .ok (.iload_n 3, 1) := by decide +kernel
theorem dX9_joinSide_23 : decode cX9_joinSide 23 = .ok (.imul, 1) := by decide +kernel
theorem dX9_joinSide_24 : decode cX9_joinSide 24 = .ok (.iload_n 1, 1) := by decide +kernel
theorem dX9_joinSide_25 : decode cX9_joinSide 25 = .ok (.iconst 3, 1) := by decide +kernel
theorem dX9_joinSide_26 : decode cX9_joinSide 26 = .ok (.iand, 1) := by decide +kernel
theorem dX9_joinSide_27 : decode cX9_joinSide 27 = .ok (.iadd, 1) := by decide +kernel
theorem dX9_joinSide_28 : decode cX9_joinSide 28 = .ok (.iaload, 1) := by decide +kernel
theorem dX9_joinSide_29 : decode cX9_joinSide 29 = .ok (.istore 4, 2) := by decide +kernel
theorem dX9_joinSide_31 : decode cX9_joinSide 31 = .ok (.aload_n 0, 1) := by decide +kernel
theorem dX9_joinSide_32 : decode cX9_joinSide 32 = .ok (.iload_n 2, 1) := by decide +kernel
theorem dX9_joinSide_33 : decode cX9_joinSide 33 = .ok (.iload_n 3, 1) := by decide +kernel
theorem dX9_joinSide_34 : decode cX9_joinSide 34 = .ok (.iload 4, 2) := by decide +kernel
theorem dX9_joinSide_36 : decode cX9_joinSide 36 = .ok (.invokevirtual 88, 3) := by decide +kernel
theorem dX9_joinSide_39 : decode cX9_joinSide 39 = .ok (.istore 5, 2) := by decide +kernel
theorem dX9_joinSide_41 : decode cX9_joinSide 41 = .ok (.aload_n 0, 1) := by decide +kernel
theorem dX9_joinSide_42 : decode cX9_joinSide 42 = .ok (.iload_n 2, 1) := by decide +kernel
theorem dX9_joinSide_43 : decode cX9_joinSide 43 = .ok (.iload 4, 2) := by decide +kernel
theorem dX9_joinSide_45 : decode cX9_joinSide 45 = .ok (.iconst (-1), 1) := by decide +kernel
theorem dX9_joinSide_46 : decode cX9_joinSide 46 = .ok (.invokevirtual 88, 3) := by decide +kernel
theorem dX9_joinSide_49 : decode cX9_joinSide 49 = .ok (.istore 6, 2) := by decide +kernel
theorem dX9_joinSide_51 : decode cX9_joinSide 51 = .ok (.iload 5, 2) := by decide +kernel
theorem dX9_joinSide_53 : decode cX9_joinSide 53 = .ok (.iconst (-1), 1) := by decide +kernel
theorem dX9_joinSide_54 : decode cX9_joinSide 54 = .ok (.if_icmp .eq 24, 3) := by decide +kernel
theorem dX9_joinSide_57 : decode cX9_joinSide 57 = .ok (.aload_n 0, 1) := by decide +kernel
theorem dX9_joinSide_58 : decode cX9_joinSide 58 = .ok (.getfield 31, 3) := by decide +kernel
theorem dX9_joinSide_61 : decode cX9_joinSide 61 = .ok (.iload_n 1, 1) := by decide +kernel
theorem dX9_joinSide_62 : decode cX9_joinSide 62 = .ok (.aload_n 0, 1) := by decide +kernel
theorem dX9_joinSide_63 : decode cX9_joinSide 63 = .ok (.iload 5, 2) := by decide +kernel
theorem dX9_joinSide_65 : decode cX9_joinSide 65 = .ok (.iload 4, 2) := by decide +kernel
theorem dX9_joinSide_67 : decode cX9_joinSide 67 = .ok (.iconst 1, 1) := by decide +kernel
theorem dX9_joinSide_68 : decode cX9_joinSide 68 = .ok (.ixor, 1) := by decide +kernel
theorem dX9_joinSide_69 : decode cX9_joinSide 69 = .ok (.iload_n 3, 1) := by decide +kernel
theorem dX9_joinSide_70 : decode cX9_joinSide 70 = .ok (.iconst 1, 1) := by decide +kernel
theorem dX9_joinSide_71 : decode cX9_joinSide 71 = .ok (.ixor, 1) := by decide +kernel
theorem dX9_joinSide_72 : decode cX9_joinSide 72 = .ok (.invokevirtual 106, 3) := by decide +kernel
theorem dX9_joinSide_75 : decode cX9_joinSide 75 = .ok (.iastore, 1) := by decide +kernel
theorem dX9_joinSide_76 : decode cX9_joinSide 76 = .ok (.iconst 2, 1) := by decide +kernel
theorem dX9_joinSide_77 : decode cX9_joinSide 77 = .ok (.ireturn, 1) := by decide +kernel
theorem dX9_joinSide_78 : decode cX9_joinSide 78 = .ok (.iload 6, 2) := by decide +kernel
theorem dX9_joinSide_80 : decode cX9_joinSide 80 = .ok (.iconst (-1), 1) := by decide +kernel
theorem dX9_joinSide_81 : decode cX9_joinSide 81 = .ok (.if_icmp .eq 22, 3) := by decide +kernel
theorem dX9_joinSide_84 : decode cX9_joinSide 84 = .ok (.aload_n 0, 1) := by decide +kernel
theorem dX9_joinSide_85 : decode cX9_joinSide 85 = .ok (.getfield 31, 3) := by decide +kernel
theorem dX9_joinSide_88 : decode cX9_joinSide 88 = .ok (.iload_n 1, 1) := by decide +kernel
theorem dX9_joinSide_89 : decode cX9_joinSide 89 = .ok (.aload_n 0, 1) := by decide +kernel
theorem dX9_joinSide_90 : decode cX9_joinSide 90 = .ok (.iload 6, 2) := by decide +kernel
theorem dX9_joinSide_92 : decode cX9_joinSide 92 = .ok (.iload_n 3, 1) := by decide +kernel
theorem dX9_joinSide_93 : decode cX9_joinSide 93 = .ok (.iload 4, 2) := by decide +kernel
theorem dX9_joinSide_95 : decode cX9_joinSide 95 = .ok (.iconst 1, 1) := by decide +kernel
theorem dX9_joinSide_96 : decode cX9_joinSide 96 = .ok (.ixor, 1) := by decide +kernel
theorem dX9_joinSide_97 : decode cX9_joinSide 97 = .ok (.invokevirtual 106, 3) := by decide +kernel
theorem dX9_joinSide_100 : decode cX9_joinSide 100 = .ok (.iastore, 1) := by decide +kernel
theorem dX9_joinSide_101 : decode cX9_joinSide 101 = .ok (.iconst 1, 1) := by decide +kernel
theorem dX9_joinSide_102 : decode cX9_joinSide 102 = .ok (.ireturn, 1) := by decide +kernel
theorem dX9_joinSide_103 : decode cX9_joinSide 103 = .ok (.aload_n 0, 1) := by decide +kernel
theorem dX9_joinSide_104 : decode cX9_joinSide 104 = .ok (.getfield 31, 3) := by decide +kernel
theorem dX9_joinSide_107 : decode cX9_joinSide 107 = .ok (.iload_n 1, 1) := by decide +kernel
theorem dX9_joinSide_108 : decode cX9_joinSide 108 = .ok (.aload_n 0, 1) := by decide +kernel
theorem dX9_joinSide_109 : decode cX9_joinSide 109 = .ok (.iload_n 2, 1) := by decide +kernel
theorem dX9_joinSide_110 : decode cX9_joinSide 110 = .ok (.iload 4, 2) := by decide +kernel
theorem dX9_joinSide_112 : decode cX9_joinSide 112 = .ok (.iload_n 3, 1) := by decide +kernel
theorem dX9_joinSide_113 : decode cX9_joinSide 113 = .ok (.invokevirtual 106, 3) := by decide +kernel
theorem dX9_joinSide_116 : decode cX9_joinSide 116 = .ok (.iastore, 1) := by decide +kernel
theorem dX9_joinSide_117 : decode cX9_joinSide 117 = .ok (.iconst 0, 1) := by decide +kernel
theorem dX9_joinSide_118 : decode cX9_joinSide 118 = .ok (.ireturn, 1) := by decide +kernel
theorem dX9_slotOf_0 : decode cX9_slotOf 0 = .ok (.iconst 0, 1) := by decide +kernel
theorem dX9_slotOf_1 : decode cX9_slotOf 1 = .ok (.aload_n 0, 1) := by decide +kernel
theorem dX9_slotOf_2 : decode cX9_slotOf 2 = .ok (.getfield 22, 3) := by decide +kernel
theorem dX9_slotOf_5 : decode cX9_slotOf 5 = .ok (.bipush 6, 2) := by decide +kernel
theorem dX9_slotOf_7 : decode cX9_slotOf 7 = .ok (.iload_n 1, 1) := by decide +kernel
theorem dX9_slotOf_8 : decode cX9_slotOf 8 = .ok (.imul, 1) := by decide +kernel
theorem dX9_slotOf_9 : decode cX9_slotOf 9 = .ok (.iload_n 2, 1) := by decide +kernel
theorem dX9_slotOf_10 : decode cX9_slotOf 10 = .ok (.iadd, 1) := by decide +kernel
theorem dX9_slotOf_11 : decode cX9_slotOf 11 = .ok (.iaload, 1) := by decide +kernel
theorem dX9_slotOf_12 : decode cX9_slotOf 12 = .ok (.invokestatic 109, 3) := by decide +kernel
theorem dX9_slotOf_15 : decode cX9_slotOf 15 = .ok (.istore 4, 2) := by decide +kernel
theorem dX9_slotOf_17 : decode cX9_slotOf 17 = .ok (.iconst 0, 1) := by decide +kernel
theorem dX9_slotOf_18 : decode cX9_slotOf 18 = .ok (.istore 5, 2) := by decide +kernel
theorem dX9_slotOf_20 : decode cX9_slotOf 20 = .ok (.iload 5, 2) := by decide +kernel
theorem dX9_slotOf_22 : decode cX9_slotOf 22 = .ok (.iconst 3, 1) := by decide +kernel
theorem dX9_slotOf_23 : decode cX9_slotOf 23 = .ok (.if_icmp .ge 31, 3) := by decide +kernel
theorem dX9_slotOf_26 : decode cX9_slotOf 26 = .ok (.getstatic 103, 3) := by decide +kernel
theorem dX9_slotOf_29 : decode cX9_slotOf 29 = .ok (.iconst 4, 1) := by decide +kernel
theorem dX9_slotOf_30 : decode cX9_slotOf 30 = .ok (.iload_n 2, 1) := by decide +kernel
theorem dX9_slotOf_31 : decode cX9_slotOf 31 = .ok (.imul, 1) := by decide +kernel
theorem dX9_slotOf_32 : decode cX9_slotOf 32 = .ok (.iload 5, 2) := by decide +kernel
theorem dX9_slotOf_34 : decode cX9_slotOf 34 = .ok (.iadd, 1) := by decide +kernel
theorem dX9_slotOf_35 : decode cX9_slotOf 35 = .ok (.iaload, 1) := by decide +kernel
theorem dX9_slotOf_36 : decode cX9_slotOf 36 = .ok (.iload_n 3, 1) := by decide +kernel
theorem dX9_slotOf_37 : decode cX9_slotOf 37 = .ok (.if_icmp .ne 11, 3) := by decide +kernel
theorem dX9_slotOf_40 : decode cX9_slotOf 40 = .ok (.iconst 4, 1) := by decide +kernel
theorem dX9_slotOf_41 : decode cX9_slotOf 41 = .ok (.iload 4, 2) := by decide +kernel
theorem dX9_slotOf_43 : decode cX9_slotOf 43 = .ok (.imul, 1) := by decide +kernel
theorem dX9_slotOf_44 : decode cX9_slotOf 44 = .ok (.iload 5, 2) := by decide +kernel
theorem dX9_slotOf_46 : decode cX9_slotOf 46 = .ok (.iadd, 1) := by decide +kernel
theorem dX9_slotOf_47 : decode cX9_slotOf 47 = .ok (.ireturn, 1) := by decide +kernel
theorem dX9_slotOf_48 : decode cX9_slotOf 48 = .ok (.iinc 5 1, 3) := by decide +kernel
theorem dX9_slotOf_51 : decode cX9_slotOf 51 = .ok (.goto (-31), 3) := by decide +kernel
theorem dX9_slotOf_54 : decode cX9_slotOf 54 = .ok (.iconst 4, 1) := by decide +kernel
theorem dX9_slotOf_55 : decode cX9_slotOf 55 = .ok (.iload 4, 2) := by decide +kernel
theorem dX9_slotOf_57 : decode cX9_slotOf 57 = .ok (.imul, 1) := by decide +kernel
theorem dX9_slotOf_58 : decode cX9_slotOf 58 = .ok (.iconst 3, 1) := by decide +kernel
theorem dX9_slotOf_59 : decode cX9_slotOf 59 = .ok (.iadd, 1) := by decide +kernel
theorem dX9_slotOf_60 : decode cX9_slotOf 60 = .ok (.ireturn, 1) := by decide +kernel
theorem dX9_findVertices_0 : decode cX9_findVertices 0 = .ok (.aload_n 0, 1) := by decide +kernel
theorem dX9_findVertices_1 : decode cX9_findVertices 1 = .ok (.iconst 0, 1) := by decide +kernel
theorem dX9_findVertices_2 : decode cX9_findVertices 2 = .ok (.putfield 46, 3) := by decide +kernel
theorem dX9_findVertices_5 : decode cX9_findVertices 5 = .ok (.iconst 0, 1) := by decide +kernel
theorem dX9_findVertices_6 : decode cX9_findVertices 6 = .ok (.istore_n 1, 1) := by decide +kernel
theorem dX9_findVertices_7 : decode cX9_findVertices 7 = .ok (.iload_n 1, 1) := by decide +kernel
theorem dX9_findVertices_8 : decode cX9_findVertices 8 = .ok (.iconst 4, 1) := by decide +kernel
theorem dX9_findVertices_9 : decode cX9_findVertices 9 = .ok (.aload_n 0, 1) := by decide +kernel
theorem dX9_findVertices_10 : decode cX9_findVertices 10 = .ok (.getfield 19, 3) := by decide +kernel
theorem dX9_findVertices_13 : decode cX9_findVertices 13 = .ok (.imul, 1) := by decide +kernel
theorem dX9_findVertices_14 : decode cX9_findVertices 14 = .ok (.if_icmp .ge 16, 3) := by decide +kernel
theorem dX9_findVertices_17 : decode cX9_findVertices 17 = .ok (.aload_n 0, 1) := by decide +kernel
theorem dX9_findVertices_18 : decode cX9_findVertices 18 = .ok (.getfield 49, 3) := by decide +kernel
theorem dX9_findVertices_21 : decode cX9_findVertices 21 = .ok (.iload_n 1, 1) := by decide +kernel
theorem dX9_findVertices_22 : decode cX9_findVertices 22 = .ok (.iconst (-1), 1) := by decide +kernel
theorem dX9_findVertices_23 : decode cX9_findVertices 23 = .ok (.iastore, 1) := by decide +kernel
theorem dX9_findVertices_24 : decode cX9_findVertices 24 = .ok (.iinc 1 1, 3) := by decide +kernel
theorem dX9_findVertices_27 : decode cX9_findVertices 27 = .ok (.goto (-20), 3) := by decide +kernel
theorem dX9_findVertices_30 : decode cX9_findVertices 30 = .ok (.iconst 0, 1) := by decide +kernel
theorem dX9_findVertices_31 : decode cX9_findVertices 31 = .ok (.istore_n 1, 1) := by decide +kernel
theorem dX9_findVertices_32 : decode cX9_findVertices 32 = .ok (.iload_n 1, 1) := by decide +kernel
theorem dX9_findVertices_33 : decode cX9_findVertices 33 = .ok (.iconst 4, 1) := by decide +kernel
theorem dX9_findVertices_34 : decode cX9_findVertices 34 = .ok (.aload_n 0, 1) := by decide +kernel
theorem dX9_findVertices_35 : decode cX9_findVertices 35 = .ok (.getfield 19, 3) := by decide +kernel
theorem dX9_findVertices_38 : decode cX9_findVertices 38 = .ok (.imul, 1) := by decide +kernel
theorem dX9_findVertices_39 : decode cX9_findVertices 39 = .ok (.if_icmp .ge 43, 3) := by decide +kernel
theorem dX9_findVertices_42 : decode cX9_findVertices 42 = .ok (.aload_n 0, 1) := by decide +kernel
theorem dX9_findVertices_43 : decode cX9_findVertices 43 = .ok (.getfield 49, 3) := by decide +kernel
theorem dX9_findVertices_46 : decode cX9_findVertices 46 = .ok (.iload_n 1, 1) := by decide +kernel
theorem dX9_findVertices_47 : decode cX9_findVertices 47 = .ok (.iaload, 1) := by decide +kernel
theorem dX9_findVertices_48 : decode cX9_findVertices 48 = .ok (.iconst (-1), 1) := by decide +kernel
theorem dX9_findVertices_49 : decode cX9_findVertices 49 = .ok (.if_icmp .ne 27, 3) := by decide +kernel
theorem dX9_findVertices_52 : decode cX9_findVertices 52 = .ok (.aload_n 0, 1) := by decide +kernel
theorem dX9_findVertices_53 : decode cX9_findVertices 53 = .ok (.getfield 52, 3) := by decide +kernel
theorem dX9_findVertices_56 : decode cX9_findVertices 56 = .ok (.aload_n 0, 1) := by decide +kernel
theorem dX9_findVertices_57 : decode cX9_findVertices 57 = .ok (.getfield 46, 3) := by decide +kernel
theorem dX9_findVertices_60 : decode cX9_findVertices 60 = .ok (.aload_n 0, 1) := by decide +kernel
theorem dX9_findVertices_61 : decode cX9_findVertices 61 = .ok (.iload_n 1, 1) := by decide +kernel
theorem dX9_findVertices_62 : decode cX9_findVertices 62 = .ok (.invokevirtual 112, 3) := by decide +kernel
theorem dX9_findVertices_65 : decode cX9_findVertices 65 = .ok (.iastore, 1) := by decide +kernel
theorem dX9_findVertices_66 : decode cX9_findVertices 66 = .ok (.aload_n 0, 1) := by decide +kernel
theorem dX9_findVertices_67 : decode cX9_findVertices 67 = .ok (.dup, 1) := by decide +kernel
theorem dX9_findVertices_68 : decode cX9_findVertices 68 = .ok (.getfield 46, 3) := by decide +kernel
theorem dX9_findVertices_71 : decode cX9_findVertices 71 = .ok (.iconst 1, 1) := by decide +kernel
theorem dX9_findVertices_72 : decode cX9_findVertices 72 = .ok (.iadd, 1) := by decide +kernel
theorem dX9_findVertices_73 : decode cX9_findVertices 73 = .ok (.putfield 46, 3) := by decide +kernel
theorem dX9_findVertices_76 : decode cX9_findVertices 76 = .ok (.iinc 1 1, 3) := by decide +kernel
theorem dX9_findVertices_79 : decode cX9_findVertices 79 = .ok (.goto (-47), 3) := by decide +kernel
theorem dX9_findVertices_82 : decode cX9_findVertices 82 = .ok (.return_, 1) := by decide +kernel
theorem dX9_goRound_0 : decode cX9_goRound 0 = .ok (.iload_n 1, 1) := by decide +kernel
theorem dX9_goRound_1 : decode cX9_goRound 1 = .ok (.istore_n 2, 1) := by decide +kernel
theorem dX9_goRound_2 : decode cX9_goRound 2 = .ok (.iconst 0, 1) := by decide +kernel
theorem dX9_goRound_3 : decode cX9_goRound 3 = .ok (.istore_n 3, 1) := by decide +kernel
theorem dX9_goRound_4 : decode cX9_goRound 4 = .ok (.iload_n 3, 1) := by decide +kernel
theorem dX9_goRound_5 : decode cX9_goRound 5 = .ok (.iconst 4, 1) := by decide +kernel
theorem dX9_goRound_6 : decode cX9_goRound 6 = .ok (.aload_n 0, 1) := by decide +kernel
theorem dX9_goRound_7 : decode cX9_goRound 7 = .ok (.getfield 19, 3) := by decide +kernel
theorem dX9_goRound_10 : decode cX9_goRound 10 = .ok (.imul, 1) := by decide +kernel
theorem dX9_goRound_11 : decode cX9_goRound 11 = .ok (.if_icmp .ge 39, 3) := by decide +kernel
theorem dX9_goRound_14 : decode cX9_goRound 14 = .ok (.aload_n 0, 1) := by decide +kernel
theorem dX9_goRound_15 : decode cX9_goRound 15 = .ok (.getfield 49, 3) := by decide +kernel
theorem dX9_goRound_18 : decode cX9_goRound 18 = .ok (.iload_n 2, 1) := by decide +kernel
theorem dX9_goRound_19 : decode cX9_goRound 19 = .ok (.iaload, 1) := by decide +kernel
theorem dX9_goRound_20 : decode cX9_goRound 20 = .ok (.iconst (-1), 1) := by decide +kernel
theorem dX9_goRound_21 : decode cX9_goRound 21 = .ok (.if_icmp .ne 29, 3) := by decide +kernel
theorem dX9_goRound_24 : decode cX9_goRound 24 = .ok (.aload_n 0, 1) := by decide +kernel
theorem dX9_goRound_25 : decode cX9_goRound 25 = .ok (.getfield 49, 3) := by decide +kernel
theorem dX9_goRound_28 : decode cX9_goRound 28 = .ok (.iload_n 2, 1) := by decide +kernel
theorem dX9_goRound_29 : decode cX9_goRound 29 = .ok (.aload_n 0, 1) := by decide +kernel
theorem dX9_goRound_30 : decode cX9_goRound 30 = .ok (.getfield 46, 3) := by decide +kernel
theorem dX9_goRound_33 : decode cX9_goRound 33 = .ok (.iastore, 1) := by decide +kernel
theorem dX9_goRound_34 : decode cX9_goRound 34 = .ok (.aload_n 0, 1) := by decide +kernel
theorem dX9_goRound_35 : decode cX9_goRound 35 = .ok (.getfield 31, 3) := by decide +kernel
theorem dX9_goRound_38 : decode cX9_goRound 38 = .ok (.iload_n 2, 1) := by decide +kernel
theorem dX9_goRound_39 : decode cX9_goRound 39 = .ok (.invokestatic 115, 3) := by decide +kernel
theorem dX9_goRound_42 : decode cX9_goRound 42 = .ok (.iaload, 1) := by decide +kernel
theorem dX9_goRound_43 : decode cX9_goRound 43 = .ok (.istore_n 2, 1) := by decide +kernel
theorem dX9_goRound_44 : decode cX9_goRound 44 = .ok (.iinc 3 1, 3) := by decide +kernel
theorem dX9_goRound_47 : decode cX9_goRound 47 = .ok (.goto (-43), 3) := by decide +kernel
theorem dX9_goRound_50 : decode cX9_goRound 50 = .ok (.iload_n 3, 1) := by decide +kernel
theorem dX9_goRound_51 : decode cX9_goRound 51 = .ok (.ireturn, 1) := by decide +kernel
theorem dX9_faceOf_0 : decode cX9_faceOf 0 = .ok (.aload_n 0, 1) := by decide +kernel
theorem dX9_faceOf_1 : decode cX9_faceOf 1 = .ok (.getfield 40, 3) := by decide +kernel
theorem dX9_faceOf_4 : decode cX9_faceOf 4 = .ok (.iconst 2, 1) := by decide +kernel
theorem dX9_faceOf_5 : decode cX9_faceOf 5 = .ok (.iload_n 1, 1) := by decide +kernel
theorem dX9_faceOf_6 : decode cX9_faceOf 6 = .ok (.imul, 1) := by decide +kernel
theorem dX9_faceOf_7 : decode cX9_faceOf 7 = .ok (.iload_n 2, 1) := by decide +kernel
theorem dX9_faceOf_8 : decode cX9_faceOf 8 = .ok (.iadd, 1) := by decide +kernel
theorem dX9_faceOf_9 : decode cX9_faceOf 9 = .ok (.iaload, 1) := by decide +kernel
theorem dX9_faceOf_10 : decode cX9_faceOf 10 = .ok (.iconst 2, 1) := by decide +kernel
theorem dX9_faceOf_11 : decode cX9_faceOf 11 = .ok (.ishr, 1) := by decide +kernel
theorem dX9_faceOf_12 : decode cX9_faceOf 12 = .ok (.ireturn, 1) := by decide +kernel
theorem dX9_reach_0 : decode cX9_reach 0 = .ok (.iload_n 1, 1) := by decide +kernel
theorem dX9_reach_1 : decode cX9_reach 1 = .ok (.ifCond .lt 11, 3) := by decide +kernel
theorem dX9_reach_4 : decode cX9_reach 4 = .ok (.iload_n 1, 1) := by decide +kernel
theorem dX9_reach_5 : decode cX9_reach 5 = .ok (.aload_n 0, 1) := by decide +kernel
theorem dX9_reach_6 : decode cX9_reach 6 = .ok (.getfield 19, 3) := by decide +kernel
theorem dX9_reach_9 : decode cX9_reach 9 = .ok (.if_icmp .lt 5, 3) := by decide +kernel
theorem dX9_reach_12 : decode cX9_reach 12 = .ok (.iconst 0, 1) := by decide +kernel
theorem dX9_reach_13 : decode cX9_reach 13 = .ok (.ireturn, 1) := by decide +kernel
theorem dX9_reach_14 : decode cX9_reach 14 = .ok (.iconst 1, 1) := by decide +kernel
theorem dX9_reach_15 : decode cX9_reach 15 = .ok (.iload_n 1, 1) := by decide +kernel
theorem dX9_reach_16 : decode cX9_reach 16 = .ok (.ishl, 1) := by decide +kernel
theorem dX9_reach_17 : decode cX9_reach 17 = .ok (.istore 4, 2) := by decide +kernel
theorem dX9_reach_19 : decode cX9_reach 19 = .ok (.iconst 1, 1) := by decide +kernel
theorem dX9_reach_20 : decode cX9_reach 20 = .ok (.istore 5, 2) := by decide +kernel
theorem dX9_reach_22 : decode cX9_reach 22 = .ok (.aload_n 0, 1) := by decide +kernel
theorem dX9_reach_23 : decode cX9_reach 23 = .ok (.getfield 55, 3) := by decide +kernel
theorem dX9_reach_26 : decode cX9_reach 26 = .ok (.iconst 0, 1) := by decide +kernel
theorem dX9_reach_27 : decode cX9_reach 27 = .ok (.iload_n 1, 1) := by decide +kernel
theorem dX9_reach_28 : decode cX9_reach 28 = .ok (.iastore, 1) := by decide +kernel
theorem dX9_reach_29 : decode cX9_reach 29 = .ok (.aload_n 0, 1) := by decide +kernel
theorem dX9_reach_30 : decode cX9_reach 30 = .ok (.getfield 58, 3) := by decide +kernel
theorem dX9_reach_33 : decode cX9_reach 33 = .ok (.iload_n 1, 1) := by decide +kernel
theorem dX9_reach_34 : decode cX9_reach 34 = .ok (.iconst (-1), 1) := by decide +kernel
theorem dX9_reach_35 : decode cX9_reach 35 = .ok (.iastore, 1) := by decide +kernel
theorem dX9_reach_36 : decode cX9_reach 36 = .ok (.iconst 0, 1) := by decide +kernel
theorem dX9_reach_37 : decode cX9_reach 37 = .ok (.istore 6, 2) := by decide +kernel
theorem dX9_reach_39 : decode cX9_reach 39 = .ok (.iload 6, 2) := by decide +kernel
theorem dX9_reach_41 : decode cX9_reach 41 = .ok (.iload 5, 2) := by decide +kernel
theorem dX9_reach_43 : decode cX9_reach 43 = .ok (.if_icmp .ge 122, 3) := by decide +kernel
theorem dX9_reach_46 : decode cX9_reach 46 = .ok (.iload 6, 2) := by decide +kernel
theorem dX9_reach_48 : decode cX9_reach 48 = .ok (.bipush 30, 2) := by decide +kernel
theorem dX9_reach_50 : decode cX9_reach 50 = .ok (.if_icmp .ge 115, 3) := by decide +kernel
theorem dX9_reach_53 : decode cX9_reach 53 = .ok (.aload_n 0, 1) := by decide +kernel
theorem dX9_reach_54 : decode cX9_reach 54 = .ok (.getfield 55, 3) := by decide +kernel
theorem dX9_reach_57 : decode cX9_reach 57 = .ok (.iload 6, 2) := by decide +kernel
theorem dX9_reach_59 : decode cX9_reach 59 = .ok (.iaload, 1) := by decide +kernel
theorem dX9_reach_60 : decode cX9_reach 60 = .ok (.istore 7, 2) := by decide +kernel
theorem dX9_reach_62 : decode cX9_reach 62 = .ok (.iconst 4, 1) := by decide +kernel
theorem dX9_reach_63 : decode cX9_reach 63 = .ok (.iload 7, 2) := by decide +kernel
theorem dX9_reach_65 : decode cX9_reach 65 = .ok (.imul, 1) := by decide +kernel
theorem dX9_reach_66 : decode cX9_reach 66 = .ok (.istore 8, 2) := by decide +kernel
theorem dX9_reach_68 : decode cX9_reach 68 = .ok (.iload 8, 2) := by decide +kernel
theorem dX9_reach_70 : decode cX9_reach 70 = .ok (.iconst 4, 1) := by decide +kernel
theorem dX9_reach_71 : decode cX9_reach 71 = .ok (.iload 7, 2) := by decide +kernel
theorem dX9_reach_73 : decode cX9_reach 73 = .ok (.imul, 1) := by decide +kernel
theorem dX9_reach_74 : decode cX9_reach 74 = .ok (.iconst 4, 1) := by decide +kernel
theorem dX9_reach_75 : decode cX9_reach 75 = .ok (.iadd, 1) := by decide +kernel
theorem dX9_reach_76 : decode cX9_reach 76 = .ok (.if_icmp .ge 83, 3) := by decide +kernel
theorem dX9_reach_79 : decode cX9_reach 79 = .ok (.aload_n 0, 1) := by decide +kernel
theorem dX9_reach_80 : decode cX9_reach 80 = .ok (.getfield 31, 3) := by decide +kernel
theorem dX9_reach_83 : decode cX9_reach 83 = .ok (.iload 8, 2) := by decide +kernel
theorem dX9_reach_85 : decode cX9_reach 85 = .ok (.iaload, 1) := by decide +kernel
theorem dX9_reach_86 : decode cX9_reach 86 = .ok (.iconst 2, 1) := by decide +kernel
theorem dX9_reach_87 : decode cX9_reach 87 = .ok (.ishr, 1) := by decide +kernel
theorem dX9_reach_88 : decode cX9_reach 88 = .ok (.istore 9, 2) := by decide +kernel
theorem dX9_reach_90 : decode cX9_reach 90 = .ok (.lload_n 2, 1) := by decide +kernel
theorem dX9_reach_91 : decode cX9_reach 91 = .ok (.aload_n 0, 1) := by decide +kernel
theorem dX9_reach_92 : decode cX9_reach 92 = .ok (.getfield 34, 3) := by decide +kernel
theorem dX9_reach_95 : decode cX9_reach 95 = .ok (.iload 8, 2) := by decide +kernel
theorem dX9_reach_97 : decode cX9_reach 97 = .ok (.iaload, 1) := by decide +kernel
theorem dX9_reach_98 : decode cX9_reach 98 = .ok (.lushr, 1) := by decide +kernel
theorem dX9_reach_99 : decode cX9_reach 99 = .ok (.lconst 1, 1) := by decide +kernel
theorem dX9_reach_100 : decode cX9_reach 100 = .ok (.land, 1) := by decide +kernel
theorem dX9_reach_101 : decode cX9_reach 101 = .ok (.lconst 0, 1) := by decide +kernel
theorem dX9_reach_102 : decode cX9_reach 102 = .ok (.lcmp, 1) := by decide +kernel
theorem dX9_reach_103 : decode cX9_reach 103 = .ok (.ifCond .eq 50, 3) := by decide +kernel
theorem dX9_reach_106 : decode cX9_reach 106 = .ok (.iload 4, 2) := by decide +kernel
theorem dX9_reach_108 : decode cX9_reach 108 = .ok (.iload 9, 2) := by decide +kernel
theorem dX9_reach_110 : decode cX9_reach 110 = .ok (.iushr, 1) := by decide +kernel
theorem dX9_reach_111 : decode cX9_reach 111 = .ok (.iconst 1, 1) := by decide +kernel
theorem dX9_reach_112 : decode cX9_reach 112 = .ok (.iand, 1) := by decide +kernel
theorem dX9_reach_113 : decode cX9_reach 113 = .ok (.ifCond .ne 40, 3) := by decide +kernel
theorem dX9_reach_116 : decode cX9_reach 116 = .ok (.iload 5, 2) := by decide +kernel
theorem dX9_reach_118 : decode cX9_reach 118 = .ok (.bipush 30, 2) := by decide +kernel
theorem dX9_reach_120 : decode cX9_reach 120 = .ok (.if_icmp .ge 33, 3) := by decide +kernel
theorem dX9_reach_123 : decode cX9_reach 123 = .ok (.iload 4, 2) := by decide +kernel
theorem dX9_reach_125 : decode cX9_reach 125 = .ok (.iconst 1, 1) := by decide +kernel
theorem dX9_reach_126 : decode cX9_reach 126 = .ok (.iload 9, 2) := by decide +kernel
theorem dX9_reach_128 : decode cX9_reach 128 = .ok (.ishl, 1) := by decide +kernel
theorem dX9_reach_129 : decode cX9_reach 129 = .ok (.ior, 1) := by decide +kernel
theorem dX9_reach_130 : decode cX9_reach 130 = .ok (.istore 4, 2) := by decide +kernel
theorem dX9_reach_132 : decode cX9_reach 132 = .ok (.aload_n 0, 1) := by decide +kernel
theorem dX9_reach_133 : decode cX9_reach 133 = .ok (.getfield 58, 3) := by decide +kernel
theorem dX9_reach_136 : decode cX9_reach 136 = .ok (.iload 9, 2) := by decide +kernel
theorem dX9_reach_138 : decode cX9_reach 138 = .ok (.iload 7, 2) := by decide +kernel
theorem dX9_reach_140 : decode cX9_reach 140 = .ok (.iastore, 1) := by decide +kernel
theorem dX9_reach_141 : decode cX9_reach 141 = .ok (.aload_n 0, 1) := by decide +kernel
theorem dX9_reach_142 : decode cX9_reach 142 = .ok (.getfield 55, 3) := by decide +kernel
theorem dX9_reach_145 : decode cX9_reach 145 = .ok (.iload 5, 2) := by decide +kernel
theorem dX9_reach_147 : decode cX9_reach 147 = .ok (.iload 9, 2) := by decide +kernel
theorem dX9_reach_149 : decode cX9_reach 149 = .ok (.iastore, 1) := by decide +kernel
theorem dX9_reach_150 : decode cX9_reach 150 = .ok (.iinc 5 1, 3) := by decide +kernel
theorem dX9_reach_153 : decode cX9_reach 153 = .ok (.iinc 8 1, 3) := by decide +kernel
theorem dX9_reach_156 : decode cX9_reach 156 = .ok (.goto (-88), 3) := by decide +kernel
theorem dX9_reach_159 : decode cX9_reach 159 = .ok (.iinc 6 1, 3) := by decide +kernel
theorem dX9_reach_162 : decode cX9_reach 162 = .ok (.goto (-123), 3) := by decide +kernel
theorem dX9_reach_165 : decode cX9_reach 165 = .ok (.iload 4, 2) := by decide +kernel
theorem dX9_reach_167 : decode cX9_reach 167 = .ok (.ireturn, 1) := by decide +kernel
theorem dX9_isJoined_0 : decode cX9_isJoined 0 = .ok (.aload_n 0, 1) := by decide +kernel
theorem dX9_isJoined_1 : decode cX9_isJoined 1 = .ok (.iload_n 1, 1) := by decide +kernel
theorem dX9_isJoined_2 : decode cX9_isJoined 2 = .ok (.lload_n 3, 1) := by decide +kernel
theorem dX9_isJoined_3 : decode cX9_isJoined 3 = .ok (.invokevirtual 118, 3) := by decide +kernel
theorem dX9_isJoined_6 : decode cX9_isJoined 6 = .ok (.iload_n 2, 1) := by decide +kernel
theorem dX9_isJoined_7 : decode cX9_isJoined 7 = .ok (.iushr, 1) := by decide +kernel
theorem dX9_isJoined_8 : decode cX9_isJoined 8 = .ok (.iconst 1, 1) := by decide +kernel
theorem dX9_isJoined_9 : decode cX9_isJoined 9 = .ok (.iand, 1) := by decide +kernel
theorem dX9_isJoined_10 : decode cX9_isJoined 10 = .ok (.ifCond .eq 7, 3) := by decide +kernel
theorem dX9_isJoined_13 : decode cX9_isJoined 13 = .ok (.iconst 1, 1) := by decide +kernel
theorem dX9_isJoined_14 : decode cX9_isJoined 14 = .ok (.goto 4, 3) := by decide +kernel
theorem dX9_isJoined_17 : decode cX9_isJoined 17 = .ok (.iconst 0, 1) := by decide +kernel
theorem dX9_isJoined_18 : decode cX9_isJoined 18 = .ok (.ireturn, 1) := by decide +kernel
theorem dX9_walkBack_0 : decode cX9_walkBack 0 = .ok (.aload_n 0, 1) := by decide +kernel
theorem dX9_walkBack_1 : decode cX9_walkBack 1 = .ok (.iload_n 1, 1) := by decide +kernel
theorem dX9_walkBack_2 : decode cX9_walkBack 2 = .ok (.iload_n 2, 1) := by decide +kernel
theorem dX9_walkBack_3 : decode cX9_walkBack 3 = .ok (.lload_n 3, 1) := by decide +kernel
theorem dX9_walkBack_4 : decode cX9_walkBack 4 = .ok (.invokevirtual 122, 3) := by decide +kernel
theorem dX9_walkBack_7 : decode cX9_walkBack 7 = .ok (.ifCond .ne 5, 3) := by decide +kernel
theorem dX9_walkBack_10 : decode cX9_walkBack 10 = .ok (.iconst (-1), 1) := by decide +kernel
theorem dX9_walkBack_11 : decode cX9_walkBack 11 = .ok (.ireturn, 1) := by decide +kernel
theorem dX9_walkBack_12 : decode cX9_walkBack 12 = .ok (.iconst 0, 1) := by decide +kernel
theorem dX9_walkBack_13 : decode cX9_walkBack 13 = .ok (.istore 5, 2) := by decide +kernel
theorem dX9_walkBack_15 : decode cX9_walkBack 15 = .ok (.aload_n 0, 1) := by decide +kernel
theorem dX9_walkBack_16 : decode cX9_walkBack 16 = .ok (.getfield 58, 3) := by decide +kernel
theorem dX9_walkBack_19 : decode cX9_walkBack 19 = .ok (.iload_n 2, 1) := by decide +kernel
theorem dX9_walkBack_20 : decode cX9_walkBack 20 = .ok (.iaload, 1) := by decide +kernel
theorem dX9_walkBack_21 : decode cX9_walkBack 21 = .ok (.istore 6, 2) := by decide +kernel
theorem dX9_walkBack_23 : decode cX9_walkBack 23 = .ok (.iload 6, 2) := by decide +kernel
theorem dX9_walkBack_25 : decode cX9_walkBack 25 = .ok (.iconst (-1), 1) := by decide +kernel
theorem dX9_walkBack_26 : decode cX9_walkBack 26 = .ok (.if_icmp .eq 25, 3) := by decide +kernel
theorem dX9_walkBack_29 : decode cX9_walkBack 29 = .ok (.iload 5, 2) := by decide +kernel
theorem dX9_walkBack_31 : decode cX9_walkBack 31 = .ok (.bipush 30, 2) := by decide +kernel
theorem dX9_walkBack_33 : decode cX9_walkBack 33 = .ok (.if_icmp .ge 18, 3) := by decide +kernel
theorem dX9_walkBack_36 : decode cX9_walkBack 36 = .ok (.iinc 5 1, 3) := by decide +kernel
theorem dX9_walkBack_39 : decode cX9_walkBack 39 = .ok (.aload_n 0, 1) := by decide +kernel
theorem dX9_walkBack_40 : decode cX9_walkBack 40 = .ok (.getfield 58, 3) := by decide +kernel
theorem dX9_walkBack_43 : decode cX9_walkBack 43 = .ok (.iload 6, 2) := by decide +kernel
theorem dX9_walkBack_45 : decode cX9_walkBack 45 = .ok (.iaload, 1) := by decide +kernel
theorem dX9_walkBack_46 : decode cX9_walkBack 46 = .ok (.istore 6, 2) := by decide +kernel
theorem dX9_walkBack_48 : decode cX9_walkBack 48 = .ok (.goto (-25), 3) := by decide +kernel
theorem dX9_walkBack_51 : decode cX9_walkBack 51 = .ok (.iload 5, 2) := by decide +kernel
theorem dX9_walkBack_53 : decode cX9_walkBack 53 = .ok (.ireturn, 1) := by decide +kernel
theorem dX9_faceOnWay_0 : decode cX9_faceOnWay 0 = .ok (.iload_n 1, 1) := by decide +kernel
theorem dX9_faceOnWay_1 : decode cX9_faceOnWay 1 = .ok (.istore_n 3, 1) := by decide +kernel
theorem dX9_faceOnWay_2 : decode cX9_faceOnWay 2 = .ok (.iconst 0, 1) := by decide +kernel
theorem dX9_faceOnWay_3 : decode cX9_faceOnWay 3 = .ok (.istore 4, 2) := by decide +kernel
theorem dX9_faceOnWay_5 : decode cX9_faceOnWay 5 = .ok (.iload 4, 2) := by decide +kernel
theorem dX9_faceOnWay_7 : decode cX9_faceOnWay 7 = .ok (.iload_n 2, 1) := by decide +kernel
theorem dX9_faceOnWay_8 : decode cX9_faceOnWay 8 = .ok (.if_icmp .ge 21, 3) := by decide +kernel
theorem dX9_faceOnWay_11 : decode cX9_faceOnWay 11 = .ok (.iload_n 3, 1) := by decide +kernel
theorem dX9_faceOnWay_12 : decode cX9_faceOnWay 12 = .ok (.iconst (-1), 1) := by decide +kernel
theorem dX9_faceOnWay_13 : decode cX9_faceOnWay 13 = .ok (.if_icmp .eq 16, 3) := by decide +kernel
theorem dX9_faceOnWay_16 : decode cX9_faceOnWay 16 = .ok (.aload_n 0, 1) := by decide +kernel
theorem dX9_faceOnWay_17 : decode cX9_faceOnWay 17 = .ok (.getfield 58, 3) := by decide +kernel
theorem dX9_faceOnWay_20 : decode cX9_faceOnWay 20 = .ok (.iload_n 3, 1) := by decide +kernel
theorem dX9_faceOnWay_21 : decode cX9_faceOnWay 21 = .ok (.iaload, 1) := by decide +kernel
theorem dX9_faceOnWay_22 : decode cX9_faceOnWay 22 = .ok (.istore_n 3, 1) := by decide +kernel
theorem dX9_faceOnWay_23 : decode cX9_faceOnWay 23 = .ok (.iinc 4 1, 3) := by decide +kernel
theorem dX9_faceOnWay_26 : decode cX9_faceOnWay 26 = .ok (.goto (-21), 3) := by decide +kernel
theorem dX9_faceOnWay_29 : decode cX9_faceOnWay 29 = .ok (.iload_n 3, 1) := by decide +kernel
theorem dX9_faceOnWay_30 : decode cX9_faceOnWay 30 = .ok (.ireturn, 1) := by decide +kernel
theorem dX9_startTree_0 : decode cX9_startTree 0 = .ok (.aload_n 1, 1) := by decide +kernel
theorem dX9_startTree_1 : decode cX9_startTree 1 = .ok (.lconst 0, 1) := by decide +kernel
theorem dX9_startTree_2 : decode cX9_startTree 2 = .ok (.putfield 126, 3) := by decide +kernel
theorem dX9_startTree_5 : decode cX9_startTree 5 = .ok (.iconst 0, 1) := by decide +kernel
theorem dX9_startTree_6 : decode cX9_startTree 6 = .ok (.istore_n 2, 1) := by decide +kernel
theorem dX9_startTree_7 : decode cX9_startTree 7 = .ok (.iload_n 2, 1) := by decide +kernel
theorem dX9_startTree_8 : decode cX9_startTree 8 = .ok (.aload_n 0, 1) := by decide +kernel
theorem dX9_startTree_9 : decode cX9_startTree 9 = .ok (.getfield 19, 3) := by decide +kernel
theorem dX9_startTree_12 : decode cX9_startTree 12 = .ok (.if_icmp .ge 23, 3) := by decide +kernel
theorem dX9_startTree_15 : decode cX9_startTree 15 = .ok (.aload_n 0, 1) := by decide +kernel
theorem dX9_startTree_16 : decode cX9_startTree 16 = .ok (.getfield 61, 3) := by decide +kernel
theorem dX9_startTree_19 : decode cX9_startTree 19 = .ok (.iload_n 2, 1) := by decide +kernel
theorem dX9_startTree_20 : decode cX9_startTree 20 = .ok (.iconst (-1), 1) := by decide +kernel
theorem dX9_startTree_21 : decode cX9_startTree 21 = .ok (.iastore, 1) := by decide +kernel
theorem dX9_startTree_22 : decode cX9_startTree 22 = .ok (.aload_n 0, 1) := by decide +kernel
theorem dX9_startTree_23 : decode cX9_startTree 23 = .ok (.getfield 64, 3) := by decide +kernel
theorem dX9_startTree_26 : decode cX9_startTree 26 = .ok (.iload_n 2, 1) := by decide +kernel
theorem dX9_startTree_27 : decode cX9_startTree 27 = .ok (.iconst 0, 1) := by decide +kernel
theorem dX9_startTree_28 : decode cX9_startTree 28 = .ok (.iastore, 1) := by decide +kernel
theorem dX9_startTree_29 : decode cX9_startTree 29 = .ok (.iinc 2 1, 3) := by decide +kernel
theorem dX9_startTree_32 : decode cX9_startTree 32 = .ok (.goto (-25), 3) := by decide +kernel
theorem dX9_startTree_35 : decode cX9_startTree 35 = .ok (.aload_n 0, 1) := by decide +kernel
theorem dX9_startTree_36 : decode cX9_startTree 36 = .ok (.getfield 61, 3) := by decide +kernel
theorem dX9_startTree_39 : decode cX9_startTree 39 = .ok (.aload_n 1, 1) := by decide +kernel
theorem dX9_startTree_40 : decode cX9_startTree 40 = .ok (.getfield 132, 3) := by decide +kernel
theorem dX9_startTree_43 : decode cX9_startTree 43 = .ok (.iconst 0, 1) := by decide +kernel
theorem dX9_startTree_44 : decode cX9_startTree 44 = .ok (.iastore, 1) := by decide +kernel
theorem dX9_startTree_45 : decode cX9_startTree 45 = .ok (.aload_n 0, 1) := by decide +kernel
theorem dX9_startTree_46 : decode cX9_startTree 46 = .ok (.getfield 55, 3) := by decide +kernel
theorem dX9_startTree_49 : decode cX9_startTree 49 = .ok (.iconst 0, 1) := by decide +kernel
theorem dX9_startTree_50 : decode cX9_startTree 50 = .ok (.aload_n 1, 1) := by decide +kernel
theorem dX9_startTree_51 : decode cX9_startTree 51 = .ok (.getfield 132, 3) := by decide +kernel
theorem dX9_startTree_54 : decode cX9_startTree 54 = .ok (.iastore, 1) := by decide +kernel
theorem dX9_startTree_55 : decode cX9_startTree 55 = .ok (.return_, 1) := by decide +kernel
theorem dX9_growBehind_0 : decode cX9_growBehind 0 = .ok (.aload_n 0, 1) := by decide +kernel
theorem dX9_growBehind_1 : decode cX9_growBehind 1 = .ok (.getfield 31, 3) := by decide +kernel
theorem dX9_growBehind_4 : decode cX9_growBehind 4 = .ok (.iload_n 1, 1) := by decide +kernel
theorem dX9_growBehind_5 : decode cX9_growBehind 5 = .ok (.iaload, 1) := by decide +kernel
theorem dX9_growBehind_6 : decode cX9_growBehind 6 = .ok (.iconst 2, 1) := by decide +kernel
theorem dX9_growBehind_7 : decode cX9_growBehind 7 = .ok (.ishr, 1) := by decide +kernel
theorem dX9_growBehind_8 : decode cX9_growBehind 8 = .ok (.istore 4, 2) := by decide +kernel
theorem dX9_growBehind_10 : decode cX9_growBehind 10 = .ok (.aload_n 0, 1) := by decide +kernel
theorem dX9_growBehind_11 : decode cX9_growBehind 11 = .ok (.getfield 61, 3) := by decide +kernel
theorem dX9_growBehind_14 : decode cX9_growBehind 14 = .ok (.iload 4, 2) := by decide +kernel
theorem dX9_growBehind_16 : decode cX9_growBehind 16 = .ok (.iaload, 1) := by decide +kernel
theorem dX9_growBehind_17 : decode cX9_growBehind 17 = .ok (.iconst (-1), 1) := by decide +kernel
theorem dX9_growBehind_18 : decode cX9_growBehind 18 = .ok (.if_icmp .ne 9, 3) := by decide +kernel
theorem dX9_growBehind_21 : decode cX9_growBehind 21 = .ok (.iload_n 2, 1) := by decide +kernel
theorem dX9_growBehind_22 : decode cX9_growBehind 22 = .ok (.bipush 30, 2) := by decide +kernel
theorem dX9_growBehind_24 : decode cX9_growBehind 24 = .ok (.if_icmp .lt 5, 3) := by decide +kernel
theorem dX9_growBehind_27 : decode cX9_growBehind 27 = .ok (.iload_n 2, 1) := by decide +kernel
theorem dX9_growBehind_28 : decode cX9_growBehind 28 = .ok (.ireturn, 1) := by decide +kernel
theorem dX9_growBehind_29 : decode cX9_growBehind 29 = .ok (.aload_n 3, 1) := by decide +kernel
theorem dX9_growBehind_30 : decode cX9_growBehind 30 = .ok (.aload_n 0, 1) := by decide +kernel
theorem dX9_growBehind_31 : decode cX9_growBehind 31 = .ok (.getfield 34, 3) := by decide +kernel
theorem dX9_growBehind_34 : decode cX9_growBehind 34 = .ok (.iload_n 1, 1) := by decide +kernel
theorem dX9_growBehind_35 : decode cX9_growBehind 35 = .ok (.iaload, 1) := by decide +kernel
theorem dX9_growBehind_36 : decode cX9_growBehind 36 = .ok (.invokevirtual 135, 3) := by decide +kernel
theorem dX9_growBehind_39 : decode cX9_growBehind 39 = .ok (.aload_n 0, 1) := by decide +kernel
theorem dX9_growBehind_40 : decode cX9_growBehind 40 = .ok (.getfield 61, 3) := by decide +kernel
theorem dX9_growBehind_43 : decode cX9_growBehind 43 = .ok (.iload 4, 2) := by decide +kernel
theorem dX9_growBehind_45 : decode cX9_growBehind 45 = .ok (.aload_n 0, 1) := by decide +kernel
theorem dX9_growBehind_46 : decode cX9_growBehind 46 = .ok (.getfield 61, 3) := by decide +kernel
theorem dX9_growBehind_49 : decode cX9_growBehind 49 = .ok (.iload_n 1, 1) := by decide +kernel
theorem dX9_growBehind_50 : decode cX9_growBehind 50 = .ok (.iconst 2, 1) := by decide +kernel
theorem dX9_growBehind_51 : decode cX9_growBehind 51 = .ok (.ishr, 1) := by decide +kernel
theorem dX9_growBehind_52 : decode cX9_growBehind 52 = .ok (.iaload, 1) := by decide +kernel
theorem dX9_growBehind_53 : decode cX9_growBehind 53 = .ok (.iconst 1, 1) := by decide +kernel
theorem dX9_growBehind_54 : decode cX9_growBehind 54 = .ok (.iadd, 1) := by decide +kernel
theorem dX9_growBehind_55 : decode cX9_growBehind 55 = .ok (.iastore, 1) := by decide +kernel
theorem dX9_growBehind_56 : decode cX9_growBehind 56 = .ok (.aload_n 0, 1) := by decide +kernel
theorem dX9_growBehind_57 : decode cX9_growBehind 57 = .ok (.getfield 55, 3) := by decide +kernel
theorem dX9_growBehind_60 : decode cX9_growBehind 60 = .ok (.iload_n 2, 1) := by decide +kernel
theorem dX9_growBehind_61 : decode cX9_growBehind 61 = .ok (.iload 4, 2) := by decide +kernel
theorem dX9_growBehind_63 : decode cX9_growBehind 63 = .ok (.iastore, 1) := by decide +kernel
theorem dX9_growBehind_64 : decode cX9_growBehind 64 = .ok (.iload_n 2, 1) := by decide +kernel
theorem dX9_growBehind_65 : decode cX9_growBehind 65 = .ok (.iconst 1, 1) := by decide +kernel
theorem dX9_growBehind_66 : decode cX9_growBehind 66 = .ok (.iadd, 1) := by decide +kernel
theorem dX9_growBehind_67 : decode cX9_growBehind 67 = .ok (.ireturn, 1) := by decide +kernel
theorem dX9_growByBreadth_0 : decode cX9_growByBreadth 0 = .ok (.aload_n 0, 1) := by decide +kernel
theorem dX9_growByBreadth_1 : decode cX9_growByBreadth 1 = .ok (.aload_n 1, 1) := by decide +kernel
theorem dX9_growByBreadth_2 : decode cX9_growByBreadth 2 = .ok (.invokevirtual 139, 3) := by decide +kernel
theorem dX9_growByBreadth_5 : decode cX9_growByBreadth 5 = .ok (.iconst 1, 1) := by decide +kernel
theorem dX9_growByBreadth_6 : decode cX9_growByBreadth 6 = .ok (.istore_n 2, 1) := by decide +kernel
theorem dX9_growByBreadth_7 : decode cX9_growByBreadth 7 = .ok (.iconst 0, 1) := by decide +kernel
theorem dX9_growByBreadth_8 : decode cX9_growByBreadth 8 = .ok (.istore_n 3, 1) := by decide +kernel
theorem dX9_growByBreadth_9 : decode cX9_growByBreadth 9 = .ok (.iload_n 3, 1) := by decide +kernel
theorem dX9_growByBreadth_10 : decode cX9_growByBreadth 10 = .ok (.iload_n 2, 1) := by decide +kernel
theorem dX9_growByBreadth_11 : decode cX9_growByBreadth 11 = .ok (.if_icmp .ge 48, 3) := by decide +kernel
theorem dX9_growByBreadth_14 : decode cX9_growByBreadth 14 = .ok (.iload_n 3, 1) := by decide +kernel
theorem dX9_growByBreadth_15 : decode cX9_growByBreadth 15 = .ok (.bipush 30, 2) := by decide +kernel
theorem dX9_growByBreadth_17 : decode cX9_growByBreadth 17 = .ok (.if_icmp .ge 42, 3) := by decide +kernel
theorem dX9_growByBreadth_20 : decode cX9_growByBreadth 20 = .ok (.iconst 0, 1) := by decide +kernel
theorem dX9_growByBreadth_21 : decode cX9_growByBreadth 21 = .ok (.istore 4, 2) := by decide +kernel
theorem dX9_growByBreadth_23 : decode cX9_growByBreadth 23 = .ok (.iload 4, 2) := by decide +kernel
theorem dX9_growByBreadth_25 : decode cX9_growByBreadth 25 = .ok (.iconst 4, 1) := by decide +kernel
theorem dX9_growByBreadth_26 : decode cX9_growByBreadth 26 = .ok (.if_icmp .ge 27, 3) := by decide +kernel
theorem dX9_growByBreadth_29 : decode cX9_growByBreadth 29 = .ok (.aload_n 0, 1) := by decide +kernel
theorem dX9_growByBreadth_30 : decode cX9_growByBreadth 30 = .ok (.iconst 4, 1) := by decide +kernel
theorem dX9_growByBreadth_31 : decode cX9_growByBreadth 31 = .ok (.aload_n 0, 1) := by decide +kernel
theorem dX9_growByBreadth_32 : decode cX9_growByBreadth 32 = .ok (.getfield 55, 3) := by decide +kernel
theorem dX9_growByBreadth_35 : decode cX9_growByBreadth 35 = .ok (.iload_n 3, 1) := by decide +kernel
theorem dX9_growByBreadth_36 : decode cX9_growByBreadth 36 = .ok (.iaload, 1) := by decide +kernel
theorem dX9_growByBreadth_37 : decode cX9_growByBreadth 37 = .ok (.imul, 1) := by decide +kernel
theorem dX9_growByBreadth_38 : decode cX9_growByBreadth 38 = .ok (.iload 4, 2) := by decide +kernel
theorem dX9_growByBreadth_40 : decode cX9_growByBreadth 40 = .ok (.iadd, 1) := by decide +kernel
theorem dX9_growByBreadth_41 : decode cX9_growByBreadth 41 = .ok (.iload_n 2, 1) := by decide +kernel
theorem dX9_growByBreadth_42 : decode cX9_growByBreadth 42 = .ok (.aload_n 1, 1) := by decide +kernel
theorem dX9_growByBreadth_43 : decode cX9_growByBreadth 43 = .ok (.invokevirtual 143, 3) := by decide +kernel
theorem dX9_growByBreadth_46 : decode cX9_growByBreadth 46 = .ok (.istore_n 2, 1) := by decide +kernel
theorem dX9_growByBreadth_47 : decode cX9_growByBreadth 47 = .ok (.iinc 4 1, 3) := by decide +kernel
theorem dX9_growByBreadth_50 : decode cX9_growByBreadth 50 = .ok (.goto (-27), 3) := by decide +kernel
theorem dX9_growByBreadth_53 : decode cX9_growByBreadth 53 = .ok (.iinc 3 1, 3) := by decide +kernel
theorem dX9_growByBreadth_56 : decode cX9_growByBreadth 56 = .ok (.goto (-47), 3) := by decide +kernel
theorem dX9_growByBreadth_59 : decode cX9_growByBreadth 59 = .ok (.aload_n 0, 1) := by decide +kernel
theorem dX9_growByBreadth_60 : decode cX9_growByBreadth 60 = .ok (.invokevirtual 147, 3) := by decide +kernel
theorem dX9_growByBreadth_63 : decode cX9_growByBreadth 63 = .ok (.ireturn, 1) := by decide +kernel
theorem dX9_growByDepth_0 : decode cX9_growByDepth 0 = .ok (.aload_n 0, 1) := by decide +kernel
theorem dX9_growByDepth_1 : decode cX9_growByDepth 1 = .ok (.aload_n 1, 1) := by decide +kernel
theorem dX9_growByDepth_2 : decode cX9_growByDepth 2 = .ok (.invokevirtual 139, 3) := by decide +kernel
theorem dX9_growByDepth_5 : decode cX9_growByDepth 5 = .ok (.iconst 1, 1) := by decide +kernel
theorem dX9_growByDepth_6 : decode cX9_growByDepth 6 = .ok (.istore_n 2, 1) := by decide +kernel
theorem dX9_growByDepth_7 : decode cX9_growByDepth 7 = .ok (.iconst 0, 1) := by decide +kernel
theorem dX9_growByDepth_8 : decode cX9_growByDepth 8 = .ok (.istore_n 3, 1) := by decide +kernel
theorem dX9_growByDepth_9 : decode cX9_growByDepth 9 = .ok (.iload_n 3, 1) := by decide +kernel
theorem dX9_growByDepth_10 : decode cX9_growByDepth 10 = .ok (.sipush 150, 3) := by decide +kernel
theorem dX9_growByDepth_13 : decode cX9_growByDepth 13 = .ok (.if_icmp .ge 70, 3) := by decide +kernel
theorem dX9_growByDepth_16 : decode cX9_growByDepth 16 = .ok (.iload_n 2, 1) := by decide +kernel
theorem dX9_growByDepth_17 : decode cX9_growByDepth 17 = .ok (.ifCond .le 66, 3) := by decide +kernel
theorem dX9_growByDepth_20 : decode cX9_growByDepth 20 = .ok (.aload_n 0, 1) := by decide +kernel
theorem dX9_growByDepth_21 : decode cX9_growByDepth 21 = .ok (.getfield 55, 3) := by decide +kernel
theorem dX9_growByDepth_24 : decode cX9_growByDepth 24 = .ok (.iload_n 2, 1) := by decide +kernel
theorem dX9_growByDepth_25 : decode cX9_growByDepth 25 = .ok (.iconst 1, 1) := by decide +kernel
theorem dX9_growByDepth_26 : decode cX9_growByDepth 26 = .ok (.isub, 1) := by decide +kernel
theorem dX9_growByDepth_27 : decode cX9_growByDepth 27 = .ok (.iaload, 1) := by decide +kernel
theorem dX9_growByDepth_28 : decode cX9_growByDepth 28 = .ok (.istore 4, 2) := by decide +kernel
theorem dX9_growByDepth_30 : decode cX9_growByDepth 30 = .ok (.aload_n 0, 1) := by decide +kernel
theorem dX9_growByDepth_31 : decode cX9_growByDepth 31 = .ok (.getfield 64, 3) := by decide +kernel
theorem dX9_growByDepth_34 : decode cX9_growByDepth 34 = .ok (.iload 4, 2) := by decide +kernel
theorem dX9_growByDepth_36 : decode cX9_growByDepth 36 = .ok (.iaload, 1) := by decide +kernel
theorem dX9_growByDepth_37 : decode cX9_growByDepth 37 = .ok (.iconst 3, 1) := by decide +kernel
theorem dX9_growByDepth_38 : decode cX9_growByDepth 38 = .ok (.if_icmp .le 9, 3) := by decide +kernel
theorem dX9_growByDepth_41 : decode cX9_growByDepth 41 = .ok (.iinc 2 (-1), 3) := by decide +kernel
theorem dX9_growByDepth_44 : decode cX9_growByDepth 44 = .ok (.goto 33, 3) := by decide +kernel
theorem dX9_growByDepth_47 : decode cX9_growByDepth 47 = .ok (.aload_n 0, 1) := by decide +kernel
theorem dX9_growByDepth_48 : decode cX9_growByDepth 48 = .ok (.iconst 4, 1) := by decide +kernel
theorem dX9_growByDepth_49 : decode cX9_growByDepth 49 = .ok (.iload 4, 2) := by decide +kernel
theorem dX9_growByDepth_51 : decode cX9_growByDepth 51 = .ok (.imul, 1) := by decide +kernel
theorem dX9_growByDepth_52 : decode cX9_growByDepth 52 = .ok (.aload_n 0, 1) := by decide +kernel
theorem dX9_growByDepth_53 : decode cX9_growByDepth 53 = .ok (.getfield 64, 3) := by decide +kernel
theorem dX9_growByDepth_56 : decode cX9_growByDepth 56 = .ok (.iload 4, 2) := by decide +kernel
theorem dX9_growByDepth_58 : decode cX9_growByDepth 58 = .ok (.iaload, 1) := by decide +kernel
theorem dX9_growByDepth_59 : decode cX9_growByDepth 59 = .ok (.iadd, 1) := by decide +kernel
theorem dX9_growByDepth_60 : decode cX9_growByDepth 60 = .ok (.iload_n 2, 1) := by decide +kernel
theorem dX9_growByDepth_61 : decode cX9_growByDepth 61 = .ok (.aload_n 1, 1) := by decide +kernel
theorem dX9_growByDepth_62 : decode cX9_growByDepth 62 = .ok (.invokevirtual 143, 3) := by decide +kernel
theorem dX9_growByDepth_65 : decode cX9_growByDepth 65 = .ok (.istore_n 2, 1) := by decide +kernel
theorem dX9_growByDepth_66 : decode cX9_growByDepth 66 = .ok (.aload_n 0, 1) := by decide +kernel
theorem dX9_growByDepth_67 : decode cX9_growByDepth 67 = .ok (.getfield 64, 3) := by decide +kernel
theorem dX9_growByDepth_70 : decode cX9_growByDepth 70 = .ok (.iload 4, 2) := by decide +kernel
theorem dX9_growByDepth_72 : decode cX9_growByDepth 72 = .ok (.dup2, 1) := by decide +kernel
theorem dX9_growByDepth_73 : decode cX9_growByDepth 73 = .ok (.iaload, 1) := by decide +kernel
theorem dX9_growByDepth_74 : decode cX9_growByDepth 74 = .ok (.iconst 1, 1) := by decide +kernel
theorem dX9_growByDepth_75 : decode cX9_growByDepth 75 = .ok (.iadd, 1) := by decide +kernel
theorem dX9_growByDepth_76 : decode cX9_growByDepth 76 = .ok (.iastore, 1) := by decide +kernel
theorem dX9_growByDepth_77 : decode cX9_growByDepth 77 = .ok (.iinc 3 1, 3) := by decide +kernel
theorem dX9_growByDepth_80 : decode cX9_growByDepth 80 = .ok (.goto (-71), 3) := by decide +kernel
theorem dX9_growByDepth_83 : decode cX9_growByDepth 83 = .ok (.aload_n 0, 1) := by decide +kernel
theorem dX9_growByDepth_84 : decode cX9_growByDepth 84 = .ok (.invokevirtual 147, 3) := by decide +kernel
theorem dX9_growByDepth_87 : decode cX9_growByDepth 87 = .ok (.ireturn, 1) := by decide +kernel
theorem dX9_greatestDepth_0 : decode cX9_greatestDepth 0 = .ok (.iconst 0, 1) := by decide +kernel
theorem dX9_greatestDepth_1 : decode cX9_greatestDepth 1 = .ok (.istore_n 1, 1) := by decide +kernel
theorem dX9_greatestDepth_2 : decode cX9_greatestDepth 2 = .ok (.iconst 0, 1) := by decide +kernel
theorem dX9_greatestDepth_3 : decode cX9_greatestDepth 3 = .ok (.istore_n 2, 1) := by decide +kernel
theorem dX9_greatestDepth_4 : decode cX9_greatestDepth 4 = .ok (.iload_n 2, 1) := by decide +kernel
theorem dX9_greatestDepth_5 : decode cX9_greatestDepth 5 = .ok (.aload_n 0, 1) := by decide +kernel
theorem dX9_greatestDepth_6 : decode cX9_greatestDepth 6 = .ok (.getfield 19, 3) := by decide +kernel
theorem dX9_greatestDepth_9 : decode cX9_greatestDepth 9 = .ok (.if_icmp .ge 20, 3) := by decide +kernel
theorem dX9_greatestDepth_12 : decode cX9_greatestDepth 12 = .ok (.iload_n 1, 1) := by decide +kernel
theorem dX9_greatestDepth_13 : decode cX9_greatestDepth 13 = .ok (.aload_n 0, 1) := by decide +kernel
theorem dX9_greatestDepth_14 : decode cX9_greatestDepth 14 = .ok (.getfield 61, 3) := by decide +kernel
theorem dX9_greatestDepth_17 : decode cX9_greatestDepth 17 = .ok (.iload_n 2, 1) := by decide +kernel
theorem dX9_greatestDepth_18 : decode cX9_greatestDepth 18 = .ok (.iaload, 1) := by decide +kernel
theorem dX9_greatestDepth_19 : decode cX9_greatestDepth 19 = .ok (.invokestatic 109, 3) := by decide +kernel
theorem dX9_greatestDepth_22 : decode cX9_greatestDepth 22 = .ok (.istore_n 1, 1) := by decide +kernel
theorem dX9_greatestDepth_23 : decode cX9_greatestDepth 23 = .ok (.iinc 2 1, 3) := by decide +kernel
theorem dX9_greatestDepth_26 : decode cX9_greatestDepth 26 = .ok (.goto (-22), 3) := by decide +kernel
theorem dX9_greatestDepth_29 : decode cX9_greatestDepth 29 = .ok (.iload_n 1, 1) := by decide +kernel
theorem dX9_greatestDepth_30 : decode cX9_greatestDepth 30 = .ok (.ireturn, 1) := by decide +kernel
theorem dX10_init_0 : decode cX10_init 0 = .ok (.aload_n 0, 1) := by decide +kernel
theorem dX10_init_1 : decode cX10_init 1 = .ok (.invokespecial 3, 3) := by decide +kernel
theorem dX10_init_4 : decode cX10_init 4 = .ok (.aload_n 0, 1) := by decide +kernel
theorem dX10_init_5 : decode cX10_init 5 = .ok (.iconst 0, 1) := by decide +kernel
theorem dX10_init_6 : decode cX10_init 6 = .ok (.putfield 9, 3) := by decide +kernel
theorem dX10_init_9 : decode cX10_init 9 = .ok (.aload_n 0, 1) := by decide +kernel
theorem dX10_init_10 : decode cX10_init 10 = .ok (.iconst (-1), 1) := by decide +kernel
theorem dX10_init_11 : decode cX10_init 11 = .ok (.putfield 15, 3) := by decide +kernel
theorem dX10_init_14 : decode cX10_init 14 = .ok (.aload_n 0, 1) := by decide +kernel
theorem dX10_init_15 : decode cX10_init 15 = .ok (.iconst (-1), 1) := by decide +kernel
theorem dX10_init_16 : decode cX10_init 16 = .ok (.putfield 19, 3) := by decide +kernel
theorem dX10_init_19 : decode cX10_init 19 = .ok (.aload_n 0, 1) := by decide +kernel
theorem dX10_init_20 : decode cX10_init 20 = .ok (.iconst 0, 1) := by decide +kernel
theorem dX10_init_21 : decode cX10_init 21 = .ok (.putfield 22, 3) := by decide +kernel
theorem dX10_init_24 : decode cX10_init 24 = .ok (.aload_n 0, 1) := by decide +kernel
theorem dX10_init_25 : decode cX10_init 25 = .ok (.bipush 64, 2) := by decide +kernel
theorem dX10_init_27 : decode cX10_init 27 = .ok (.newarray .long, 2) := by decide +kernel
theorem dX10_init_29 : decode cX10_init 29 = .ok (.putfield 25, 3) := by decide +kernel
theorem dX10_init_32 : decode cX10_init 32 = .ok (.aload_n 0, 1) := by decide +kernel
theorem dX10_init_33 : decode cX10_init 33 = .ok (.aload_n 1, 1) := by decide +kernel
theorem dX10_init_34 : decode cX10_init 34 = .ok (.putfield 29, 3) := by decide +kernel
theorem dX10_init_37 : decode cX10_init 37 = .ok (.aload_n 0, 1) := by decide +kernel
theorem dX10_init_38 : decode cX10_init 38 = .ok (.aload_n 2, 1) := by decide +kernel
theorem dX10_init_39 : decode cX10_init 39 = .ok (.putfield 33, 3) := by decide +kernel
theorem dX10_init_42 : decode cX10_init 42 = .ok (.return_, 1) := by decide +kernel
theorem dX10_look_0 : decode cX10_look 0 = .ok (.aload_n 0, 1) := by decide +kernel
theorem dX10_look_1 : decode cX10_look 1 = .ok (.getfield 9, 3) := by decide +kernel
theorem dX10_look_4 : decode cX10_look 4 = .ok (.ifCond .eq 4, 3) := by decide +kernel
theorem dX10_look_7 : decode cX10_look 7 = .ok (.return_, 1) := by decide +kernel
theorem dX10_look_8 : decode cX10_look 8 = .ok (.aload_n 0, 1) := by decide +kernel
theorem dX10_look_9 : decode cX10_look 9 = .ok (.iconst (-1), 1) := by decide +kernel
theorem dX10_look_10 : decode cX10_look 10 = .ok (.putfield 15, 3) := by decide +kernel
theorem dX10_look_13 : decode cX10_look 13 = .ok (.aload_n 0, 1) := by decide +kernel
theorem dX10_look_14 : decode cX10_look 14 = .ok (.iconst (-1), 1) := by decide +kernel
theorem dX10_look_15 : decode cX10_look 15 = .ok (.putfield 19, 3) := by decide +kernel
theorem dX10_look_18 : decode cX10_look 18 = .ok (.aload_n 0, 1) := by decide +kernel
theorem dX10_look_19 : decode cX10_look 19 = .ok (.iconst 0, 1) := by decide +kernel
theorem dX10_look_20 : decode cX10_look 20 = .ok (.putfield 22, 3) := by decide +kernel
theorem dX10_look_23 : decode cX10_look 23 = .ok (.iconst 0, 1) := by decide +kernel
theorem dX10_look_24 : decode cX10_look 24 = .ok (.istore_n 2, 1) := by decide +kernel
theorem dX10_look_25 : decode cX10_look 25 = .ok (.iload_n 2, 1) := by decide +kernel
theorem dX10_look_26 : decode cX10_look 26 = .ok (.aload_n 0, 1) := by decide +kernel
theorem dX10_look_27 : decode cX10_look 27 = .ok (.getfield 29, 3) := by decide +kernel
theorem dX10_look_30 : decode cX10_look 30 = .ok (.getfield 37, 3) := by decide +kernel
theorem dX10_look_33 : decode cX10_look 33 = .ok (.if_icmp .ge 23, 3) := by decide +kernel
theorem dX10_look_36 : decode cX10_look 36 = .ok (.aload_n 1, 1) := by decide +kernel
theorem dX10_look_37 : decode cX10_look 37 = .ok (.iload_n 2, 1) := by decide +kernel
theorem dX10_look_38 : decode cX10_look 38 = .ok (.invokevirtual 42, 3) := by decide +kernel
theorem dX10_look_41 : decode cX10_look 41 = .ok (.ifCond .eq 9, 3) := by decide +kernel
theorem dX10_look_44 : decode cX10_look 44 = .ok (.aload_n 0, 1) := by decide +kernel
theorem dX10_look_45 : decode cX10_look 45 = .ok (.iload_n 2, 1) := by decide +kernel
theorem dX10_look_46 : decode cX10_look 46 = .ok (.aload_n 1, 1) := by decide +kernel
theorem dX10_look_47 : decode cX10_look 47 = .ok (.invokevirtual 48, 3) := by decide +kernel
theorem dX10_look_50 : decode cX10_look 50 = .ok (.iinc 2 1, 3) := by decide +kernel
theorem dX10_look_53 : decode cX10_look 53 = .ok (.goto (-28), 3) := by decide +kernel
theorem dX10_look_56 : decode cX10_look 56 = .ok (.aload_n 0, 1) := by decide +kernel
theorem dX10_look_57 : decode cX10_look 57 = .ok (.iconst 1, 1) := by decide +kernel
theorem dX10_look_58 : decode cX10_look 58 = .ok (.putfield 9, 3) := by decide +kernel
theorem dX10_look_61 : decode cX10_look 61 = .ok (.return_, 1) := by decide +kernel
theorem dX10_lookAt_0 : decode cX10_lookAt 0 = .ok (.aload_n 0, 1) := by decide +kernel
theorem dX10_lookAt_1 : decode cX10_lookAt 1 = .ok (.iload_n 1, 1) := by decide +kernel
theorem dX10_lookAt_2 : decode cX10_lookAt 2 = .ok (.invokevirtual 52, 3) := by decide +kernel
theorem dX10_lookAt_5 : decode cX10_lookAt 5 = .ok (.istore_n 3, 1) := by decide +kernel
theorem dX10_lookAt_6 : decode cX10_lookAt 6 = .ok (.aload_n 0, 1) := by decide +kernel
theorem dX10_lookAt_7 : decode cX10_lookAt 7 = .ok (.getfield 33, 3) := by decide +kernel
theorem dX10_lookAt_10 : decode cX10_lookAt 10 = .ok (.getfield 56, 3) := by decide +kernel
theorem dX10_lookAt_13 : decode cX10_lookAt 13 = .ok (.iload_n 3, 1) := by decide +kernel
theorem dX10_lookAt_14 : decode cX10_lookAt 14 = .ok (.iconst (-1), 1) := by decide +kernel
theorem dX10_lookAt_15 : decode cX10_lookAt 15 = .ok (.ixor, 1) := by decide +kernel
theorem dX10_lookAt_16 : decode cX10_lookAt 16 = .ok (.iand, 1) := by decide +kernel
theorem dX10_lookAt_17 : decode cX10_lookAt 17 = .ok (.istore 4, 2) := by decide +kernel
theorem dX10_lookAt_19 : decode cX10_lookAt 19 = .ok (.aload_n 0, 1) := by decide +kernel
theorem dX10_lookAt_20 : decode cX10_lookAt 20 = .ok (.iload_n 3, 1) := by decide +kernel
theorem dX10_lookAt_21 : decode cX10_lookAt 21 = .ok (.invokevirtual 61, 3) := by decide +kernel
theorem dX10_lookAt_24 : decode cX10_lookAt 24 = .ok (.aload_n 0, 1) := by decide +kernel
theorem dX10_lookAt_25 : decode cX10_lookAt 25 = .ok (.iload 4, 2) := by decide +kernel
theorem dX10_lookAt_27 : decode cX10_lookAt 27 = .ok (.invokevirtual 61, 3) := by decide +kernel
theorem dX10_lookAt_30 : decode cX10_lookAt 30 = .ok (.iadd, 1) := by decide +kernel
theorem dX10_lookAt_31 : decode cX10_lookAt 31 = .ok (.istore 5, 2) := by decide +kernel
theorem dX10_lookAt_33 : decode cX10_lookAt 33 = .ok (.iconst 0, 1) := by decide +kernel
theorem dX10_lookAt_34 : decode cX10_lookAt 34 = .ok (.istore 6, 2) := by decide +kernel
theorem dX10_lookAt_36 : decode cX10_lookAt 36 = .ok (.iload 6, 2) := by decide +kernel
theorem dX10_lookAt_38 : decode cX10_lookAt 38 = .ok (.aload_n 0, 1) := by decide +kernel
theorem dX10_lookAt_39 : decode cX10_lookAt 39 = .ok (.getfield 29, 3) := by decide +kernel
theorem dX10_lookAt_42 : decode cX10_lookAt 42 = .ok (.getfield 37, 3) := by decide +kernel
theorem dX10_lookAt_45 : decode cX10_lookAt 45 = .ok (.if_icmp .ge 142, 3) := by decide +kernel
theorem dX10_lookAt_48 : decode cX10_lookAt 48 = .ok (.iload_n 3, 1) := by decide +kernel
theorem dX10_lookAt_49 : decode cX10_lookAt 49 = .ok (.aload_n 0, 1) := by decide +kernel
theorem dX10_lookAt_50 : decode cX10_lookAt 50 = .ok (.getfield 29, 3) := by decide +kernel
theorem dX10_lookAt_53 : decode cX10_lookAt 53 = .ok (.iload 6, 2) := by decide +kernel
theorem dX10_lookAt_55 : decode cX10_lookAt 55 = .ok (.iconst 0, 1) := by decide +kernel
theorem dX10_lookAt_56 : decode cX10_lookAt 56 = .ok (.invokevirtual 64, 3) := by decide +kernel
theorem dX10_lookAt_59 : decode cX10_lookAt 59 = .ok (.iushr, 1) := by decide +kernel
theorem dX10_lookAt_60 : decode cX10_lookAt 60 = .ok (.iconst 1, 1) := by decide +kernel
theorem dX10_lookAt_61 : decode cX10_lookAt 61 = .ok (.iand, 1) := by decide +kernel
theorem dX10_lookAt_62 : decode cX10_lookAt 62 = .ok (.ifCond .eq 7, 3) := by decide +kernel
theorem dX10_lookAt_65 : decode cX10_lookAt 65 = .ok (.iconst 1, 1) := by decide +kernel
theorem dX10_lookAt_66 : decode cX10_lookAt 66 = .ok (.goto 4, 3) := by decide +kernel
theorem dX10_lookAt_69 : decode cX10_lookAt 69 = .ok (.iconst 0, 1) := by decide +kernel
theorem dX10_lookAt_70 : decode cX10_lookAt 70 = .ok (.istore 7, 2) := by decide +kernel
theorem dX10_lookAt_72 : decode cX10_lookAt 72 = .ok (.iload_n 3, 1) := by decide +kernel
theorem dX10_lookAt_73 : decode cX10_lookAt 73 = .ok (.aload_n 0, 1) := by decide +kernel
theorem dX10_lookAt_74 : decode cX10_lookAt 74 = .ok (.getfield 29, 3) := by decide +kernel
theorem dX10_lookAt_77 : decode cX10_lookAt 77 = .ok (.iload 6, 2) := by decide +kernel
theorem dX10_lookAt_79 : decode cX10_lookAt 79 = .ok (.iconst 1, 1) := by decide +kernel
theorem dX10_lookAt_80 : decode cX10_lookAt 80 = .ok (.invokevirtual 64, 3) := by decide +kernel
theorem dX10_lookAt_83 : decode cX10_lookAt 83 = .ok (.iushr, 1) := by decide +kernel
theorem dX10_lookAt_84 : decode cX10_lookAt 84 = .ok (.iconst 1, 1) := by decide +kernel
theorem dX10_lookAt_85 : decode cX10_lookAt 85 = .ok (.iand, 1) := by decide +kernel
theorem dX10_lookAt_86 : decode cX10_lookAt 86 = .ok (.ifCond .eq 7, 3) := by decide +kernel
theorem dX10_lookAt_89 : decode cX10_lookAt 89 = .ok (.iconst 1, 1) := by decide +kernel
theorem dX10_lookAt_90 : decode cX10_lookAt 90 = .ok (.goto 4, 3) := by decide +kernel
theorem dX10_lookAt_93 : decode cX10_lookAt 93 = .ok (.iconst 0, 1) := by decide +kernel
theorem dX10_lookAt_94 : decode cX10_lookAt 94 = .ok (.istore 8, 2) := by decide +kernel
theorem dX10_lookAt_96 : decode cX10_lookAt 96 = .ok (.aload_n 2, 1) := by decide +kernel
theorem dX10_lookAt_97 : decode cX10_lookAt 97 = .ok (.iload 6, 2) := by decide +kernel
theorem dX10_lookAt_99 : decode cX10_lookAt 99 = .ok (.invokevirtual 42, 3) := by decide +kernel
theorem dX10_lookAt_102 : decode cX10_lookAt 102 = .ok (.ifCond .ne 79, 3) := by decide +kernel
theorem dX10_lookAt_105 : decode cX10_lookAt 105 = .ok (.iload 7, 2) := by decide +kernel
theorem dX10_lookAt_107 : decode cX10_lookAt 107 = .ok (.iload 8, 2) := by decide +kernel
theorem dX10_lookAt_109 : decode cX10_lookAt 109 = .ok (.if_icmp .eq 72, 3) := by decide +kernel
theorem dX10_lookAt_112 : decode cX10_lookAt 112 = .ok (.aload_n 0, 1) := by decide +kernel
theorem dX10_lookAt_113 : decode cX10_lookAt 113 = .ok (.getfield 29, 3) := by decide +kernel
theorem dX10_lookAt_116 : decode cX10_lookAt 116 = .ok (.getfield 68, 3) := by decide +kernel
theorem dX10_lookAt_119 : decode cX10_lookAt 119 = .ok (.iconst 2, 1) := by decide +kernel
theorem dX10_lookAt_120 : decode cX10_lookAt 120 = .ok (.iload 6, 2) := by decide +kernel
theorem dX10_lookAt_122 : decode cX10_lookAt 122 = .ok (.imul, 1) := by decide +kernel
theorem dX10_lookAt_123 : decode cX10_lookAt 123 = .ok (.iload 7, 2) := by decide +kernel
theorem dX10_lookAt_125 : decode cX10_lookAt 125 = .ok (.ifCond .eq 7, 3) := by decide +kernel
theorem dX10_lookAt_128 : decode cX10_lookAt 128 = .ok (.iconst 1, 1) := by decide +kernel
theorem dX10_lookAt_129 : decode cX10_lookAt 129 = .ok (.goto 4, 3) := by decide +kernel
theorem dX10_lookAt_132 : decode cX10_lookAt 132 = .ok (.iconst 0, 1) := by decide +kernel
theorem dX10_lookAt_133 : decode cX10_lookAt 133 = .ok (.iadd, 1) := by decide +kernel
theorem dX10_lookAt_134 : decode cX10_lookAt 134 = .ok (.iaload, 1) := by decide +kernel
theorem dX10_lookAt_135 : decode cX10_lookAt 135 = .ok (.istore 9, 2) := by decide +kernel
theorem dX10_lookAt_137 : decode cX10_lookAt 137 = .ok (.aload_n 0, 1) := by decide +kernel
theorem dX10_lookAt_138 : decode cX10_lookAt 138 = .ok (.getfield 29, 3) := by decide +kernel
theorem dX10_lookAt_141 : decode cX10_lookAt 141 = .ok (.getfield 68, 3) := by decide +kernel
theorem dX10_lookAt_144 : decode cX10_lookAt 144 = .ok (.iconst 2, 1) := by decide +kernel
theorem dX10_lookAt_145 : decode cX10_lookAt 145 = .ok (.iload 6, 2) := by decide +kernel
theorem dX10_lookAt_147 : decode cX10_lookAt 147 = .ok (.imul, 1) := by decide +kernel
theorem dX10_lookAt_148 : decode cX10_lookAt 148 = .ok (.iload 7, 2) := by decide +kernel
theorem dX10_lookAt_150 : decode cX10_lookAt 150 = .ok (.ifCond .eq 7, 3) := by decide +kernel
theorem dX10_lookAt_153 : decode cX10_lookAt 153 = .ok (.iconst 0, 1) := by decide +kernel
theorem dX10_lookAt_154 : decode cX10_lookAt 154 = .ok (.goto 4, 3) := by decide +kernel
theorem dX10_lookAt_157 : decode cX10_lookAt 157 = .ok (.iconst 1, 1) := by decide +kernel
theorem dX10_lookAt_158 : decode cX10_lookAt 158 = .ok (.iadd, 1) := by decide +kernel
theorem dX10_lookAt_159 : decode cX10_lookAt 159 = .ok (.iaload, 1) := by decide +kernel
theorem dX10_lookAt_160 : decode cX10_lookAt 160 = .ok (.istore 10, 2) := by decide +kernel
theorem dX10_lookAt_162 : decode cX10_lookAt 162 = .ok (.aload_n 0, 1) := by decide +kernel
theorem dX10_lookAt_163 : decode cX10_lookAt 163 = .ok (.iload 6, 2) := by decide +kernel
theorem dX10_lookAt_165 : decode cX10_lookAt 165 = .ok (.iload_n 1, 1) := by decide +kernel
theorem dX10_lookAt_166 : decode cX10_lookAt 166 = .ok (.iload 5, 2) := by decide +kernel
theorem dX10_lookAt_168 : decode cX10_lookAt 168 = .ok (.aload_n 0, 1) := by decide +kernel
theorem dX10_lookAt_169 : decode cX10_lookAt 169 = .ok (.iload_n 3, 1) := by decide +kernel
theorem dX10_lookAt_170 : decode cX10_lookAt 170 = .ok (.iload 9, 2) := by decide +kernel
theorem dX10_lookAt_172 : decode cX10_lookAt 172 = .ok (.iload 10, 2) := by decide +kernel
theorem dX10_lookAt_174 : decode cX10_lookAt 174 = .ok (.invokevirtual 72, 3) := by decide +kernel
theorem dX10_lookAt_177 : decode cX10_lookAt 177 = .ok (.iadd, 1) := by decide +kernel
theorem dX10_lookAt_178 : decode cX10_lookAt 178 = .ok (.invokevirtual 76, 3) := by decide +kernel
theorem dX10_lookAt_181 : decode cX10_lookAt 181 = .ok (.iinc 6 1, 3) := by decide +kernel
theorem dX10_lookAt_184 : decode cX10_lookAt 184 = .ok (.goto (-148), 3) := by decide +kernel
theorem dX10_lookAt_187 : decode cX10_lookAt 187 = .ok (.return_, 1) := by decide +kernel
theorem dX10_compare_0 : decode cX10_compare 0 = .ok (.aload_n 0, 1) := by decide +kernel
theorem dX10_compare_1 : decode cX10_compare 1 = .ok (.getfield 15, 3) := by decide +kernel
theorem dX10_compare_4 : decode cX10_compare 4 = .ok (.iconst (-1), 1) := by decide +kernel
theorem dX10_compare_5 : decode cX10_compare 5 = .ok (.if_icmp .eq 27, 3) := by decide +kernel
theorem dX10_compare_8 : decode cX10_compare 8 = .ok (.iload_n 3, 1) := by decide +kernel
theorem dX10_compare_9 : decode cX10_compare 9 = .ok (.aload_n 0, 1) := by decide +kernel
theorem dX10_compare_10 : decode cX10_compare 10 = .ok (.getfield 22, 3) := by decide +kernel
theorem dX10_compare_13 : decode cX10_compare 13 = .ok (.if_icmp .lt 19, 3) := by decide +kernel
theorem dX10_compare_16 : decode cX10_compare 16 = .ok (.iload_n 3, 1) := by decide +kernel
theorem dX10_compare_17 : decode cX10_compare 17 = .ok (.aload_n 0, 1) := by decide +kernel
theorem dX10_compare_18 : decode cX10_compare 18 = .ok (.getfield 22, 3) := by decide +kernel
theorem dX10_compare_21 : decode cX10_compare 21 = .ok (.if_icmp .ne 15, 3) := by decide +kernel
theorem dX10_compare_24 : decode cX10_compare 24 = .ok (.iload_n 1, 1) := by decide +kernel
theorem dX10_compare_25 : decode cX10_compare 25 = .ok (.aload_n 0, 1) := by decide +kernel
theorem dX10_compare_26 : decode cX10_compare 26 = .ok (.getfield 15, 3) := by decide +kernel
theorem dX10_compare_29 : decode cX10_compare 29 = .ok (.if_icmp .ge 7, 3) := by decide +kernel
theorem dX10_compare_32 : decode cX10_compare 32 = .ok (.iconst 1, 1) := by decide +kernel
theorem dX10_compare_33 : decode cX10_compare 33 = .ok (.goto 4, 3) := by decide +kernel
theorem dX10_compare_36 : decode cX10_compare 36 = .ok (.iconst 0, 1) := by decide +kernel
theorem dX10_compare_37 : decode cX10_compare 37 = .ok (.istore 4, 2) := by decide +kernel
theorem dX10_compare_39 : decode cX10_compare 39 = .ok (.iload 4, 2) := by decide +kernel
theorem dX10_compare_41 : decode cX10_compare 41 = .ok (.ifCond .eq 18, 3) := by decide +kernel
theorem dX10_compare_44 : decode cX10_compare 44 = .ok (.aload_n 0, 1) := by decide +kernel
theorem dX10_compare_45 : decode cX10_compare 45 = .ok (.iload_n 1, 1) := by decide +kernel
theorem dX10_compare_46 : decode cX10_compare 46 = .ok (.putfield 15, 3) := by decide +kernel
theorem dX10_compare_49 : decode cX10_compare 49 = .ok (.aload_n 0, 1) := by decide +kernel
theorem dX10_compare_50 : decode cX10_compare 50 = .ok (.iload_n 2, 1) := by decide +kernel
theorem dX10_compare_51 : decode cX10_compare 51 = .ok (.putfield 19, 3) := by decide +kernel
theorem dX10_compare_54 : decode cX10_compare 54 = .ok (.aload_n 0, 1) := by decide +kernel
theorem dX10_compare_55 : decode cX10_compare 55 = .ok (.iload_n 3, 1) := by decide +kernel
theorem dX10_compare_56 : decode cX10_compare 56 = .ok (.putfield 22, 3) := by decide +kernel
theorem dX10_compare_59 : decode cX10_compare 59 = .ok (.return_, 1) := by decide +kernel
theorem dX10_cutOff_0 : decode cX10_cutOff 0 = .ok (.iconst 0, 1) := by decide +kernel
theorem dX10_cutOff_1 : decode cX10_cutOff 1 = .ok (.istore_n 2, 1) := by decide +kernel
theorem dX10_cutOff_2 : decode cX10_cutOff 2 = .ok (.iconst 0, 1) := by decide +kernel
theorem dX10_cutOff_3 : decode cX10_cutOff 3 = .ok (.istore_n 3, 1) := by decide +kernel
theorem dX10_cutOff_4 : decode cX10_cutOff 4 = .ok (.iload_n 3, 1) := by decide +kernel
theorem dX10_cutOff_5 : decode cX10_cutOff 5 = .ok (.aload_n 0, 1) := by decide +kernel
theorem dX10_cutOff_6 : decode cX10_cutOff 6 = .ok (.getfield 33, 3) := by decide +kernel
theorem dX10_cutOff_9 : decode cX10_cutOff 9 = .ok (.getfield 80, 3) := by decide +kernel
theorem dX10_cutOff_12 : decode cX10_cutOff 12 = .ok (.if_icmp .ge 70, 3) := by decide +kernel
theorem dX10_cutOff_15 : decode cX10_cutOff 15 = .ok (.aload_n 0, 1) := by decide +kernel
theorem dX10_cutOff_16 : decode cX10_cutOff 16 = .ok (.getfield 33, 3) := by decide +kernel
theorem dX10_cutOff_19 : decode cX10_cutOff 19 = .ok (.getfield 83, 3) := by decide +kernel
theorem dX10_cutOff_22 : decode cX10_cutOff 22 = .ok (.iload_n 3, 1) := by decide +kernel
theorem dX10_cutOff_23 : decode cX10_cutOff 23 = .ok (.iaload, 1) := by decide +kernel
theorem dX10_cutOff_24 : decode cX10_cutOff 24 = .ok (.istore 4, 2) := by decide +kernel
theorem dX10_cutOff_26 : decode cX10_cutOff 26 = .ok (.aload_n 0, 1) := by decide +kernel
theorem dX10_cutOff_27 : decode cX10_cutOff 27 = .ok (.getfield 33, 3) := by decide +kernel
theorem dX10_cutOff_30 : decode cX10_cutOff 30 = .ok (.getfield 86, 3) := by decide +kernel
theorem dX10_cutOff_33 : decode cX10_cutOff 33 = .ok (.iload 4, 2) := by decide +kernel
theorem dX10_cutOff_35 : decode cX10_cutOff 35 = .ok (.iaload, 1) := by decide +kernel
theorem dX10_cutOff_36 : decode cX10_cutOff 36 = .ok (.istore 5, 2) := by decide +kernel
theorem dX10_cutOff_38 : decode cX10_cutOff 38 = .ok (.iload 5, 2) := by decide +kernel
theorem dX10_cutOff_40 : decode cX10_cutOff 40 = .ok (.iconst (-1), 1) := by decide +kernel
theorem dX10_cutOff_41 : decode cX10_cutOff 41 = .ok (.if_icmp .eq 35, 3) := by decide +kernel
theorem dX10_cutOff_44 : decode cX10_cutOff 44 = .ok (.aload_n 0, 1) := by decide +kernel
theorem dX10_cutOff_45 : decode cX10_cutOff 45 = .ok (.getfield 29, 3) := by decide +kernel
theorem dX10_cutOff_48 : decode cX10_cutOff 48 = .ok (.getfield 89, 3) := by decide +kernel
theorem dX10_cutOff_51 : decode cX10_cutOff 51 = .ok (.iload 5, 2) := by decide +kernel
theorem dX10_cutOff_53 : decode cX10_cutOff 53 = .ok (.iaload, 1) := by decide +kernel
theorem dX10_cutOff_54 : decode cX10_cutOff 54 = .ok (.iload_n 1, 1) := by decide +kernel
theorem dX10_cutOff_55 : decode cX10_cutOff 55 = .ok (.if_icmp .eq 14, 3) := by decide +kernel
theorem dX10_cutOff_58 : decode cX10_cutOff 58 = .ok (.iload_n 2, 1) := by decide +kernel
theorem dX10_cutOff_59 : decode cX10_cutOff 59 = .ok (.iload 5, 2) := by decide +kernel
theorem dX10_cutOff_61 : decode cX10_cutOff 61 = .ok (.iconst 2, 1) := by decide +kernel
theorem dX10_cutOff_62 : decode cX10_cutOff 62 = .ok (.ishr, 1) := by decide +kernel
theorem dX10_cutOff_63 : decode cX10_cutOff 63 = .ok (.iushr, 1) := by decide +kernel
theorem dX10_cutOff_64 : decode cX10_cutOff 64 = .ok (.iconst 1, 1) := by decide +kernel
theorem dX10_cutOff_65 : decode cX10_cutOff 65 = .ok (.iand, 1) := by decide +kernel
theorem dX10_cutOff_66 : decode cX10_cutOff 66 = .ok (.ifCond .eq 10, 3) := by decide +kernel
theorem dX10_cutOff_69 : decode cX10_cutOff 69 = .ok (.iload_n 2, 1) := by decide +kernel
theorem dX10_cutOff_70 : decode cX10_cutOff 70 = .ok (.iconst 1, 1) := by decide +kernel
theorem dX10_cutOff_71 : decode cX10_cutOff 71 = .ok (.iload 4, 2) := by decide +kernel
theorem dX10_cutOff_73 : decode cX10_cutOff 73 = .ok (.ishl, 1) := by decide +kernel
theorem dX10_cutOff_74 : decode cX10_cutOff 74 = .ok (.ior, 1) := by decide +kernel
theorem dX10_cutOff_75 : decode cX10_cutOff 75 = .ok (.istore_n 2, 1) := by decide +kernel
theorem dX10_cutOff_76 : decode cX10_cutOff 76 = .ok (.iinc 3 1, 3) := by decide +kernel
theorem dX10_cutOff_79 : decode cX10_cutOff 79 = .ok (.goto (-75), 3) := by decide +kernel
theorem dX10_cutOff_82 : decode cX10_cutOff 82 = .ok (.iload_n 2, 1) := by decide +kernel
theorem dX10_cutOff_83 : decode cX10_cutOff 83 = .ok (.ireturn, 1) := by decide +kernel
theorem dX10_layDown_0 : decode cX10_layDown 0 = .ok (.iconst 0, 1) := by decide +kernel
theorem dX10_layDown_1 : decode cX10_layDown 1 = .ok (.istore_n 2, 1) := by decide +kernel
theorem dX10_layDown_2 : decode cX10_layDown 2 = .ok (.iload_n 2, 1) := by decide +kernel
theorem dX10_layDown_3 : decode cX10_layDown 3 = .ok (.bipush 64, 2) := by decide +kernel
theorem dX10_layDown_5 : decode cX10_layDown 5 = .ok (.if_icmp .ge 16, 3) := by decide +kernel
theorem dX10_layDown_8 : decode cX10_layDown 8 = .ok (.aload_n 0, 1) := by decide +kernel
theorem dX10_layDown_9 : decode cX10_layDown 9 = .ok (.getfield 25, 3) := by decide +kernel
theorem dX10_layDown_12 : decode cX10_layDown 12 = .ok (.iload_n 2, 1) := by decide +kernel
theorem dX10_layDown_13 : decode cX10_layDown 13 = .ok (.lconst 0, 1) := by decide +kernel
theorem dX10_layDown_14 : decode cX10_layDown 14 = .ok (.lastore, 1) := by decide +kernel
theorem dX10_layDown_15 : decode cX10_layDown 15 = .ok (.iinc 2 1, 3) := by decide +kernel
theorem dX10_layDown_18 : decode cX10_layDown 18 = .ok (.goto (-16), 3) := by decide +kernel
theorem dX10_layDown_21 : decode cX10_layDown 21 = .ok (.iconst 0, 1) := by decide +kernel
theorem dX10_layDown_22 : decode cX10_layDown 22 = .ok (.istore_n 2, 1) := by decide +kernel
theorem dX10_layDown_23 : decode cX10_layDown 23 = .ok (.iconst 0, 1) := by decide +kernel
theorem dX10_layDown_24 : decode cX10_layDown 24 = .ok (.istore_n 3, 1) := by decide +kernel
theorem dX10_layDown_25 : decode cX10_layDown 25 = .ok (.iconst 0, 1) := by decide +kernel
theorem dX10_layDown_26 : decode cX10_layDown 26 = .ok (.istore 4, 2) := by decide +kernel
theorem dX10_layDown_28 : decode cX10_layDown 28 = .ok (.iload 4, 2) := by decide +kernel
theorem dX10_layDown_30 : decode cX10_layDown 30 = .ok (.bipush 30, 2) := by decide +kernel
theorem dX10_layDown_32 : decode cX10_layDown 32 = .ok (.if_icmp .ge 87, 3) := by decide +kernel
theorem dX10_layDown_35 : decode cX10_layDown 35 = .ok (.iload_n 1, 1) := by decide +kernel
theorem dX10_layDown_36 : decode cX10_layDown 36 = .ok (.iload 4, 2) := by decide +kernel
theorem dX10_layDown_38 : decode cX10_layDown 38 = .ok (.iushr, 1) := by decide +kernel
theorem dX10_layDown_39 : decode cX10_layDown 39 = .ok (.iconst 1, 1) := by decide +kernel
theorem dX10_layDown_40 : decode cX10_layDown 40 = .ok (.iand, 1) := by decide +kernel
theorem dX10_layDown_41 : decode cX10_layDown 41 = .ok (.ifCond .eq 72, 3) := by decide +kernel
theorem dX10_layDown_44 : decode cX10_layDown 44 = .ok (.aload_n 0, 1) := by decide +kernel
theorem dX10_layDown_45 : decode cX10_layDown 45 = .ok (.getfield 33, 3) := by decide +kernel
theorem dX10_layDown_48 : decode cX10_layDown 48 = .ok (.getfield 92, 3) := by decide +kernel
theorem dX10_layDown_51 : decode cX10_layDown 51 = .ok (.iload 4, 2) := by decide +kernel
theorem dX10_layDown_53 : decode cX10_layDown 53 = .ok (.iaload, 1) := by decide +kernel
theorem dX10_layDown_54 : decode cX10_layDown 54 = .ok (.istore 5, 2) := by decide +kernel
theorem dX10_layDown_56 : decode cX10_layDown 56 = .ok (.aload_n 0, 1) := by decide +kernel
theorem dX10_layDown_57 : decode cX10_layDown 57 = .ok (.getfield 33, 3) := by decide +kernel
theorem dX10_layDown_60 : decode cX10_layDown 60 = .ok (.getfield 95, 3) := by decide +kernel
theorem dX10_layDown_63 : decode cX10_layDown 63 = .ok (.iload 4, 2) := by decide +kernel
theorem dX10_layDown_65 : decode cX10_layDown 65 = .ok (.iaload, 1) := by decide +kernel
theorem dX10_layDown_66 : decode cX10_layDown 66 = .ok (.istore 6, 2) := by decide +kernel
theorem dX10_layDown_68 : decode cX10_layDown 68 = .ok (.iload_n 2, 1) := by decide +kernel
theorem dX10_layDown_69 : decode cX10_layDown 69 = .ok (.aload_n 0, 1) := by decide +kernel
theorem dX10_layDown_70 : decode cX10_layDown 70 = .ok (.iload_n 3, 1) := by decide +kernel
theorem dX10_layDown_71 : decode cX10_layDown 71 = .ok (.iload 5, 2) := by decide +kernel
theorem dX10_layDown_73 : decode cX10_layDown 73 = .ok (.iload 6, 2) := by decide +kernel
theorem dX10_layDown_75 : decode cX10_layDown 75 = .ok (.invokevirtual 98, 3) := by decide +kernel
theorem dX10_layDown_78 : decode cX10_layDown 78 = .ok (.iadd, 1) := by decide +kernel
theorem dX10_layDown_79 : decode cX10_layDown 79 = .ok (.istore_n 2, 1) := by decide +kernel
theorem dX10_layDown_80 : decode cX10_layDown 80 = .ok (.aload_n 0, 1) := by decide +kernel
theorem dX10_layDown_81 : decode cX10_layDown 81 = .ok (.getfield 25, 3) := by decide +kernel
theorem dX10_layDown_84 : decode cX10_layDown 84 = .ok (.iload 6, 2) := by decide +kernel
theorem dX10_layDown_86 : decode cX10_layDown 86 = .ok (.bipush 32, 2) := by decide +kernel
theorem dX10_layDown_88 : decode cX10_layDown 88 = .ok (.iadd, 1) := by decide +kernel
theorem dX10_layDown_89 : decode cX10_layDown 89 = .ok (.bipush 63, 2) := by decide +kernel
theorem dX10_layDown_91 : decode cX10_layDown 91 = .ok (.iand, 1) := by decide +kernel
theorem dX10_layDown_92 : decode cX10_layDown 92 = .ok (.dup2, 1) := by decide +kernel
theorem dX10_layDown_93 : decode cX10_layDown 93 = .ok (.laload, 1) := by decide +kernel
theorem dX10_layDown_94 : decode cX10_layDown 94 = .ok (.lconst 1, 1) := by decide +kernel
theorem dX10_layDown_95 : decode cX10_layDown 95 = .ok (.iload 5, 2) := by decide +kernel
theorem dX10_layDown_97 : decode cX10_layDown 97 = .ok (.bipush 32, 2) := by decide +kernel
theorem dX10_layDown_99 : decode cX10_layDown 99 = .ok (.iadd, 1) := by decide +kernel
theorem dX10_layDown_100 : decode cX10_layDown 100 = .ok (.bipush 63, 2) := by decide +kernel
theorem dX10_layDown_102 : decode cX10_layDown 102 = .ok (.iand, 1) := by decide +kernel
theorem dX10_layDown_103 : decode cX10_layDown 103 = .ok (.lshl, 1) := by decide +kernel
theorem dX10_layDown_104 : decode cX10_layDown 104 = .ok (.lor, 1) := by decide +kernel
theorem dX10_layDown_105 : decode cX10_layDown 105 = .ok (.lastore, 1) := by decide +kernel
theorem dX10_layDown_106 : decode cX10_layDown 106 = .ok (.iload_n 3, 1) := by decide +kernel
theorem dX10_layDown_107 : decode cX10_layDown 107 = .ok (.iconst 1, 1) := by decide +kernel
theorem dX10_layDown_108 : decode cX10_layDown 108 = .ok (.iload 4, 2) := by decide +kernel
theorem dX10_layDown_110 : decode cX10_layDown 110 = .ok (.ishl, 1) := by decide +kernel
theorem dX10_layDown_111 : decode cX10_layDown 111 = .ok (.ior, 1) := by decide +kernel
theorem dX10_layDown_112 : decode cX10_layDown 112 = .ok (.istore_n 3, 1) := by decide +kernel
theorem dX10_layDown_113 : decode cX10_layDown 113 = .ok (.iinc 4 1, 3) := by decide +kernel
theorem dX10_layDown_116 : decode cX10_layDown 116 = .ok (.goto (-88), 3) := by decide +kernel
theorem dX10_layDown_119 : decode cX10_layDown 119 = .ok (.iload_n 2, 1) := by decide +kernel
theorem dX10_layDown_120 : decode cX10_layDown 120 = .ok (.ireturn, 1) := by decide +kernel
theorem dX10_howManyAt_0 : decode cX10_howManyAt 0 = .ok (.aload_n 0, 1) := by decide +kernel
theorem dX10_howManyAt_1 : decode cX10_howManyAt 1 = .ok (.getfield 25, 3) := by decide +kernel
theorem dX10_howManyAt_4 : decode cX10_howManyAt 4 = .ok (.iload_n 3, 1) := by decide +kernel
theorem dX10_howManyAt_5 : decode cX10_howManyAt 5 = .ok (.bipush 32, 2) := by decide +kernel
theorem dX10_howManyAt_7 : decode cX10_howManyAt 7 = .ok (.iadd, 1) := by decide +kernel
theorem dX10_howManyAt_8 : decode cX10_howManyAt 8 = .ok (.bipush 63, 2) := by decide +kernel
theorem dX10_howManyAt_10 : decode cX10_howManyAt 10 = .ok (.iand, 1) := by decide +kernel
theorem dX10_howManyAt_11 : decode cX10_howManyAt 11 = .ok (.laload, 1) := by decide +kernel
theorem dX10_howManyAt_12 : decode cX10_howManyAt 12 = .ok (.iload_n 2, 1) := by decide +kernel
theorem dX10_howManyAt_13 : decode cX10_howManyAt 13 = .ok (.bipush 32, 2) := by decide +kernel
theorem dX10_howManyAt_15 : decode cX10_howManyAt 15 = .ok (.iadd, 1) := by decide +kernel
theorem dX10_howManyAt_16 : decode cX10_howManyAt 16 = .ok (.bipush 63, 2) := by decide +kernel
theorem dX10_howManyAt_18 : decode cX10_howManyAt 18 = .ok (.iand, 1) := by decide +kernel
theorem dX10_howManyAt_19 : decode cX10_howManyAt 19 = .ok (.lushr, 1) := by decide +kernel
theorem dX10_howManyAt_20 : decode cX10_howManyAt 20 = .ok (.lconst 1, 1) := by decide +kernel
theorem dX10_howManyAt_21 : decode cX10_howManyAt 21 = .ok (.land, 1) := by decide +kernel
theorem dX10_howManyAt_22 : decode cX10_howManyAt 22 = .ok (.lconst 0, 1) := by decide +kernel
theorem dX10_howManyAt_23 : decode cX10_howManyAt 23 = .ok (.lcmp, 1) := by decide +kernel
theorem dX10_howManyAt_24 : decode cX10_howManyAt 24 = .ok (.ifCond .ne 5, 3) := by decide +kernel
theorem dX10_howManyAt_27 : decode cX10_howManyAt 27 = .ok (.iconst 0, 1) := by decide +kernel
theorem dX10_howManyAt_28 : decode cX10_howManyAt 28 = .ok (.ireturn, 1) := by decide +kernel
theorem dX10_howManyAt_29 : decode cX10_howManyAt 29 = .ok (.iconst 0, 1) := by decide +kernel
theorem dX10_howManyAt_30 : decode cX10_howManyAt 30 = .ok (.istore 4, 2) := by decide +kernel
theorem dX10_howManyAt_32 : decode cX10_howManyAt 32 = .ok (.iconst 0, 1) := by decide +kernel
theorem dX10_howManyAt_33 : decode cX10_howManyAt 33 = .ok (.istore 5, 2) := by decide +kernel
theorem dX10_howManyAt_35 : decode cX10_howManyAt 35 = .ok (.iload 5, 2) := by decide +kernel
theorem dX10_howManyAt_37 : decode cX10_howManyAt 37 = .ok (.bipush 30, 2) := by decide +kernel
theorem dX10_howManyAt_39 : decode cX10_howManyAt 39 = .ok (.if_icmp .ge 49, 3) := by decide +kernel
theorem dX10_howManyAt_42 : decode cX10_howManyAt 42 = .ok (.iload_n 1, 1) := by decide +kernel
theorem dX10_howManyAt_43 : decode cX10_howManyAt 43 = .ok (.iload 5, 2) := by decide +kernel
theorem dX10_howManyAt_45 : decode cX10_howManyAt 45 = .ok (.iushr, 1) := by decide +kernel
theorem dX10_howManyAt_46 : decode cX10_howManyAt 46 = .ok (.iconst 1, 1) := by decide +kernel
theorem dX10_howManyAt_47 : decode cX10_howManyAt 47 = .ok (.iand, 1) := by decide +kernel
theorem dX10_howManyAt_48 : decode cX10_howManyAt 48 = .ok (.ifCond .eq 34, 3) := by decide +kernel
theorem dX10_howManyAt_51 : decode cX10_howManyAt 51 = .ok (.aload_n 0, 1) := by decide +kernel
theorem dX10_howManyAt_52 : decode cX10_howManyAt 52 = .ok (.getfield 33, 3) := by decide +kernel
theorem dX10_howManyAt_55 : decode cX10_howManyAt 55 = .ok (.getfield 92, 3) := by decide +kernel
theorem dX10_howManyAt_58 : decode cX10_howManyAt 58 = .ok (.iload 5, 2) := by decide +kernel
theorem dX10_howManyAt_60 : decode cX10_howManyAt 60 = .ok (.iaload, 1) := by decide +kernel
theorem dX10_howManyAt_61 : decode cX10_howManyAt 61 = .ok (.iload_n 2, 1) := by decide +kernel
theorem dX10_howManyAt_62 : decode cX10_howManyAt 62 = .ok (.if_icmp .ne 20, 3) := by decide +kernel
theorem dX10_howManyAt_65 : decode cX10_howManyAt 65 = .ok (.aload_n 0, 1) := by decide +kernel
theorem dX10_howManyAt_66 : decode cX10_howManyAt 66 = .ok (.getfield 33, 3) := by decide +kernel
theorem dX10_howManyAt_69 : decode cX10_howManyAt 69 = .ok (.getfield 95, 3) := by decide +kernel
theorem dX10_howManyAt_72 : decode cX10_howManyAt 72 = .ok (.iload 5, 2) := by decide +kernel
theorem dX10_howManyAt_74 : decode cX10_howManyAt 74 = .ok (.iaload, 1) := by decide +kernel
theorem dX10_howManyAt_75 : decode cX10_howManyAt 75 = .ok (.iload_n 3, 1) := by decide +kernel
theorem dX10_howManyAt_76 : decode cX10_howManyAt 76 = .ok (.if_icmp .ne 6, 3) := by decide +kernel
theorem dX10_howManyAt_79 : decode cX10_howManyAt 79 = .ok (.iinc 4 1, 3) := by decide +kernel
theorem dX10_howManyAt_82 : decode cX10_howManyAt 82 = .ok (.iinc 5 1, 3) := by decide +kernel
theorem dX10_howManyAt_85 : decode cX10_howManyAt 85 = .ok (.goto (-50), 3) := by decide +kernel
theorem dX10_howManyAt_88 : decode cX10_howManyAt 88 = .ok (.iload 4, 2) := by decide +kernel
theorem dX10_howManyAt_90 : decode cX10_howManyAt 90 = .ok (.ireturn, 1) := by decide +kernel
theorem dX10_between_0 : decode cX10_between 0 = .ok (.iload_n 3, 1) := by decide +kernel
theorem dX10_between_1 : decode cX10_between 1 = .ok (.iconst 2, 1) := by decide +kernel
theorem dX10_between_2 : decode cX10_between 2 = .ok (.ishr, 1) := by decide +kernel
theorem dX10_between_3 : decode cX10_between 3 = .ok (.istore 4, 2) := by decide +kernel
theorem dX10_between_5 : decode cX10_between 5 = .ok (.aload_n 0, 1) := by decide +kernel
theorem dX10_between_6 : decode cX10_between 6 = .ok (.getfield 33, 3) := by decide +kernel
theorem dX10_between_9 : decode cX10_between 9 = .ok (.iload_n 2, 1) := by decide +kernel
theorem dX10_between_10 : decode cX10_between 10 = .ok (.iload_n 3, 1) := by decide +kernel
theorem dX10_between_11 : decode cX10_between 11 = .ok (.invokevirtual 101, 3) := by decide +kernel
theorem dX10_between_14 : decode cX10_between 14 = .ok (.aload_n 0, 1) := by decide +kernel
theorem dX10_between_15 : decode cX10_between 15 = .ok (.getfield 33, 3) := by decide +kernel
theorem dX10_between_18 : decode cX10_between 18 = .ok (.getfield 104, 3) := by decide +kernel
theorem dX10_between_21 : decode cX10_between 21 = .ok (.iload 4, 2) := by decide +kernel
theorem dX10_between_23 : decode cX10_between 23 = .ok (.iaload, 1) := by decide +kernel
theorem dX10_between_24 : decode cX10_between 24 = .ok (.isub, 1) := by decide +kernel
theorem dX10_between_25 : decode cX10_between 25 = .ok (.iconst 3, 1) := by decide +kernel
theorem dX10_between_26 : decode cX10_between 26 = .ok (.iand, 1) := by decide +kernel
theorem dX10_between_27 : decode cX10_between 27 = .ok (.istore 5, 2) := by decide +kernel
theorem dX10_between_29 : decode cX10_between 29 = .ok (.iconst 0, 1) := by decide +kernel
theorem dX10_between_30 : decode cX10_between 30 = .ok (.istore 6, 2) := by decide +kernel
theorem dX10_between_32 : decode cX10_between 32 = .ok (.iconst 0, 1) := by decide +kernel
theorem dX10_between_33 : decode cX10_between 33 = .ok (.istore 7, 2) := by decide +kernel
theorem dX10_between_35 : decode cX10_between 35 = .ok (.iload 7, 2) := by decide +kernel
theorem dX10_between_37 : decode cX10_between 37 = .ok (.bipush 30, 2) := by decide +kernel
theorem dX10_between_39 : decode cX10_between 39 = .ok (.if_icmp .ge 148, 3) := by decide +kernel
theorem dX10_between_42 : decode cX10_between 42 = .ok (.iload_n 1, 1) := by decide +kernel
theorem dX10_between_43 : decode cX10_between 43 = .ok (.iload 7, 2) := by decide +kernel
theorem dX10_between_45 : decode cX10_between 45 = .ok (.iushr, 1) := by decide +kernel
theorem dX10_between_46 : decode cX10_between 46 = .ok (.iconst 1, 1) := by decide +kernel
theorem dX10_between_47 : decode cX10_between 47 = .ok (.iand, 1) := by decide +kernel
theorem dX10_between_48 : decode cX10_between 48 = .ok (.ifCond .eq 133, 3) := by decide +kernel
theorem dX10_between_51 : decode cX10_between 51 = .ok (.aload_n 0, 1) := by decide +kernel
theorem dX10_between_52 : decode cX10_between 52 = .ok (.getfield 33, 3) := by decide +kernel
theorem dX10_between_55 : decode cX10_between 55 = .ok (.getfield 92, 3) := by decide +kernel
theorem dX10_between_58 : decode cX10_between 58 = .ok (.iload 7, 2) := by decide +kernel
theorem dX10_between_60 : decode cX10_between 60 = .ok (.iaload, 1) := by decide +kernel
theorem dX10_between_61 : decode cX10_between 61 = .ok (.aload_n 0, 1) := by decide +kernel
theorem dX10_between_62 : decode cX10_between 62 = .ok (.getfield 33, 3) := by decide +kernel
theorem dX10_between_65 : decode cX10_between 65 = .ok (.getfield 92, 3) := by decide +kernel
theorem dX10_between_68 : decode cX10_between 68 = .ok (.iload 4, 2) := by decide +kernel
theorem dX10_between_70 : decode cX10_between 70 = .ok (.iaload, 1) := by decide +kernel
theorem dX10_between_71 : decode cX10_between 71 = .ok (.isub, 1) := by decide +kernel
theorem dX10_between_72 : decode cX10_between 72 = .ok (.istore 8, 2) := by decide +kernel
theorem dX10_between_74 : decode cX10_between 74 = .ok (.aload_n 0, 1) := by decide +kernel
theorem dX10_between_75 : decode cX10_between 75 = .ok (.getfield 33, 3) := by decide +kernel
theorem dX10_between_78 : decode cX10_between 78 = .ok (.getfield 95, 3) := by decide +kernel
theorem dX10_between_81 : decode cX10_between 81 = .ok (.iload 7, 2) := by decide +kernel
theorem dX10_between_83 : decode cX10_between 83 = .ok (.iaload, 1) := by decide +kernel
theorem dX10_between_84 : decode cX10_between 84 = .ok (.aload_n 0, 1) := by decide +kernel
theorem dX10_between_85 : decode cX10_between 85 = .ok (.getfield 33, 3) := by decide +kernel
theorem dX10_between_88 : decode cX10_between 88 = .ok (.getfield 95, 3) := by decide +kernel
theorem dX10_between_91 : decode cX10_between 91 = .ok (.iload 4, 2) := by decide +kernel
theorem dX10_between_93 : decode cX10_between 93 = .ok (.iaload, 1) := by decide +kernel
theorem dX10_between_94 : decode cX10_between 94 = .ok (.isub, 1) := by decide +kernel
theorem dX10_between_95 : decode cX10_between 95 = .ok (.istore 9, 2) := by decide +kernel
theorem dX10_between_97 : decode cX10_between 97 = .ok (.aload_n 0, 1) := by decide +kernel
theorem dX10_between_98 : decode cX10_between 98 = .ok (.getfield 33, 3) := by decide +kernel
theorem dX10_between_101 : decode cX10_between 101 = .ok (.iload_n 2, 1) := by decide +kernel
theorem dX10_between_102 : decode cX10_between 102 = .ok (.invokevirtual 107, 3) := by decide +kernel
theorem dX10_between_105 : decode cX10_between 105 = .ok (.iload 8, 2) := by decide +kernel
theorem dX10_between_107 : decode cX10_between 107 = .ok (.getstatic 110, 3) := by decide +kernel
theorem dX10_between_110 : decode cX10_between 110 = .ok (.iload 5, 2) := by decide +kernel
theorem dX10_between_112 : decode cX10_between 112 = .ok (.iaload, 1) := by decide +kernel
theorem dX10_between_113 : decode cX10_between 113 = .ok (.imul, 1) := by decide +kernel
theorem dX10_between_114 : decode cX10_between 114 = .ok (.iadd, 1) := by decide +kernel
theorem dX10_between_115 : decode cX10_between 115 = .ok (.iload 9, 2) := by decide +kernel
theorem dX10_between_117 : decode cX10_between 117 = .ok (.getstatic 113, 3) := by decide +kernel
theorem dX10_between_120 : decode cX10_between 120 = .ok (.iload 5, 2) := by decide +kernel
theorem dX10_between_122 : decode cX10_between 122 = .ok (.iaload, 1) := by decide +kernel
theorem dX10_between_123 : decode cX10_between 123 = .ok (.imul, 1) := by decide +kernel
theorem dX10_between_124 : decode cX10_between 124 = .ok (.isub, 1) := by decide +kernel
theorem dX10_between_125 : decode cX10_between 125 = .ok (.istore 10, 2) := by decide +kernel
theorem dX10_between_127 : decode cX10_between 127 = .ok (.aload_n 0, 1) := by decide +kernel
theorem dX10_between_128 : decode cX10_between 128 = .ok (.getfield 33, 3) := by decide +kernel
theorem dX10_between_131 : decode cX10_between 131 = .ok (.iload_n 2, 1) := by decide +kernel
theorem dX10_between_132 : decode cX10_between 132 = .ok (.invokevirtual 116, 3) := by decide +kernel
theorem dX10_between_135 : decode cX10_between 135 = .ok (.iload 8, 2) := by decide +kernel
theorem dX10_between_137 : decode cX10_between 137 = .ok (.getstatic 113, 3) := by decide +kernel
theorem dX10_between_140 : decode cX10_between 140 = .ok (.iload 5, 2) := by decide +kernel
theorem dX10_between_142 : decode cX10_between 142 = .ok (.iaload, 1) := by decide +kernel
theorem dX10_between_143 : decode cX10_between 143 = .ok (.imul, 1) := by decide +kernel
theorem dX10_between_144 : decode cX10_between 144 = .ok (.iadd, 1) := by decide +kernel
theorem dX10_between_145 : decode cX10_between 145 = .ok (.iload 9, 2) := by decide +kernel
theorem dX10_between_147 : decode cX10_between 147 = .ok (.getstatic 110, 3) := by decide +kernel
theorem dX10_between_150 : decode cX10_between 150 = .ok (.iload 5, 2) := by decide +kernel
theorem dX10_between_152 : decode cX10_between 152 = .ok (.iaload, 1) := by decide +kernel
theorem dX10_between_153 : decode cX10_between 153 = .ok (.imul, 1) := by decide +kernel
theorem dX10_between_154 : decode cX10_between 154 = .ok (.iadd, 1) := by decide +kernel
theorem dX10_between_155 : decode cX10_between 155 = .ok (.istore 11, 2) := by decide +kernel
theorem dX10_between_157 : decode cX10_between 157 = .ok (.iload 6, 2) := by decide +kernel
theorem dX10_between_159 : decode cX10_between 159 = .ok (.aload_n 0, 1) := by decide +kernel
theorem dX10_between_160 : decode cX10_between 160 = .ok (.aload_n 0, 1) := by decide +kernel
theorem dX10_between_161 : decode cX10_between 161 = .ok (.getfield 33, 3) := by decide +kernel
theorem dX10_between_164 : decode cX10_between 164 = .ok (.getfield 56, 3) := by decide +kernel
theorem dX10_between_167 : decode cX10_between 167 = .ok (.iload_n 1, 1) := by decide +kernel
theorem dX10_between_168 : decode cX10_between 168 = .ok (.iconst (-1), 1) := by decide +kernel
theorem dX10_between_169 : decode cX10_between 169 = .ok (.ixor, 1) := by decide +kernel
theorem dX10_between_170 : decode cX10_between 170 = .ok (.iand, 1) := by decide +kernel
theorem dX10_between_171 : decode cX10_between 171 = .ok (.iload 10, 2) := by decide +kernel
theorem dX10_between_173 : decode cX10_between 173 = .ok (.iload 11, 2) := by decide +kernel
theorem dX10_between_175 : decode cX10_between 175 = .ok (.invokevirtual 98, 3) := by decide +kernel
theorem dX10_between_178 : decode cX10_between 178 = .ok (.iadd, 1) := by decide +kernel
theorem dX10_between_179 : decode cX10_between 179 = .ok (.istore 6, 2) := by decide +kernel
theorem dX10_between_181 : decode cX10_between 181 = .ok (.iinc 7 1, 3) := by decide +kernel
theorem dX10_between_184 : decode cX10_between 184 = .ok (.goto (-149), 3) := by decide +kernel
theorem dX10_between_187 : decode cX10_between 187 = .ok (.iload 6, 2) := by decide +kernel
theorem dX10_between_189 : decode cX10_between 189 = .ok (.ireturn, 1) := by decide +kernel
theorem dX11_init_0 : decode cX11_init 0 = .ok (.aload_n 0, 1) := by decide +kernel
theorem dX11_init_1 : decode cX11_init 1 = .ok (.invokespecial 3, 3) := by decide +kernel
theorem dX11_init_4 : decode cX11_init 4 = .ok (.aload_n 0, 1) := by decide +kernel
theorem dX11_init_5 : decode cX11_init 5 = .ok (.sipush 200, 3) := by decide +kernel
theorem dX11_init_8 : decode cX11_init 8 = .ok (.newarray .int, 2) := by decide +kernel
theorem dX11_init_10 : decode cX11_init 10 = .ok (.putfield 9, 3) := by decide +kernel
theorem dX11_init_13 : decode cX11_init 13 = .ok (.aload_n 0, 1) := by decide +kernel
theorem dX11_init_14 : decode cX11_init 14 = .ok (.iconst 0, 1) := by decide +kernel
theorem dX11_init_15 : decode cX11_init 15 = .ok (.putfield 13, 3) := by decide +kernel
theorem dX11_init_18 : decode cX11_init 18 = .ok (.aload_n 0, 1) := by decide +kernel
theorem dX11_init_19 : decode cX11_init 19 = .ok (.new 17, 3) := by decide +kernel
theorem dX11_init_22 : decode cX11_init 22 = .ok (.dup, 1) := by decide +kernel
theorem dX11_init_23 : decode cX11_init 23 = .ok (.invokespecial 19, 3) := by decide +kernel
theorem dX11_init_26 : decode cX11_init 26 = .ok (.putfield 20, 3) := by decide +kernel
theorem dX11_init_29 : decode cX11_init 29 = .ok (.aload_n 0, 1) := by decide +kernel
theorem dX11_init_30 : decode cX11_init 30 = .ok (.new 24, 3) := by decide +kernel
theorem dX11_init_33 : decode cX11_init 33 = .ok (.dup, 1) := by decide +kernel
theorem dX11_init_34 : decode cX11_init 34 = .ok (.invokespecial 26, 3) := by decide +kernel
theorem dX11_init_37 : decode cX11_init 37 = .ok (.putfield 27, 3) := by decide +kernel
theorem dX11_init_40 : decode cX11_init 40 = .ok (.aload_n 0, 1) := by decide +kernel
theorem dX11_init_41 : decode cX11_init 41 = .ok (.new 31, 3) := by decide +kernel
theorem dX11_init_44 : decode cX11_init 44 = .ok (.dup, 1) := by decide +kernel
theorem dX11_init_45 : decode cX11_init 45 = .ok (.invokespecial 33, 3) := by decide +kernel
theorem dX11_init_48 : decode cX11_init 48 = .ok (.putfield 34, 3) := by decide +kernel
theorem dX11_init_51 : decode cX11_init 51 = .ok (.aload_n 0, 1) := by decide +kernel
theorem dX11_init_52 : decode cX11_init 52 = .ok (.new 38, 3) := by decide +kernel
theorem dX11_init_55 : decode cX11_init 55 = .ok (.dup, 1) := by decide +kernel
theorem dX11_init_56 : decode cX11_init 56 = .ok (.invokespecial 40, 3) := by decide +kernel
theorem dX11_init_59 : decode cX11_init 59 = .ok (.putfield 41, 3) := by decide +kernel
theorem dX11_init_62 : decode cX11_init 62 = .ok (.aload_n 0, 1) := by decide +kernel
theorem dX11_init_63 : decode cX11_init 63 = .ok (.new 45, 3) := by decide +kernel
theorem dX11_init_66 : decode cX11_init 66 = .ok (.dup, 1) := by decide +kernel
theorem dX11_init_67 : decode cX11_init 67 = .ok (.aload_n 0, 1) := by decide +kernel
theorem dX11_init_68 : decode cX11_init 68 = .ok (.getfield 27, 3) := by decide +kernel
theorem dX11_init_71 : decode cX11_init 71 = .ok (.aload_n 0, 1) := by decide +kernel
theorem dX11_init_72 : decode cX11_init 72 = .ok (.getfield 41, 3) := by decide +kernel
theorem dX11_init_75 : decode cX11_init 75 = .ok (.invokespecial 47, 3) := by decide +kernel
theorem dX11_init_78 : decode cX11_init 78 = .ok (.putfield 50, 3) := by decide +kernel
theorem dX11_init_81 : decode cX11_init 81 = .ok (.aload_n 0, 1) := by decide +kernel
theorem dX11_init_82 : decode cX11_init 82 = .ok (.new 54, 3) := by decide +kernel
theorem dX11_init_85 : decode cX11_init 85 = .ok (.dup, 1) := by decide +kernel
theorem dX11_init_86 : decode cX11_init 86 = .ok (.invokespecial 56, 3) := by decide +kernel
theorem dX11_init_89 : decode cX11_init 89 = .ok (.putfield 57, 3) := by decide +kernel
theorem dX11_init_92 : decode cX11_init 92 = .ok (.aload_n 0, 1) := by decide +kernel
theorem dX11_init_93 : decode cX11_init 93 = .ok (.new 61, 3) := by decide +kernel
theorem dX11_init_96 : decode cX11_init 96 = .ok (.dup, 1) := by decide +kernel
theorem dX11_init_97 : decode cX11_init 97 = .ok (.invokespecial 63, 3) := by decide +kernel
theorem dX11_init_100 : decode cX11_init 100 = .ok (.putfield 64, 3) := by decide +kernel
theorem dX11_init_103 : decode cX11_init 103 = .ok (.aload_n 0, 1) := by decide +kernel
theorem dX11_init_104 : decode cX11_init 104 = .ok (.new 68, 3) := by decide +kernel
theorem dX11_init_107 : decode cX11_init 107 = .ok (.dup, 1) := by decide +kernel
theorem dX11_init_108 : decode cX11_init 108 = .ok (.invokespecial 70, 3) := by decide +kernel
theorem dX11_init_111 : decode cX11_init 111 = .ok (.putfield 71, 3) := by decide +kernel
theorem dX11_init_114 : decode cX11_init 114 = .ok (.aload_n 0, 1) := by decide +kernel
theorem dX11_init_115 : decode cX11_init 115 = .ok (.new 75, 3) := by decide +kernel
theorem dX11_init_118 : decode cX11_init 118 = .ok (.dup, 1) := by decide +kernel
theorem dX11_init_119 : decode cX11_init 119 = .ok (.invokespecial 77, 3) := by decide +kernel
theorem dX11_init_122 : decode cX11_init 122 = .ok (.putfield 78, 3) := by decide +kernel
theorem dX11_init_125 : decode cX11_init 125 = .ok (.aload_n 0, 1) := by decide +kernel
theorem dX11_init_126 : decode cX11_init 126 = .ok (.new 82, 3) := by decide +kernel
theorem dX11_init_129 : decode cX11_init 129 = .ok (.dup, 1) := by decide +kernel
theorem dX11_init_130 : decode cX11_init 130 = .ok (.invokespecial 84, 3) := by decide +kernel
theorem dX11_init_133 : decode cX11_init 133 = .ok (.putfield 85, 3) := by decide +kernel
theorem dX11_init_136 : decode cX11_init 136 = .ok (.aload_n 0, 1) := by decide +kernel
theorem dX11_init_137 : decode cX11_init 137 = .ok (.iconst 2, 1) := by decide +kernel
theorem dX11_init_138 : decode cX11_init 138 = .ok (.anewarray 89, 3) := by decide +kernel
theorem dX11_init_141 : decode cX11_init 141 = .ok (.putfield 91, 3) := by decide +kernel
theorem dX11_init_144 : decode cX11_init 144 = .ok (.iconst 0, 1) := by decide +kernel
theorem dX11_init_145 : decode cX11_init 145 = .ok (.istore_n 1, 1) := by decide +kernel
theorem dX11_init_146 : decode cX11_init 146 = .ok (.iload_n 1, 1) := by decide +kernel
theorem dX11_init_147 : decode cX11_init 147 = .ok (.iconst 2, 1) := by decide +kernel
theorem dX11_init_148 : decode cX11_init 148 = .ok (.if_icmp .ge 22, 3) := by decide +kernel
theorem dX11_init_151 : decode cX11_init 151 = .ok (.aload_n 0, 1) := by decide +kernel
theorem dX11_init_152 : decode cX11_init 152 = .ok (.getfield 91, 3) := by decide +kernel
theorem dX11_init_155 : decode cX11_init 155 = .ok (.iload_n 1, 1) := by decide +kernel
theorem dX11_init_156 : decode cX11_init 156 = .ok (.new 89, 3) := by decide +kernel
theorem dX11_init_159 : decode cX11_init 159 = .ok (.dup, 1) := by decide +kernel
theorem dX11_init_160 : decode cX11_init 160 = .ok (.invokespecial 95, 3) := by decide +kernel
theorem dX11_init_163 : decode cX11_init 163 = .ok (.aastore, 1) := by decide +kernel
theorem dX11_init_164 : decode cX11_init 164 = .ok (.iinc 1 1, 3) := by decide +kernel
theorem dX11_init_167 : decode cX11_init 167 = .ok (.goto (-21), 3) := by decide +kernel
theorem dX11_init_170 : decode cX11_init 170 = .ok (.return_, 1) := by decide +kernel
theorem dX11_feed_0 : decode cX11_feed 0 = .ok (.aload_n 0, 1) := by decide +kernel
theorem dX11_feed_1 : decode cX11_feed 1 = .ok (.getfield 13, 3) := by decide +kernel
theorem dX11_feed_4 : decode cX11_feed 4 = .ok (.bipush 20, 2) := by decide +kernel
theorem dX11_feed_6 : decode cX11_feed 6 = .ok (.iadd, 1) := by decide +kernel
theorem dX11_feed_7 : decode cX11_feed 7 = .ok (.sipush 200, 3) := by decide +kernel
theorem dX11_feed_10 : decode cX11_feed 10 = .ok (.if_icmp .le 5, 3) := by decide +kernel
theorem dX11_feed_13 : decode cX11_feed 13 = .ok (.iconst (-1), 1) := by decide +kernel
theorem dX11_feed_14 : decode cX11_feed 14 = .ok (.ireturn, 1) := by decide +kernel
theorem dX11_feed_15 : decode cX11_feed 15 = .ok (.aload_n 0, 1) := by decide +kernel
theorem dX11_feed_16 : decode cX11_feed 16 = .ok (.iload_n 1, 1) := by decide +kernel
theorem dX11_feed_17 : decode cX11_feed 17 = .ok (.invokevirtual 96, 3) := by decide +kernel
theorem dX11_feed_20 : decode cX11_feed 20 = .ok (.aload_n 0, 1) := by decide +kernel
theorem dX11_feed_21 : decode cX11_feed 21 = .ok (.iload_n 2, 1) := by decide +kernel
theorem dX11_feed_22 : decode cX11_feed 22 = .ok (.invokevirtual 96, 3) := by decide +kernel
theorem dX11_feed_25 : decode cX11_feed 25 = .ok (.aload_n 0, 1) := by decide +kernel
theorem dX11_feed_26 : decode cX11_feed 26 = .ok (.iload_n 3, 1) := by decide +kernel
theorem dX11_feed_27 : decode cX11_feed 27 = .ok (.invokevirtual 96, 3) := by decide +kernel
theorem dX11_feed_30 : decode cX11_feed 30 = .ok (.aload_n 0, 1) := by decide +kernel
theorem dX11_feed_31 : decode cX11_feed 31 = .ok (.iload 4, 2) := by decide +kernel
theorem dX11_feed_33 : decode cX11_feed 33 = .ok (.invokevirtual 96, 3) := by decide +kernel
theorem dX11_feed_36 : decode cX11_feed 36 = .ok (.aload_n 0, 1) := by decide +kernel
theorem dX11_feed_37 : decode cX11_feed 37 = .ok (.iload 5, 2) := by decide +kernel
theorem dX11_feed_39 : decode cX11_feed 39 = .ok (.invokevirtual 96, 3) := by decide +kernel
theorem dX11_feed_42 : decode cX11_feed 42 = .ok (.aload_n 0, 1) := by decide +kernel
theorem dX11_feed_43 : decode cX11_feed 43 = .ok (.getfield 13, 3) := by decide +kernel
theorem dX11_feed_46 : decode cX11_feed 46 = .ok (.ireturn, 1) := by decide +kernel
theorem dX11_putFour_0 : decode cX11_putFour 0 = .ok (.bipush 24, 2) := by decide +kernel
theorem dX11_putFour_2 : decode cX11_putFour 2 = .ok (.istore_n 2, 1) := by decide +kernel
theorem dX11_putFour_3 : decode cX11_putFour 3 = .ok (.iload_n 2, 1) := by decide +kernel
theorem dX11_putFour_4 : decode cX11_putFour 4 = .ok (.ifCond .lt 45, 3) := by decide +kernel
theorem dX11_putFour_7 : decode cX11_putFour 7 = .ok (.aload_n 0, 1) := by decide +kernel
theorem dX11_putFour_8 : decode cX11_putFour 8 = .ok (.getfield 13, 3) := by decide +kernel
theorem dX11_putFour_11 : decode cX11_putFour 11 = .ok (.sipush 200, 3) := by decide +kernel
theorem dX11_putFour_14 : decode cX11_putFour 14 = .ok (.if_icmp .ge 29, 3) := by decide +kernel
theorem dX11_putFour_17 : decode cX11_putFour 17 = .ok (.aload_n 0, 1) := by decide +kernel
theorem dX11_putFour_18 : decode cX11_putFour 18 = .ok (.getfield 9, 3) := by decide +kernel
theorem dX11_putFour_21 : decode cX11_putFour 21 = .ok (.aload_n 0, 1) := by decide +kernel
theorem dX11_putFour_22 : decode cX11_putFour 22 = .ok (.getfield 13, 3) := by decide +kernel
theorem dX11_putFour_25 : decode cX11_putFour 25 = .ok (.iload_n 1, 1) := by decide +kernel
theorem dX11_putFour_26 : decode cX11_putFour 26 = .ok (.iload_n 2, 1) := by decide +kernel
theorem dX11_putFour_27 : decode cX11_putFour 27 = .ok (.iushr, 1) := by decide +kernel
theorem dX11_putFour_28 : decode cX11_putFour 28 = .ok (.sipush 255, 3) := by decide +kernel
theorem dX11_putFour_31 : decode cX11_putFour 31 = .ok (.iand, 1) := by decide +kernel
theorem dX11_putFour_32 : decode cX11_putFour 32 = .ok (.iastore, 1) := by decide +kernel
theorem dX11_putFour_33 : decode cX11_putFour 33 = .ok (.aload_n 0, 1) := by decide +kernel
theorem dX11_putFour_34 : decode cX11_putFour 34 = .ok (.dup, 1) := by decide +kernel
theorem dX11_putFour_35 : decode cX11_putFour 35 = .ok (.getfield 13, 3) := by decide +kernel
theorem dX11_putFour_38 : decode cX11_putFour 38 = .ok (.iconst 1, 1) := by decide +kernel
theorem dX11_putFour_39 : decode cX11_putFour 39 = .ok (.iadd, 1) := by decide +kernel
theorem dX11_putFour_40 : decode cX11_putFour 40 = .ok (.putfield 13, 3) := by decide +kernel
theorem dX11_putFour_43 : decode cX11_putFour 43 = .ok (.iinc 2 (-8), 3) := by decide +kernel
theorem dX11_putFour_46 : decode cX11_putFour 46 = .ok (.goto (-43), 3) := by decide +kernel
theorem dX11_putFour_49 : decode cX11_putFour 49 = .ok (.return_, 1) := by decide +kernel
theorem dX11_end_0 : decode cX11_end 0 = .ok (.iload_n 1, 1) := by decide +kernel
theorem dX11_end_1 : decode cX11_end 1 = .ok (.ifCond .lt 11, 3) := by decide +kernel
theorem dX11_end_4 : decode cX11_end 4 = .ok (.iload_n 1, 1) := by decide +kernel
theorem dX11_end_5 : decode cX11_end 5 = .ok (.aload_n 0, 1) := by decide +kernel
theorem dX11_end_6 : decode cX11_end 6 = .ok (.getfield 13, 3) := by decide +kernel
theorem dX11_end_9 : decode cX11_end 9 = .ok (.if_icmp .le 5, 3) := by decide +kernel
theorem dX11_end_12 : decode cX11_end 12 = .ok (.iconst (-1), 1) := by decide +kernel
theorem dX11_end_13 : decode cX11_end 13 = .ok (.ireturn, 1) := by decide +kernel
theorem dX11_end_14 : decode cX11_end 14 = .ok (.aload_n 0, 1) := by decide +kernel
theorem dX11_end_15 : decode cX11_end 15 = .ok (.iload_n 1, 1) := by decide +kernel
theorem dX11_end_16 : decode cX11_end 16 = .ok (.putfield 13, 3) := by decide +kernel
theorem dX11_end_19 : decode cX11_end 19 = .ok (.iload_n 1, 1) := by decide +kernel
theorem dX11_end_20 : decode cX11_end 20 = .ok (.ireturn, 1) := by decide +kernel
theorem dX11_solid_0 : decode cX11_solid 0 = .ok (.aload_n 0, 1) := by decide +kernel
theorem dX11_solid_1 : decode cX11_solid 1 = .ok (.getfield 20, 3) := by decide +kernel
theorem dX11_solid_4 : decode cX11_solid 4 = .ok (.aload_n 0, 1) := by decide +kernel
theorem dX11_solid_5 : decode cX11_solid 5 = .ok (.getfield 9, 3) := by decide +kernel
theorem dX11_solid_8 : decode cX11_solid 8 = .ok (.aload_n 0, 1) := by decide +kernel
theorem dX11_solid_9 : decode cX11_solid 9 = .ok (.getfield 13, 3) := by decide +kernel
theorem dX11_solid_12 : decode cX11_solid 12 = .ok (.invokevirtual 100, 3) := by decide +kernel
theorem dX11_solid_15 : decode cX11_solid 15 = .ok (.istore_n 1, 1) := by decide +kernel
theorem dX11_solid_16 : decode cX11_solid 16 = .ok (.aload_n 0, 1) := by decide +kernel
theorem dX11_solid_17 : decode cX11_solid 17 = .ok (.iconst 0, 1) := by decide +kernel
theorem dX11_solid_18 : decode cX11_solid 18 = .ok (.putfield 13, 3) := by decide +kernel
theorem dX11_solid_21 : decode cX11_solid 21 = .ok (.iload_n 1, 1) := by decide +kernel
theorem dX11_solid_22 : decode cX11_solid 22 = .ok (.iconst (-1), 1) := by decide +kernel
theorem dX11_solid_23 : decode cX11_solid 23 = .ok (.if_icmp .eq 8, 3) := by decide +kernel
theorem dX11_solid_26 : decode cX11_solid 26 = .ok (.bipush (-2), 2) := by decide +kernel
theorem dX11_solid_28 : decode cX11_solid 28 = .ok (.iload_n 1, 1) := by decide +kernel
theorem dX11_solid_29 : decode cX11_solid 29 = .ok (.isub, 1) := by decide +kernel
theorem dX11_solid_30 : decode cX11_solid 30 = .ok (.ireturn, 1) := by decide +kernel
theorem dX11_solid_31 : decode cX11_solid 31 = .ok (.aload_n 0, 1) := by decide +kernel
theorem dX11_solid_32 : decode cX11_solid 32 = .ok (.getfield 27, 3) := by decide +kernel
theorem dX11_solid_35 : decode cX11_solid 35 = .ok (.aload_n 0, 1) := by decide +kernel
theorem dX11_solid_36 : decode cX11_solid 36 = .ok (.getfield 20, 3) := by decide +kernel
theorem dX11_solid_39 : decode cX11_solid 39 = .ok (.getfield 104, 3) := by decide +kernel
theorem dX11_solid_42 : decode cX11_solid 42 = .ok (.aload_n 0, 1) := by decide +kernel
theorem dX11_solid_43 : decode cX11_solid 43 = .ok (.getfield 20, 3) := by decide +kernel
theorem dX11_solid_46 : decode cX11_solid 46 = .ok (.getfield 107, 3) := by decide +kernel
theorem dX11_solid_49 : decode cX11_solid 49 = .ok (.invokevirtual 110, 3) := by decide +kernel
theorem dX11_solid_52 : decode cX11_solid 52 = .ok (.aload_n 0, 1) := by decide +kernel
theorem dX11_solid_53 : decode cX11_solid 53 = .ok (.getfield 34, 3) := by decide +kernel
theorem dX11_solid_56 : decode cX11_solid 56 = .ok (.invokevirtual 114, 3) := by decide +kernel
theorem dX11_solid_59 : decode cX11_solid 59 = .ok (.aload_n 0, 1) := by decide +kernel
theorem dX11_solid_60 : decode cX11_solid 60 = .ok (.getfield 85, 3) := by decide +kernel
theorem dX11_solid_63 : decode cX11_solid 63 = .ok (.invokevirtual 117, 3) := by decide +kernel
theorem dX11_solid_66 : decode cX11_solid 66 = .ok (.aload_n 0, 1) := by decide +kernel
theorem dX11_solid_67 : decode cX11_solid 67 = .ok (.invokevirtual 120, 3) := by decide +kernel
theorem dX11_solid_70 : decode cX11_solid 70 = .ok (.aload_n 0, 1) := by decide +kernel
theorem dX11_solid_71 : decode cX11_solid 71 = .ok (.getfield 27, 3) := by decide +kernel
theorem dX11_solid_74 : decode cX11_solid 74 = .ok (.getfield 123, 3) := by decide +kernel
theorem dX11_solid_77 : decode cX11_solid 77 = .ok (.ireturn, 1) := by decide +kernel
theorem dX11_hinge_0 : decode cX11_hinge 0 = .ok (.aload_n 0, 1) := by decide +kernel
theorem dX11_hinge_1 : decode cX11_hinge 1 = .ok (.iload_n 1, 1) := by decide +kernel
theorem dX11_hinge_2 : decode cX11_hinge 2 = .ok (.invokevirtual 126, 3) := by decide +kernel
theorem dX11_hinge_5 : decode cX11_hinge 5 = .ok (.ifCond .ne 5, 3) := by decide +kernel
theorem dX11_hinge_8 : decode cX11_hinge 8 = .ok (.iconst (-1), 1) := by decide +kernel
theorem dX11_hinge_9 : decode cX11_hinge 9 = .ok (.ireturn, 1) := by decide +kernel
theorem dX11_hinge_10 : decode cX11_hinge 10 = .ok (.aload_n 0, 1) := by decide +kernel
theorem dX11_hinge_11 : decode cX11_hinge 11 = .ok (.getfield 34, 3) := by decide +kernel
theorem dX11_hinge_14 : decode cX11_hinge 14 = .ok (.iload_n 1, 1) := by decide +kernel
theorem dX11_hinge_15 : decode cX11_hinge 15 = .ok (.invokevirtual 130, 3) := by decide +kernel
theorem dX11_hinge_18 : decode cX11_hinge 18 = .ok (.ifCond .eq 6, 3) := by decide +kernel
theorem dX11_hinge_21 : decode cX11_hinge 21 = .ok (.bipush (-2), 2) := by decide +kernel
theorem dX11_hinge_23 : decode cX11_hinge 23 = .ok (.ireturn, 1) := by decide +kernel
theorem dX11_hinge_24 : decode cX11_hinge 24 = .ok (.aload_n 0, 1) := by decide +kernel
theorem dX11_hinge_25 : decode cX11_hinge 25 = .ok (.getfield 27, 3) := by decide +kernel
theorem dX11_hinge_28 : decode cX11_hinge 28 = .ok (.aload_n 0, 1) := by decide +kernel
theorem dX11_hinge_29 : decode cX11_hinge 29 = .ok (.getfield 27, 3) := by decide +kernel
theorem dX11_hinge_32 : decode cX11_hinge 32 = .ok (.iload_n 1, 1) := by decide +kernel
theorem dX11_hinge_33 : decode cX11_hinge 33 = .ok (.iconst 0, 1) := by decide +kernel
theorem dX11_hinge_34 : decode cX11_hinge 34 = .ok (.invokevirtual 133, 3) := by decide +kernel
theorem dX11_hinge_37 : decode cX11_hinge 37 = .ok (.aload_n 0, 1) := by decide +kernel
theorem dX11_hinge_38 : decode cX11_hinge 38 = .ok (.getfield 27, 3) := by decide +kernel
theorem dX11_hinge_41 : decode cX11_hinge 41 = .ok (.iload_n 1, 1) := by decide +kernel
theorem dX11_hinge_42 : decode cX11_hinge 42 = .ok (.iconst 1, 1) := by decide +kernel
theorem dX11_hinge_43 : decode cX11_hinge 43 = .ok (.invokevirtual 133, 3) := by decide +kernel
theorem dX11_hinge_46 : decode cX11_hinge 46 = .ok (.aload_n 0, 1) := by decide +kernel
theorem dX11_hinge_47 : decode cX11_hinge 47 = .ok (.getfield 34, 3) := by decide +kernel
theorem dX11_hinge_50 : decode cX11_hinge 50 = .ok (.getfield 137, 3) := by decide +kernel
theorem dX11_hinge_53 : decode cX11_hinge 53 = .ok (.invokevirtual 141, 3) := by decide +kernel
theorem dX11_hinge_56 : decode cX11_hinge 56 = .ok (.ifCond .eq 6, 3) := by decide +kernel
theorem dX11_hinge_59 : decode cX11_hinge 59 = .ok (.bipush (-3), 2) := by decide +kernel
theorem dX11_hinge_61 : decode cX11_hinge 61 = .ok (.ireturn, 1) := by decide +kernel
theorem dX11_hinge_62 : decode cX11_hinge 62 = .ok (.aload_n 0, 1) := by decide +kernel
theorem dX11_hinge_63 : decode cX11_hinge 63 = .ok (.getfield 85, 3) := by decide +kernel
theorem dX11_hinge_66 : decode cX11_hinge 66 = .ok (.aload_n 0, 1) := by decide +kernel
theorem dX11_hinge_67 : decode cX11_hinge 67 = .ok (.getfield 34, 3) := by decide +kernel
theorem dX11_hinge_70 : decode cX11_hinge 70 = .ok (.invokevirtual 145, 3) := by decide +kernel
theorem dX11_hinge_73 : decode cX11_hinge 73 = .ok (.aload_n 0, 1) := by decide +kernel
theorem dX11_hinge_74 : decode cX11_hinge 74 = .ok (.getfield 34, 3) := by decide +kernel
theorem dX11_hinge_77 : decode cX11_hinge 77 = .ok (.iload_n 1, 1) := by decide +kernel
theorem dX11_hinge_78 : decode cX11_hinge 78 = .ok (.invokevirtual 149, 3) := by decide +kernel
theorem dX11_hinge_81 : decode cX11_hinge 81 = .ok (.aload_n 0, 1) := by decide +kernel
theorem dX11_hinge_82 : decode cX11_hinge 82 = .ok (.invokevirtual 120, 3) := by decide +kernel
theorem dX11_hinge_85 : decode cX11_hinge 85 = .ok (.aload_n 0, 1) := by decide +kernel
theorem dX11_hinge_86 : decode cX11_hinge 86 = .ok (.getfield 34, 3) := by decide +kernel
theorem dX11_hinge_89 : decode cX11_hinge 89 = .ok (.invokevirtual 152, 3) := by decide +kernel
theorem dX11_hinge_92 : decode cX11_hinge 92 = .ok (.ireturn, 1) := by decide +kernel
theorem dX11_cut_0 : decode cX11_cut 0 = .ok (.aload_n 0, 1) := by decide +kernel
theorem dX11_cut_1 : decode cX11_cut 1 = .ok (.iload_n 1, 1) := by decide +kernel
theorem dX11_cut_2 : decode cX11_cut 2 = .ok (.invokevirtual 126, 3) := by decide +kernel
theorem dX11_cut_5 : decode cX11_cut 5 = .ok (.ifCond .ne 5, 3) := by decide +kernel
theorem dX11_cut_8 : decode cX11_cut 8 = .ok (.iconst (-1), 1) := by decide +kernel
theorem dX11_cut_9 : decode cX11_cut 9 = .ok (.ireturn, 1) := by decide +kernel
theorem dX11_cut_10 : decode cX11_cut 10 = .ok (.aload_n 0, 1) := by decide +kernel
theorem dX11_cut_11 : decode cX11_cut 11 = .ok (.getfield 34, 3) := by decide +kernel
theorem dX11_cut_14 : decode cX11_cut 14 = .ok (.iload_n 1, 1) := by decide +kernel
theorem dX11_cut_15 : decode cX11_cut 15 = .ok (.invokevirtual 130, 3) := by decide +kernel
theorem dX11_cut_18 : decode cX11_cut 18 = .ok (.ifCond .ne 6, 3) := by decide +kernel
theorem dX11_cut_21 : decode cX11_cut 21 = .ok (.bipush (-2), 2) := by decide +kernel
theorem dX11_cut_23 : decode cX11_cut 23 = .ok (.ireturn, 1) := by decide +kernel
theorem dX11_cut_24 : decode cX11_cut 24 = .ok (.aload_n 0, 1) := by decide +kernel
theorem dX11_cut_25 : decode cX11_cut 25 = .ok (.getfield 85, 3) := by decide +kernel
theorem dX11_cut_28 : decode cX11_cut 28 = .ok (.aload_n 0, 1) := by decide +kernel
theorem dX11_cut_29 : decode cX11_cut 29 = .ok (.getfield 34, 3) := by decide +kernel
theorem dX11_cut_32 : decode cX11_cut 32 = .ok (.invokevirtual 145, 3) := by decide +kernel
theorem dX11_cut_35 : decode cX11_cut 35 = .ok (.aload_n 0, 1) := by decide +kernel
theorem dX11_cut_36 : decode cX11_cut 36 = .ok (.getfield 34, 3) := by decide +kernel
theorem dX11_cut_39 : decode cX11_cut 39 = .ok (.iload_n 1, 1) := by decide +kernel
theorem dX11_cut_40 : decode cX11_cut 40 = .ok (.invokevirtual 156, 3) := by decide +kernel
theorem dX11_cut_43 : decode cX11_cut 43 = .ok (.aload_n 0, 1) := by decide +kernel
theorem dX11_cut_44 : decode cX11_cut 44 = .ok (.invokevirtual 120, 3) := by decide +kernel
theorem dX11_cut_47 : decode cX11_cut 47 = .ok (.aload_n 0, 1) := by decide +kernel
theorem dX11_cut_48 : decode cX11_cut 48 = .ok (.getfield 34, 3) := by decide +kernel
theorem dX11_cut_51 : decode cX11_cut 51 = .ok (.invokevirtual 152, 3) := by decide +kernel
theorem dX11_cut_54 : decode cX11_cut 54 = .ok (.ireturn, 1) := by decide +kernel
theorem dX11_root_0 : decode cX11_root 0 = .ok (.aload_n 0, 1) := by decide +kernel
theorem dX11_root_1 : decode cX11_root 1 = .ok (.iload_n 1, 1) := by decide +kernel
theorem dX11_root_2 : decode cX11_root 2 = .ok (.invokevirtual 159, 3) := by decide +kernel
theorem dX11_root_5 : decode cX11_root 5 = .ok (.ifCond .ne 5, 3) := by decide +kernel
theorem dX11_root_8 : decode cX11_root 8 = .ok (.iconst (-1), 1) := by decide +kernel
theorem dX11_root_9 : decode cX11_root 9 = .ok (.ireturn, 1) := by decide +kernel
theorem dX11_root_10 : decode cX11_root 10 = .ok (.aload_n 0, 1) := by decide +kernel
theorem dX11_root_11 : decode cX11_root 11 = .ok (.getfield 34, 3) := by decide +kernel
theorem dX11_root_14 : decode cX11_root 14 = .ok (.getfield 162, 3) := by decide +kernel
theorem dX11_root_17 : decode cX11_root 17 = .ok (.iload_n 1, 1) := by decide +kernel
theorem dX11_root_18 : decode cX11_root 18 = .ok (.if_icmp .ne 6, 3) := by decide +kernel
theorem dX11_root_21 : decode cX11_root 21 = .ok (.bipush (-2), 2) := by decide +kernel
theorem dX11_root_23 : decode cX11_root 23 = .ok (.ireturn, 1) := by decide +kernel
theorem dX11_root_24 : decode cX11_root 24 = .ok (.aload_n 0, 1) := by decide +kernel
theorem dX11_root_25 : decode cX11_root 25 = .ok (.getfield 85, 3) := by decide +kernel
theorem dX11_root_28 : decode cX11_root 28 = .ok (.aload_n 0, 1) := by decide +kernel
theorem dX11_root_29 : decode cX11_root 29 = .ok (.getfield 34, 3) := by decide +kernel
theorem dX11_root_32 : decode cX11_root 32 = .ok (.invokevirtual 145, 3) := by decide +kernel
theorem dX11_root_35 : decode cX11_root 35 = .ok (.aload_n 0, 1) := by decide +kernel
theorem dX11_root_36 : decode cX11_root 36 = .ok (.getfield 34, 3) := by decide +kernel
theorem dX11_root_39 : decode cX11_root 39 = .ok (.getfield 162, 3) := by decide +kernel
theorem dX11_root_42 : decode cX11_root 42 = .ok (.istore_n 2, 1) := by decide +kernel
theorem dX11_root_43 : decode cX11_root 43 = .ok (.aload_n 0, 1) := by decide +kernel
theorem dX11_root_44 : decode cX11_root 44 = .ok (.getfield 34, 3) := by decide +kernel
theorem dX11_root_47 : decode cX11_root 47 = .ok (.iload_n 1, 1) := by decide +kernel
theorem dX11_root_48 : decode cX11_root 48 = .ok (.putfield 162, 3) := by decide +kernel
theorem dX11_root_51 : decode cX11_root 51 = .ok (.aload_n 0, 1) := by decide +kernel
theorem dX11_root_52 : decode cX11_root 52 = .ok (.invokevirtual 120, 3) := by decide +kernel
theorem dX11_root_55 : decode cX11_root 55 = .ok (.iload_n 2, 1) := by decide +kernel
theorem dX11_root_56 : decode cX11_root 56 = .ok (.ireturn, 1) := by decide +kernel
theorem dX11_weigh_0 : decode cX11_weigh 0 = .ok (.aload_n 0, 1) := by decide +kernel
theorem dX11_weigh_1 : decode cX11_weigh 1 = .ok (.iload_n 1, 1) := by decide +kernel
theorem dX11_weigh_2 : decode cX11_weigh 2 = .ok (.invokevirtual 126, 3) := by decide +kernel
theorem dX11_weigh_5 : decode cX11_weigh 5 = .ok (.ifCond .eq 13, 3) := by decide +kernel
theorem dX11_weigh_8 : decode cX11_weigh 8 = .ok (.iload_n 2, 1) := by decide +kernel
theorem dX11_weigh_9 : decode cX11_weigh 9 = .ok (.ifCond .lt 9, 3) := by decide +kernel
theorem dX11_weigh_12 : decode cX11_weigh 12 = .ok (.iload_n 2, 1) := by decide +kernel
theorem dX11_weigh_13 : decode cX11_weigh 13 = .ok (.bipush 9, 2) := by decide +kernel
theorem dX11_weigh_15 : decode cX11_weigh 15 = .ok (.if_icmp .le 5, 3) := by decide +kernel
theorem dX11_weigh_18 : decode cX11_weigh 18 = .ok (.iconst (-1), 1) := by decide +kernel
theorem dX11_weigh_19 : decode cX11_weigh 19 = .ok (.ireturn, 1) := by decide +kernel
theorem dX11_weigh_20 : decode cX11_weigh 20 = .ok (.aload_n 0, 1) := by decide +kernel
theorem dX11_weigh_21 : decode cX11_weigh 21 = .ok (.getfield 34, 3) := by decide +kernel
theorem dX11_weigh_24 : decode cX11_weigh 24 = .ok (.getfield 165, 3) := by decide +kernel
theorem dX11_weigh_27 : decode cX11_weigh 27 = .ok (.iload_n 1, 1) := by decide +kernel
theorem dX11_weigh_28 : decode cX11_weigh 28 = .ok (.iaload, 1) := by decide +kernel
theorem dX11_weigh_29 : decode cX11_weigh 29 = .ok (.istore_n 3, 1) := by decide +kernel
theorem dX11_weigh_30 : decode cX11_weigh 30 = .ok (.iload_n 3, 1) := by decide +kernel
theorem dX11_weigh_31 : decode cX11_weigh 31 = .ok (.iload_n 2, 1) := by decide +kernel
theorem dX11_weigh_32 : decode cX11_weigh 32 = .ok (.if_icmp .ne 6, 3) := by decide +kernel
theorem dX11_weigh_35 : decode cX11_weigh 35 = .ok (.bipush (-2), 2) := by decide +kernel
theorem dX11_weigh_37 : decode cX11_weigh 37 = .ok (.ireturn, 1) := by decide +kernel
theorem dX11_weigh_38 : decode cX11_weigh 38 = .ok (.aload_n 0, 1) := by decide +kernel
theorem dX11_weigh_39 : decode cX11_weigh 39 = .ok (.getfield 85, 3) := by decide +kernel
theorem dX11_weigh_42 : decode cX11_weigh 42 = .ok (.aload_n 0, 1) := by decide +kernel
theorem dX11_weigh_43 : decode cX11_weigh 43 = .ok (.getfield 34, 3) := by decide +kernel
theorem dX11_weigh_46 : decode cX11_weigh 46 = .ok (.invokevirtual 145, 3) := by decide +kernel
theorem dX11_weigh_49 : decode cX11_weigh 49 = .ok (.aload_n 0, 1) := by decide +kernel
theorem dX11_weigh_50 : decode cX11_weigh 50 = .ok (.getfield 34, 3) := by decide +kernel
theorem dX11_weigh_53 : decode cX11_weigh 53 = .ok (.getfield 165, 3) := by decide +kernel
theorem dX11_weigh_56 : decode cX11_weigh 56 = .ok (.iload_n 1, 1) := by decide +kernel
theorem dX11_weigh_57 : decode cX11_weigh 57 = .ok (.iload_n 2, 1) := by decide +kernel
theorem dX11_weigh_58 : decode cX11_weigh 58 = .ok (.iastore, 1) := by decide +kernel
theorem dX11_weigh_59 : decode cX11_weigh 59 = .ok (.iload_n 3, 1) := by decide +kernel
theorem dX11_weigh_60 : decode cX11_weigh 60 = .ok (.ireturn, 1) := by decide +kernel
theorem dX11_span_0 : decode cX11_span 0 = .ok (.aload_n 0, 1) := by decide +kernel
theorem dX11_span_1 : decode cX11_span 1 = .ok (.getfield 27, 3) := by decide +kernel
theorem dX11_span_4 : decode cX11_span 4 = .ok (.getfield 123, 3) := by decide +kernel
theorem dX11_span_7 : decode cX11_span 7 = .ok (.ifCond .ne 5, 3) := by decide +kernel
theorem dX11_span_10 : decode cX11_span 10 = .ok (.iconst (-1), 1) := by decide +kernel
theorem dX11_span_11 : decode cX11_span 11 = .ok (.ireturn, 1) := by decide +kernel
theorem dX11_span_12 : decode cX11_span 12 = .ok (.aload_n 0, 1) := by decide +kernel
theorem dX11_span_13 : decode cX11_span 13 = .ok (.getfield 85, 3) := by decide +kernel
theorem dX11_span_16 : decode cX11_span 16 = .ok (.aload_n 0, 1) := by decide +kernel
theorem dX11_span_17 : decode cX11_span 17 = .ok (.getfield 34, 3) := by decide +kernel
theorem dX11_span_20 : decode cX11_span 20 = .ok (.invokevirtual 145, 3) := by decide +kernel
theorem dX11_span_23 : decode cX11_span 23 = .ok (.aload_n 0, 1) := by decide +kernel
theorem dX11_span_24 : decode cX11_span 24 = .ok (.getfield 34, 3) := by decide +kernel
theorem dX11_span_27 : decode cX11_span 27 = .ok (.lconst 0, 1) := by decide +kernel
theorem dX11_span_28 : decode cX11_span 28 = .ok (.putfield 137, 3) := by decide +kernel
theorem dX11_span_31 : decode cX11_span 31 = .ok (.iconst 0, 1) := by decide +kernel
theorem dX11_span_32 : decode cX11_span 32 = .ok (.istore_n 1, 1) := by decide +kernel
theorem dX11_span_33 : decode cX11_span 33 = .ok (.iconst 0, 1) := by decide +kernel
theorem dX11_span_34 : decode cX11_span 34 = .ok (.istore_n 2, 1) := by decide +kernel
theorem dX11_span_35 : decode cX11_span 35 = .ok (.iload_n 2, 1) := by decide +kernel
theorem dX11_span_36 : decode cX11_span 36 = .ok (.bipush 9, 2) := by decide +kernel
theorem dX11_span_38 : decode cX11_span 38 = .ok (.if_icmp .gt 19, 3) := by decide +kernel
theorem dX11_span_41 : decode cX11_span 41 = .ok (.iload_n 1, 1) := by decide +kernel
theorem dX11_span_42 : decode cX11_span 42 = .ok (.iload_n 2, 1) := by decide +kernel
theorem dX11_span_43 : decode cX11_span 43 = .ok (.aload_n 0, 1) := by decide +kernel
theorem dX11_span_44 : decode cX11_span 44 = .ok (.iload_n 2, 1) := by decide +kernel
theorem dX11_span_45 : decode cX11_span 45 = .ok (.invokevirtual 168, 3) := by decide +kernel
theorem dX11_span_48 : decode cX11_span 48 = .ok (.imul, 1) := by decide +kernel
theorem dX11_span_49 : decode cX11_span 49 = .ok (.iadd, 1) := by decide +kernel
theorem dX11_span_50 : decode cX11_span 50 = .ok (.istore_n 1, 1) := by decide +kernel
theorem dX11_span_51 : decode cX11_span 51 = .ok (.iinc 2 1, 3) := by decide +kernel
theorem dX11_span_54 : decode cX11_span 54 = .ok (.goto (-19), 3) := by decide +kernel
theorem dX11_span_57 : decode cX11_span 57 = .ok (.aload_n 0, 1) := by decide +kernel
theorem dX11_span_58 : decode cX11_span 58 = .ok (.invokevirtual 120, 3) := by decide +kernel
theorem dX11_span_61 : decode cX11_span 61 = .ok (.iload_n 1, 1) := by decide +kernel
theorem dX11_span_62 : decode cX11_span 62 = .ok (.ireturn, 1) := by decide +kernel
theorem dX11_spanBy_0 : decode cX11_spanBy 0 = .ok (.iconst 0, 1) := by decide +kernel
theorem dX11_spanBy_1 : decode cX11_spanBy 1 = .ok (.istore_n 2, 1) := by decide +kernel
theorem dX11_spanBy_2 : decode cX11_spanBy 2 = .ok (.iconst 0, 1) := by decide +kernel
theorem dX11_spanBy_3 : decode cX11_spanBy 3 = .ok (.istore_n 3, 1) := by decide +kernel
theorem dX11_spanBy_4 : decode cX11_spanBy 4 = .ok (.iload_n 3, 1) := by decide +kernel
theorem dX11_spanBy_5 : decode cX11_spanBy 5 = .ok (.aload_n 0, 1) := by decide +kernel
theorem dX11_spanBy_6 : decode cX11_spanBy 6 = .ok (.getfield 27, 3) := by decide +kernel
theorem dX11_spanBy_9 : decode cX11_spanBy 9 = .ok (.getfield 172, 3) := by decide +kernel
theorem dX11_spanBy_12 : decode cX11_spanBy 12 = .ok (.if_icmp .ge 74, 3) := by decide +kernel
theorem dX11_spanBy_15 : decode cX11_spanBy 15 = .ok (.iload_n 3, 1) := by decide +kernel
theorem dX11_spanBy_16 : decode cX11_spanBy 16 = .ok (.bipush 60, 2) := by decide +kernel
theorem dX11_spanBy_18 : decode cX11_spanBy 18 = .ok (.if_icmp .ge 68, 3) := by decide +kernel
theorem dX11_spanBy_21 : decode cX11_spanBy 21 = .ok (.aload_n 0, 1) := by decide +kernel
theorem dX11_spanBy_22 : decode cX11_spanBy 22 = .ok (.getfield 34, 3) := by decide +kernel
theorem dX11_spanBy_25 : decode cX11_spanBy 25 = .ok (.getfield 165, 3) := by decide +kernel
theorem dX11_spanBy_28 : decode cX11_spanBy 28 = .ok (.iload_n 3, 1) := by decide +kernel
theorem dX11_spanBy_29 : decode cX11_spanBy 29 = .ok (.iaload, 1) := by decide +kernel
theorem dX11_spanBy_30 : decode cX11_spanBy 30 = .ok (.iload_n 1, 1) := by decide +kernel
theorem dX11_spanBy_31 : decode cX11_spanBy 31 = .ok (.if_icmp .ne 49, 3) := by decide +kernel
theorem dX11_spanBy_34 : decode cX11_spanBy 34 = .ok (.aload_n 0, 1) := by decide +kernel
theorem dX11_spanBy_35 : decode cX11_spanBy 35 = .ok (.getfield 27, 3) := by decide +kernel
theorem dX11_spanBy_38 : decode cX11_spanBy 38 = .ok (.aload_n 0, 1) := by decide +kernel
theorem dX11_spanBy_39 : decode cX11_spanBy 39 = .ok (.getfield 27, 3) := by decide +kernel
theorem dX11_spanBy_42 : decode cX11_spanBy 42 = .ok (.iload_n 3, 1) := by decide +kernel
theorem dX11_spanBy_43 : decode cX11_spanBy 43 = .ok (.iconst 0, 1) := by decide +kernel
theorem dX11_spanBy_44 : decode cX11_spanBy 44 = .ok (.invokevirtual 133, 3) := by decide +kernel
theorem dX11_spanBy_47 : decode cX11_spanBy 47 = .ok (.aload_n 0, 1) := by decide +kernel
theorem dX11_spanBy_48 : decode cX11_spanBy 48 = .ok (.getfield 27, 3) := by decide +kernel
theorem dX11_spanBy_51 : decode cX11_spanBy 51 = .ok (.iload_n 3, 1) := by decide +kernel
theorem dX11_spanBy_52 : decode cX11_spanBy 52 = .ok (.iconst 1, 1) := by decide +kernel
theorem dX11_spanBy_53 : decode cX11_spanBy 53 = .ok (.invokevirtual 133, 3) := by decide +kernel
theorem dX11_spanBy_56 : decode cX11_spanBy 56 = .ok (.aload_n 0, 1) := by decide +kernel
theorem dX11_spanBy_57 : decode cX11_spanBy 57 = .ok (.getfield 34, 3) := by decide +kernel
theorem dX11_spanBy_60 : decode cX11_spanBy 60 = .ok (.getfield 137, 3) := by decide +kernel
theorem dX11_spanBy_63 : decode cX11_spanBy 63 = .ok (.invokevirtual 141, 3) := by decide +kernel
theorem dX11_spanBy_66 : decode cX11_spanBy 66 = .ok (.ifCond .ne 14, 3) := by decide +kernel
theorem dX11_spanBy_69 : decode cX11_spanBy 69 = .ok (.aload_n 0, 1) := by decide +kernel
theorem dX11_spanBy_70 : decode cX11_spanBy 70 = .ok (.getfield 34, 3) := by decide +kernel
theorem dX11_spanBy_73 : decode cX11_spanBy 73 = .ok (.iload_n 3, 1) := by decide +kernel
theorem dX11_spanBy_74 : decode cX11_spanBy 74 = .ok (.invokevirtual 149, 3) := by decide +kernel
theorem dX11_spanBy_77 : decode cX11_spanBy 77 = .ok (.iinc 2 1, 3) := by decide +kernel
theorem dX11_spanBy_80 : decode cX11_spanBy 80 = .ok (.iinc 3 1, 3) := by decide +kernel
theorem dX11_spanBy_83 : decode cX11_spanBy 83 = .ok (.goto (-79), 3) := by decide +kernel
theorem dX11_spanBy_86 : decode cX11_spanBy 86 = .ok (.iload_n 2, 1) := by decide +kernel
theorem dX11_spanBy_87 : decode cX11_spanBy 87 = .ok (.ireturn, 1) := by decide +kernel
theorem dX11_tree_0 : decode cX11_tree 0 = .ok (.iload_n 1, 1) := by decide +kernel
theorem dX11_tree_1 : decode cX11_tree 1 = .ok (.ifCond .lt 18, 3) := by decide +kernel
theorem dX11_tree_4 : decode cX11_tree 4 = .ok (.iload_n 1, 1) := by decide +kernel
theorem dX11_tree_5 : decode cX11_tree 5 = .ok (.iconst 1, 1) := by decide +kernel
theorem dX11_tree_6 : decode cX11_tree 6 = .ok (.if_icmp .gt 13, 3) := by decide +kernel
theorem dX11_tree_9 : decode cX11_tree 9 = .ok (.aload_n 0, 1) := by decide +kernel
theorem dX11_tree_10 : decode cX11_tree 10 = .ok (.getfield 27, 3) := by decide +kernel
theorem dX11_tree_13 : decode cX11_tree 13 = .ok (.getfield 123, 3) := by decide +kernel
theorem dX11_tree_16 : decode cX11_tree 16 = .ok (.ifCond .ne 5, 3) := by decide +kernel
theorem dX11_tree_19 : decode cX11_tree 19 = .ok (.iconst (-1), 1) := by decide +kernel
theorem dX11_tree_20 : decode cX11_tree 20 = .ok (.ireturn, 1) := by decide +kernel
theorem dX11_tree_21 : decode cX11_tree 21 = .ok (.aload_n 0, 1) := by decide +kernel
theorem dX11_tree_22 : decode cX11_tree 22 = .ok (.getfield 85, 3) := by decide +kernel
theorem dX11_tree_25 : decode cX11_tree 25 = .ok (.aload_n 0, 1) := by decide +kernel
theorem dX11_tree_26 : decode cX11_tree 26 = .ok (.getfield 34, 3) := by decide +kernel
theorem dX11_tree_29 : decode cX11_tree 29 = .ok (.invokevirtual 145, 3) := by decide +kernel
theorem dX11_tree_32 : decode cX11_tree 32 = .ok (.iload_n 1, 1) := by decide +kernel
theorem dX11_tree_33 : decode cX11_tree 33 = .ok (.ifCond .ne 17, 3) := by decide +kernel
theorem dX11_tree_36 : decode cX11_tree 36 = .ok (.aload_n 0, 1) := by decide +kernel
theorem dX11_tree_37 : decode cX11_tree 37 = .ok (.getfield 27, 3) := by decide +kernel
theorem dX11_tree_40 : decode cX11_tree 40 = .ok (.aload_n 0, 1) := by decide +kernel
theorem dX11_tree_41 : decode cX11_tree 41 = .ok (.getfield 34, 3) := by decide +kernel
theorem dX11_tree_44 : decode cX11_tree 44 = .ok (.invokevirtual 175, 3) := by decide +kernel
theorem dX11_tree_47 : decode cX11_tree 47 = .ok (.goto 14, 3) := by decide +kernel
theorem dX11_tree_50 : decode cX11_tree 50 = .ok (.aload_n 0, 1) := by decide +kernel
theorem dX11_tree_51 : decode cX11_tree 51 = .ok (.getfield 27, 3) := by decide +kernel
theorem dX11_tree_54 : decode cX11_tree 54 = .ok (.aload_n 0, 1) := by decide +kernel
theorem dX11_tree_55 : decode cX11_tree 55 = .ok (.getfield 34, 3) := by decide +kernel
theorem dX11_tree_58 : decode cX11_tree 58 = .ok (.invokevirtual 179, 3) := by decide +kernel
theorem dX11_tree_61 : decode cX11_tree 61 = .ok (.istore_n 2, 1) := by decide +kernel
theorem dX11_tree_62 : decode cX11_tree 62 = .ok (.aload_n 0, 1) := by decide +kernel
theorem dX11_tree_63 : decode cX11_tree 63 = .ok (.invokevirtual 120, 3) := by decide +kernel
theorem dX11_tree_66 : decode cX11_tree 66 = .ok (.iload_n 2, 1) := by decide +kernel
theorem dX11_tree_67 : decode cX11_tree 67 = .ok (.ireturn, 1) := by decide +kernel
theorem dX11_trade_0 : decode cX11_trade 0 = .ok (.aload_n 0, 1) := by decide +kernel
theorem dX11_trade_1 : decode cX11_trade 1 = .ok (.iload_n 1, 1) := by decide +kernel
theorem dX11_trade_2 : decode cX11_trade 2 = .ok (.invokevirtual 126, 3) := by decide +kernel
theorem dX11_trade_5 : decode cX11_trade 5 = .ok (.ifCond .eq 11, 3) := by decide +kernel
theorem dX11_trade_8 : decode cX11_trade 8 = .ok (.aload_n 0, 1) := by decide +kernel
theorem dX11_trade_9 : decode cX11_trade 9 = .ok (.iload_n 2, 1) := by decide +kernel
theorem dX11_trade_10 : decode cX11_trade 10 = .ok (.invokevirtual 126, 3) := by decide +kernel
theorem dX11_trade_13 : decode cX11_trade 13 = .ok (.ifCond .ne 5, 3) := by decide +kernel
theorem dX11_trade_16 : decode cX11_trade 16 = .ok (.iconst (-1), 1) := by decide +kernel
theorem dX11_trade_17 : decode cX11_trade 17 = .ok (.ireturn, 1) := by decide +kernel
theorem dX11_trade_18 : decode cX11_trade 18 = .ok (.aload_n 0, 1) := by decide +kernel
theorem dX11_trade_19 : decode cX11_trade 19 = .ok (.getfield 34, 3) := by decide +kernel
theorem dX11_trade_22 : decode cX11_trade 22 = .ok (.iload_n 1, 1) := by decide +kernel
theorem dX11_trade_23 : decode cX11_trade 23 = .ok (.invokevirtual 130, 3) := by decide +kernel
theorem dX11_trade_26 : decode cX11_trade 26 = .ok (.ifCond .ne 14, 3) := by decide +kernel
theorem dX11_trade_29 : decode cX11_trade 29 = .ok (.aload_n 0, 1) := by decide +kernel
theorem dX11_trade_30 : decode cX11_trade 30 = .ok (.getfield 34, 3) := by decide +kernel
theorem dX11_trade_33 : decode cX11_trade 33 = .ok (.iload_n 2, 1) := by decide +kernel
theorem dX11_trade_34 : decode cX11_trade 34 = .ok (.invokevirtual 130, 3) := by decide +kernel
theorem dX11_trade_37 : decode cX11_trade 37 = .ok (.ifCond .ne 6, 3) := by decide +kernel
theorem dX11_trade_40 : decode cX11_trade 40 = .ok (.bipush (-2), 2) := by decide +kernel
theorem dX11_trade_42 : decode cX11_trade 42 = .ok (.ireturn, 1) := by decide +kernel
theorem dX11_trade_43 : decode cX11_trade 43 = .ok (.aload_n 0, 1) := by decide +kernel
theorem dX11_trade_44 : decode cX11_trade 44 = .ok (.getfield 34, 3) := by decide +kernel
theorem dX11_trade_47 : decode cX11_trade 47 = .ok (.getfield 137, 3) := by decide +kernel
theorem dX11_trade_50 : decode cX11_trade 50 = .ok (.lconst 1, 1) := by decide +kernel
theorem dX11_trade_51 : decode cX11_trade 51 = .ok (.iload_n 2, 1) := by decide +kernel
theorem dX11_trade_52 : decode cX11_trade 52 = .ok (.lshl, 1) := by decide +kernel
theorem dX11_trade_53 : decode cX11_trade 53 = .ok (.ldc2_w 182, 3) := by decide +kernel
theorem dX11_trade_56 : decode cX11_trade 56 = .ok (.lxor, 1) := by decide +kernel
theorem dX11_trade_57 : decode cX11_trade 57 = .ok (.land, 1) := by decide +kernel
theorem dX11_trade_58 : decode cX11_trade 58 = .ok (.lstore_n 3, 1) := by decide +kernel
theorem dX11_trade_59 : decode cX11_trade 59 = .ok (.aload_n 0, 1) := by decide +kernel
theorem dX11_trade_60 : decode cX11_trade 60 = .ok (.invokevirtual 184, 3) := by decide +kernel
theorem dX11_trade_63 : decode cX11_trade 63 = .ok (.ifCond .eq 32, 3) := by decide +kernel
theorem dX11_trade_66 : decode cX11_trade 66 = .ok (.aload_n 0, 1) := by decide +kernel
theorem dX11_trade_67 : decode cX11_trade 67 = .ok (.getfield 27, 3) := by decide +kernel
theorem dX11_trade_70 : decode cX11_trade 70 = .ok (.aload_n 0, 1) := by decide +kernel
theorem dX11_trade_71 : decode cX11_trade 71 = .ok (.getfield 27, 3) := by decide +kernel
theorem dX11_trade_74 : decode cX11_trade 74 = .ok (.iload_n 1, 1) := by decide +kernel
theorem dX11_trade_75 : decode cX11_trade 75 = .ok (.iconst 0, 1) := by decide +kernel
theorem dX11_trade_76 : decode cX11_trade 76 = .ok (.invokevirtual 133, 3) := by decide +kernel
theorem dX11_trade_79 : decode cX11_trade 79 = .ok (.aload_n 0, 1) := by decide +kernel
theorem dX11_trade_80 : decode cX11_trade 80 = .ok (.getfield 27, 3) := by decide +kernel
theorem dX11_trade_83 : decode cX11_trade 83 = .ok (.iload_n 1, 1) := by decide +kernel
theorem dX11_trade_84 : decode cX11_trade 84 = .ok (.iconst 1, 1) := by decide +kernel
theorem dX11_trade_85 : decode cX11_trade 85 = .ok (.invokevirtual 133, 3) := by decide +kernel
theorem dX11_trade_88 : decode cX11_trade 88 = .ok (.lload_n 3, 1) := by decide +kernel
theorem dX11_trade_89 : decode cX11_trade 89 = .ok (.invokevirtual 141, 3) := by decide +kernel
theorem dX11_trade_92 : decode cX11_trade 92 = .ok (.ifCond .eq 6, 3) := by decide +kernel
theorem dX11_trade_95 : decode cX11_trade 95 = .ok (.bipush (-3), 2) := by decide +kernel
theorem dX11_trade_97 : decode cX11_trade 97 = .ok (.ireturn, 1) := by decide +kernel
theorem dX11_trade_98 : decode cX11_trade 98 = .ok (.aload_n 0, 1) := by decide +kernel
theorem dX11_trade_99 : decode cX11_trade 99 = .ok (.getfield 85, 3) := by decide +kernel
theorem dX11_trade_102 : decode cX11_trade 102 = .ok (.aload_n 0, 1) := by decide +kernel
theorem dX11_trade_103 : decode cX11_trade 103 = .ok (.getfield 34, 3) := by decide +kernel
theorem dX11_trade_106 : decode cX11_trade 106 = .ok (.invokevirtual 145, 3) := by decide +kernel
theorem dX11_trade_109 : decode cX11_trade 109 = .ok (.aload_n 0, 1) := by decide +kernel
theorem dX11_trade_110 : decode cX11_trade 110 = .ok (.getfield 34, 3) := by decide +kernel
theorem dX11_trade_113 : decode cX11_trade 113 = .ok (.iload_n 1, 1) := by decide +kernel
theorem dX11_trade_114 : decode cX11_trade 114 = .ok (.iload_n 2, 1) := by decide +kernel
theorem dX11_trade_115 : decode cX11_trade 115 = .ok (.invokevirtual 188, 3) := by decide +kernel
theorem dX11_trade_118 : decode cX11_trade 118 = .ok (.aload_n 0, 1) := by decide +kernel
theorem dX11_trade_119 : decode cX11_trade 119 = .ok (.invokevirtual 120, 3) := by decide +kernel
theorem dX11_trade_122 : decode cX11_trade 122 = .ok (.aload_n 0, 1) := by decide +kernel
theorem dX11_trade_123 : decode cX11_trade 123 = .ok (.getfield 41, 3) := by decide +kernel
theorem dX11_trade_126 : decode cX11_trade 126 = .ok (.iconst (-1), 1) := by decide +kernel
theorem dX11_trade_127 : decode cX11_trade 127 = .ok (.invokevirtual 192, 3) := by decide +kernel
theorem dX11_trade_130 : decode cX11_trade 130 = .ok (.ireturn, 1) := by decide +kernel
theorem dX11_mend_0 : decode cX11_mend 0 = .ok (.aload_n 0, 1) := by decide +kernel
theorem dX11_mend_1 : decode cX11_mend 1 = .ok (.invokevirtual 184, 3) := by decide +kernel
theorem dX11_mend_4 : decode cX11_mend 4 = .ok (.ifCond .ne 5, 3) := by decide +kernel
theorem dX11_mend_7 : decode cX11_mend 7 = .ok (.iconst (-1), 1) := by decide +kernel
theorem dX11_mend_8 : decode cX11_mend 8 = .ok (.ireturn, 1) := by decide +kernel
theorem dX11_mend_9 : decode cX11_mend 9 = .ok (.aload_n 0, 1) := by decide +kernel
theorem dX11_mend_10 : decode cX11_mend 10 = .ok (.getfield 85, 3) := by decide +kernel
theorem dX11_mend_13 : decode cX11_mend 13 = .ok (.aload_n 0, 1) := by decide +kernel
theorem dX11_mend_14 : decode cX11_mend 14 = .ok (.getfield 34, 3) := by decide +kernel
theorem dX11_mend_17 : decode cX11_mend 17 = .ok (.invokevirtual 145, 3) := by decide +kernel
theorem dX11_mend_20 : decode cX11_mend 20 = .ok (.iconst 0, 1) := by decide +kernel
theorem dX11_mend_21 : decode cX11_mend 21 = .ok (.istore_n 1, 1) := by decide +kernel
theorem dX11_mend_22 : decode cX11_mend 22 = .ok (.iload_n 1, 1) := by decide +kernel
theorem dX11_mend_23 : decode cX11_mend 23 = .ok (.sipush 435, 3) := by decide +kernel
theorem dX11_mend_26 : decode cX11_mend 26 = .ok (.if_icmp .ge 77, 3) := by decide +kernel
theorem dX11_mend_29 : decode cX11_mend 29 = .ok (.aload_n 0, 1) := by decide +kernel
theorem dX11_mend_30 : decode cX11_mend 30 = .ok (.getfield 50, 3) := by decide +kernel
theorem dX11_mend_33 : decode cX11_mend 33 = .ok (.aload_n 0, 1) := by decide +kernel
theorem dX11_mend_34 : decode cX11_mend 34 = .ok (.getfield 34, 3) := by decide +kernel
theorem dX11_mend_37 : decode cX11_mend 37 = .ok (.invokevirtual 195, 3) := by decide +kernel
theorem dX11_mend_40 : decode cX11_mend 40 = .ok (.aload_n 0, 1) := by decide +kernel
theorem dX11_mend_41 : decode cX11_mend 41 = .ok (.getfield 50, 3) := by decide +kernel
theorem dX11_mend_44 : decode cX11_mend 44 = .ok (.getfield 198, 3) := by decide +kernel
theorem dX11_mend_47 : decode cX11_mend 47 = .ok (.iconst (-1), 1) := by decide +kernel
theorem dX11_mend_48 : decode cX11_mend 48 = .ok (.if_icmp .eq 55, 3) := by decide +kernel
theorem dX11_mend_51 : decode cX11_mend 51 = .ok (.aload_n 0, 1) := by decide +kernel
theorem dX11_mend_52 : decode cX11_mend 52 = .ok (.getfield 50, 3) := by decide +kernel
theorem dX11_mend_55 : decode cX11_mend 55 = .ok (.getfield 201, 3) := by decide +kernel
theorem dX11_mend_58 : decode cX11_mend 58 = .ok (.aload_n 0, 1) := by decide +kernel
theorem dX11_mend_59 : decode cX11_mend 59 = .ok (.getfield 41, 3) := by decide +kernel
theorem dX11_mend_62 : decode cX11_mend 62 = .ok (.iconst (-1), 1) := by decide +kernel
theorem dX11_mend_63 : decode cX11_mend 63 = .ok (.invokevirtual 192, 3) := by decide +kernel
theorem dX11_mend_66 : decode cX11_mend 66 = .ok (.if_icmp .lt 6, 3) := by decide +kernel
theorem dX11_mend_69 : decode cX11_mend 69 = .ok (.goto 34, 3) := by decide +kernel
theorem dX11_mend_72 : decode cX11_mend 72 = .ok (.aload_n 0, 1) := by decide +kernel
theorem dX11_mend_73 : decode cX11_mend 73 = .ok (.getfield 34, 3) := by decide +kernel
theorem dX11_mend_76 : decode cX11_mend 76 = .ok (.aload_n 0, 1) := by decide +kernel
theorem dX11_mend_77 : decode cX11_mend 77 = .ok (.getfield 50, 3) := by decide +kernel
theorem dX11_mend_80 : decode cX11_mend 80 = .ok (.getfield 198, 3) := by decide +kernel
theorem dX11_mend_83 : decode cX11_mend 83 = .ok (.aload_n 0, 1) := by decide +kernel
theorem dX11_mend_84 : decode cX11_mend 84 = .ok (.getfield 50, 3) := by decide +kernel
theorem dX11_mend_87 : decode cX11_mend 87 = .ok (.getfield 204, 3) := by decide +kernel
theorem dX11_mend_90 : decode cX11_mend 90 = .ok (.invokevirtual 188, 3) := by decide +kernel
theorem dX11_mend_93 : decode cX11_mend 93 = .ok (.aload_n 0, 1) := by decide +kernel
theorem dX11_mend_94 : decode cX11_mend 94 = .ok (.invokevirtual 120, 3) := by decide +kernel
theorem dX11_mend_97 : decode cX11_mend 97 = .ok (.iinc 1 1, 3) := by decide +kernel
theorem dX11_mend_100 : decode cX11_mend 100 = .ok (.goto (-78), 3) := by decide +kernel
theorem dX11_mend_103 : decode cX11_mend 103 = .ok (.iload_n 1, 1) := by decide +kernel
theorem dX11_mend_104 : decode cX11_mend 104 = .ok (.ireturn, 1) := by decide +kernel
theorem dX11_seek_0 : decode cX11_seek 0 = .ok (.aload_n 0, 1) := by decide +kernel
theorem dX11_seek_1 : decode cX11_seek 1 = .ok (.getfield 27, 3) := by decide +kernel
theorem dX11_seek_4 : decode cX11_seek 4 = .ok (.getfield 123, 3) := by decide +kernel
theorem dX11_seek_7 : decode cX11_seek 7 = .ok (.ifCond .ne 5, 3) := by decide +kernel
theorem dX11_seek_10 : decode cX11_seek 10 = .ok (.iconst (-1), 1) := by decide +kernel
theorem dX11_seek_11 : decode cX11_seek 11 = .ok (.ireturn, 1) := by decide +kernel
theorem dX11_seek_12 : decode cX11_seek 12 = .ok (.aload_n 0, 1) := by decide +kernel
theorem dX11_seek_13 : decode cX11_seek 13 = .ok (.getfield 57, 3) := by decide +kernel
theorem dX11_seek_16 : decode cX11_seek 16 = .ok (.aload_n 0, 1) := by decide +kernel
theorem dX11_seek_17 : decode cX11_seek 17 = .ok (.getfield 27, 3) := by decide +kernel
theorem dX11_seek_20 : decode cX11_seek 20 = .ok (.aload_n 0, 1) := by decide +kernel
theorem dX11_seek_21 : decode cX11_seek 21 = .ok (.getfield 34, 3) := by decide +kernel
theorem dX11_seek_24 : decode cX11_seek 24 = .ok (.getfield 162, 3) := by decide +kernel
theorem dX11_seek_27 : decode cX11_seek 27 = .ok (.invokevirtual 207, 3) := by decide +kernel
theorem dX11_seek_30 : decode cX11_seek 30 = .ok (.istore_n 1, 1) := by decide +kernel
theorem dX11_seek_31 : decode cX11_seek 31 = .ok (.iload_n 1, 1) := by decide +kernel
theorem dX11_seek_32 : decode cX11_seek 32 = .ok (.ifCond .ge 5, 3) := by decide +kernel
theorem dX11_seek_35 : decode cX11_seek 35 = .ok (.iload_n 1, 1) := by decide +kernel
theorem dX11_seek_36 : decode cX11_seek 36 = .ok (.ireturn, 1) := by decide +kernel
theorem dX11_seek_37 : decode cX11_seek 37 = .ok (.aload_n 0, 1) := by decide +kernel
theorem dX11_seek_38 : decode cX11_seek 38 = .ok (.getfield 85, 3) := by decide +kernel
theorem dX11_seek_41 : decode cX11_seek 41 = .ok (.aload_n 0, 1) := by decide +kernel
theorem dX11_seek_42 : decode cX11_seek 42 = .ok (.getfield 34, 3) := by decide +kernel
theorem dX11_seek_45 : decode cX11_seek 45 = .ok (.invokevirtual 145, 3) := by decide +kernel
theorem dX11_seek_48 : decode cX11_seek 48 = .ok (.aload_n 0, 1) := by decide +kernel
theorem dX11_seek_49 : decode cX11_seek 49 = .ok (.getfield 34, 3) := by decide +kernel
theorem dX11_seek_52 : decode cX11_seek 52 = .ok (.aload_n 0, 1) := by decide +kernel
theorem dX11_seek_53 : decode cX11_seek 53 = .ok (.getfield 57, 3) := by decide +kernel
theorem dX11_seek_56 : decode cX11_seek 56 = .ok (.getfield 211, 3) := by decide +kernel
theorem dX11_seek_59 : decode cX11_seek 59 = .ok (.putfield 137, 3) := by decide +kernel
theorem dX11_seek_62 : decode cX11_seek 62 = .ok (.aload_n 0, 1) := by decide +kernel
theorem dX11_seek_63 : decode cX11_seek 63 = .ok (.invokevirtual 120, 3) := by decide +kernel
theorem dX11_seek_66 : decode cX11_seek 66 = .ok (.iload_n 1, 1) := by decide +kernel
theorem dX11_seek_67 : decode cX11_seek 67 = .ok (.ireturn, 1) := by decide +kernel
theorem dX11_undo_0 : decode cX11_undo 0 = .ok (.aload_n 0, 1) := by decide +kernel
theorem dX11_undo_1 : decode cX11_undo 1 = .ok (.getfield 85, 3) := by decide +kernel
theorem dX11_undo_4 : decode cX11_undo 4 = .ok (.aload_n 0, 1) := by decide +kernel
theorem dX11_undo_5 : decode cX11_undo 5 = .ok (.getfield 34, 3) := by decide +kernel
theorem dX11_undo_8 : decode cX11_undo 8 = .ok (.invokevirtual 212, 3) := by decide +kernel
theorem dX11_undo_11 : decode cX11_undo 11 = .ok (.ifCond .ne 5, 3) := by decide +kernel
theorem dX11_undo_14 : decode cX11_undo 14 = .ok (.iconst (-1), 1) := by decide +kernel
theorem dX11_undo_15 : decode cX11_undo 15 = .ok (.ireturn, 1) := by decide +kernel
theorem dX11_undo_16 : decode cX11_undo 16 = .ok (.aload_n 0, 1) := by decide +kernel
theorem dX11_undo_17 : decode cX11_undo 17 = .ok (.invokevirtual 120, 3) := by decide +kernel
theorem dX11_undo_20 : decode cX11_undo 20 = .ok (.aload_n 0, 1) := by decide +kernel
theorem dX11_undo_21 : decode cX11_undo 21 = .ok (.getfield 85, 3) := by decide +kernel
theorem dX11_undo_24 : decode cX11_undo 24 = .ok (.getfield 216, 3) := by decide +kernel
theorem dX11_undo_27 : decode cX11_undo 27 = .ok (.ireturn, 1) := by decide +kernel
theorem dX11_keep_0 : decode cX11_keep 0 = .ok (.aload_n 0, 1) := by decide +kernel
theorem dX11_keep_1 : decode cX11_keep 1 = .ok (.iload_n 1, 1) := by decide +kernel
theorem dX11_keep_2 : decode cX11_keep 2 = .ok (.invokevirtual 219, 3) := by decide +kernel
theorem dX11_keep_5 : decode cX11_keep 5 = .ok (.ifCond .ne 5, 3) := by decide +kernel
theorem dX11_keep_8 : decode cX11_keep 8 = .ok (.iconst (-1), 1) := by decide +kernel
theorem dX11_keep_9 : decode cX11_keep 9 = .ok (.ireturn, 1) := by decide +kernel
theorem dX11_keep_10 : decode cX11_keep 10 = .ok (.aload_n 0, 1) := by decide +kernel
theorem dX11_keep_11 : decode cX11_keep 11 = .ok (.getfield 78, 3) := by decide +kernel
theorem dX11_keep_14 : decode cX11_keep 14 = .ok (.aload_n 0, 1) := by decide +kernel
theorem dX11_keep_15 : decode cX11_keep 15 = .ok (.getfield 41, 3) := by decide +kernel
theorem dX11_keep_18 : decode cX11_keep 18 = .ok (.aload_n 0, 1) := by decide +kernel
theorem dX11_keep_19 : decode cX11_keep 19 = .ok (.invokevirtual 222, 3) := by decide +kernel
theorem dX11_keep_22 : decode cX11_keep 22 = .ok (.invokevirtual 225, 3) := by decide +kernel
theorem dX11_keep_25 : decode cX11_keep 25 = .ok (.aload_n 0, 1) := by decide +kernel
theorem dX11_keep_26 : decode cX11_keep 26 = .ok (.getfield 91, 3) := by decide +kernel
theorem dX11_keep_29 : decode cX11_keep 29 = .ok (.iload_n 1, 1) := by decide +kernel
theorem dX11_keep_30 : decode cX11_keep 30 = .ok (.aaload, 1) := by decide +kernel
theorem dX11_keep_31 : decode cX11_keep 31 = .ok (.aload_n 0, 1) := by decide +kernel
theorem dX11_keep_32 : decode cX11_keep 32 = .ok (.getfield 27, 3) := by decide +kernel
theorem dX11_keep_35 : decode cX11_keep 35 = .ok (.aload_n 0, 1) := by decide +kernel
theorem dX11_keep_36 : decode cX11_keep 36 = .ok (.getfield 34, 3) := by decide +kernel
theorem dX11_keep_39 : decode cX11_keep 39 = .ok (.aload_n 0, 1) := by decide +kernel
theorem dX11_keep_40 : decode cX11_keep 40 = .ok (.getfield 78, 3) := by decide +kernel
theorem dX11_keep_43 : decode cX11_keep 43 = .ok (.invokevirtual 229, 3) := by decide +kernel
theorem dX11_keep_46 : decode cX11_keep 46 = .ok (.aload_n 0, 1) := by decide +kernel
theorem dX11_keep_47 : decode cX11_keep 47 = .ok (.getfield 34, 3) := by decide +kernel
theorem dX11_keep_50 : decode cX11_keep 50 = .ok (.invokevirtual 152, 3) := by decide +kernel
theorem dX11_keep_53 : decode cX11_keep 53 = .ok (.ireturn, 1) := by decide +kernel
theorem dX11_back_0 : decode cX11_back 0 = .ok (.aload_n 0, 1) := by decide +kernel
theorem dX11_back_1 : decode cX11_back 1 = .ok (.iload_n 1, 1) := by decide +kernel
theorem dX11_back_2 : decode cX11_back 2 = .ok (.invokevirtual 219, 3) := by decide +kernel
theorem dX11_back_5 : decode cX11_back 5 = .ok (.ifCond .ne 5, 3) := by decide +kernel
theorem dX11_back_8 : decode cX11_back 8 = .ok (.iconst (-1), 1) := by decide +kernel
theorem dX11_back_9 : decode cX11_back 9 = .ok (.ireturn, 1) := by decide +kernel
theorem dX11_back_10 : decode cX11_back 10 = .ok (.aload_n 0, 1) := by decide +kernel
theorem dX11_back_11 : decode cX11_back 11 = .ok (.getfield 91, 3) := by decide +kernel
theorem dX11_back_14 : decode cX11_back 14 = .ok (.iload_n 1, 1) := by decide +kernel
theorem dX11_back_15 : decode cX11_back 15 = .ok (.aaload, 1) := by decide +kernel
theorem dX11_back_16 : decode cX11_back 16 = .ok (.astore_n 2, 1) := by decide +kernel
theorem dX11_back_17 : decode cX11_back 17 = .ok (.aload_n 2, 1) := by decide +kernel
theorem dX11_back_18 : decode cX11_back 18 = .ok (.getfield 233, 3) := by decide +kernel
theorem dX11_back_21 : decode cX11_back 21 = .ok (.ifCond .ne 6, 3) := by decide +kernel
theorem dX11_back_24 : decode cX11_back 24 = .ok (.bipush (-2), 2) := by decide +kernel
theorem dX11_back_26 : decode cX11_back 26 = .ok (.ireturn, 1) := by decide +kernel
theorem dX11_back_27 : decode cX11_back 27 = .ok (.aload_n 0, 1) := by decide +kernel
theorem dX11_back_28 : decode cX11_back 28 = .ok (.getfield 27, 3) := by decide +kernel
theorem dX11_back_31 : decode cX11_back 31 = .ok (.aload_n 2, 1) := by decide +kernel
theorem dX11_back_32 : decode cX11_back 32 = .ok (.getfield 237, 3) := by decide +kernel
theorem dX11_back_35 : decode cX11_back 35 = .ok (.aload_n 2, 1) := by decide +kernel
theorem dX11_back_36 : decode cX11_back 36 = .ok (.getfield 238, 3) := by decide +kernel
theorem dX11_back_39 : decode cX11_back 39 = .ok (.invokevirtual 110, 3) := by decide +kernel
theorem dX11_back_42 : decode cX11_back 42 = .ok (.aload_n 0, 1) := by decide +kernel
theorem dX11_back_43 : decode cX11_back 43 = .ok (.getfield 34, 3) := by decide +kernel
theorem dX11_back_46 : decode cX11_back 46 = .ok (.aload_n 2, 1) := by decide +kernel
theorem dX11_back_47 : decode cX11_back 47 = .ok (.getfield 239, 3) := by decide +kernel
theorem dX11_back_50 : decode cX11_back 50 = .ok (.invokevirtual 240, 3) := by decide +kernel
theorem dX11_back_53 : decode cX11_back 53 = .ok (.aload_n 0, 1) := by decide +kernel
theorem dX11_back_54 : decode cX11_back 54 = .ok (.getfield 85, 3) := by decide +kernel
theorem dX11_back_57 : decode cX11_back 57 = .ok (.invokevirtual 117, 3) := by decide +kernel
theorem dX11_back_60 : decode cX11_back 60 = .ok (.aload_n 0, 1) := by decide +kernel
theorem dX11_back_61 : decode cX11_back 61 = .ok (.invokevirtual 120, 3) := by decide +kernel
theorem dX11_back_64 : decode cX11_back 64 = .ok (.aload_n 0, 1) := by decide +kernel
theorem dX11_back_65 : decode cX11_back 65 = .ok (.getfield 34, 3) := by decide +kernel
theorem dX11_back_68 : decode cX11_back 68 = .ok (.invokevirtual 152, 3) := by decide +kernel
theorem dX11_back_71 : decode cX11_back 71 = .ok (.ireturn, 1) := by decide +kernel
theorem dX11_face_0 : decode cX11_face 0 = .ok (.aload_n 0, 1) := by decide +kernel
theorem dX11_face_1 : decode cX11_face 1 = .ok (.iload_n 1, 1) := by decide +kernel
theorem dX11_face_2 : decode cX11_face 2 = .ok (.invokevirtual 159, 3) := by decide +kernel
theorem dX11_face_5 : decode cX11_face 5 = .ok (.ifCond .ne 5, 3) := by decide +kernel
theorem dX11_face_8 : decode cX11_face 8 = .ok (.iconst (-1), 1) := by decide +kernel
theorem dX11_face_9 : decode cX11_face 9 = .ok (.ireturn, 1) := by decide +kernel
theorem dX11_face_10 : decode cX11_face 10 = .ok (.iload_n 2, 1) := by decide +kernel
theorem dX11_face_11 : decode cX11_face 11 = .ok (.tableswitch 72 0 3 #[29, 39, 49, 55], 29) := by decide +kernel
theorem dX11_face_40 : decode cX11_face 40 = .ok (.aload_n 0, 1) := by decide +kernel
theorem dX11_face_41 : decode cX11_face 41 = .ok (.getfield 27, 3) := by decide +kernel
theorem dX11_face_44 : decode cX11_face 44 = .ok (.getfield 243, 3) := by decide +kernel
theorem dX11_face_47 : decode cX11_face 47 = .ok (.iload_n 1, 1) := by decide +kernel
theorem dX11_face_48 : decode cX11_face 48 = .ok (.iaload, 1) := by decide +kernel
theorem dX11_face_49 : decode cX11_face 49 = .ok (.ireturn, 1) := by decide +kernel
theorem dX11_face_50 : decode cX11_face 50 = .ok (.aload_n 0, 1) := by decide +kernel
theorem dX11_face_51 : decode cX11_face 51 = .ok (.getfield 27, 3) := by decide +kernel
theorem dX11_face_54 : decode cX11_face 54 = .ok (.getfield 246, 3) := by decide +kernel
theorem dX11_face_57 : decode cX11_face 57 = .ok (.iload_n 1, 1) := by decide +kernel
theorem dX11_face_58 : decode cX11_face 58 = .ok (.iaload, 1) := by decide +kernel
theorem dX11_face_59 : decode cX11_face 59 = .ok (.ireturn, 1) := by decide +kernel
theorem dX11_face_60 : decode cX11_face 60 = .ok (.aload_n 0, 1) := by decide +kernel
theorem dX11_face_61 : decode cX11_face 61 = .ok (.iload_n 1, 1) := by decide +kernel
theorem dX11_face_62 : decode cX11_face 62 = .ok (.invokevirtual 249, 3) := by decide +kernel
theorem dX11_face_65 : decode cX11_face 65 = .ok (.ireturn, 1) := by decide +kernel
theorem dX11_face_66 : decode cX11_face 66 = .ok (.aload_n 0, 1) := by decide +kernel
theorem dX11_face_67 : decode cX11_face 67 = .ok (.getfield 41, 3) := by decide +kernel
theorem dX11_face_70 : decode cX11_face 70 = .ok (.iload_n 1, 1) := by decide +kernel
theorem dX11_face_71 : decode cX11_face 71 = .ok (.invokevirtual 252, 3) := by decide +kernel
theorem dX11_face_74 : decode cX11_face 74 = .ok (.ifCond .eq 7, 3) := by decide +kernel
theorem dX11_face_77 : decode cX11_face 77 = .ok (.iconst 1, 1) := by decide +kernel
theorem dX11_face_78 : decode cX11_face 78 = .ok (.goto 4, 3) := by decide +kernel
theorem dX11_face_81 : decode cX11_face 81 = .ok (.iconst 0, 1) := by decide +kernel
theorem dX11_face_82 : decode cX11_face 82 = .ok (.ireturn, 1) := by decide +kernel
theorem dX11_face_83 : decode cX11_face 83 = .ok (.iconst (-1), 1) := by decide +kernel
theorem dX11_face_84 : decode cX11_face 84 = .ok (.ireturn, 1) := by decide +kernel
theorem dX11_hingesOf_0 : decode cX11_hingesOf 0 = .ok (.iconst 0, 1) := by decide +kernel
theorem dX11_hingesOf_1 : decode cX11_hingesOf 1 = .ok (.istore_n 2, 1) := by decide +kernel
theorem dX11_hingesOf_2 : decode cX11_hingesOf 2 = .ok (.iconst 0, 1) := by decide +kernel
theorem dX11_hingesOf_3 : decode cX11_hingesOf 3 = .ok (.istore_n 3, 1) := by decide +kernel
theorem dX11_hingesOf_4 : decode cX11_hingesOf 4 = .ok (.iload_n 3, 1) := by decide +kernel
theorem dX11_hingesOf_5 : decode cX11_hingesOf 5 = .ok (.iconst 4, 1) := by decide +kernel
theorem dX11_hingesOf_6 : decode cX11_hingesOf 6 = .ok (.if_icmp .ge 35, 3) := by decide +kernel
theorem dX11_hingesOf_9 : decode cX11_hingesOf 9 = .ok (.aload_n 0, 1) := by decide +kernel
theorem dX11_hingesOf_10 : decode cX11_hingesOf 10 = .ok (.getfield 34, 3) := by decide +kernel
theorem dX11_hingesOf_13 : decode cX11_hingesOf 13 = .ok (.aload_n 0, 1) := by decide +kernel
theorem dX11_hingesOf_14 : decode cX11_hingesOf 14 = .ok (.getfield 27, 3) := by decide +kernel
theorem dX11_hingesOf_17 : decode cX11_hingesOf 17 = .ok (.getfield 255, 3) := by decide +kernel
theorem dX11_hingesOf_20 : decode cX11_hingesOf 20 = .ok (.iconst 4, 1) := by decide +kernel
theorem dX11_hingesOf_21 : decode cX11_hingesOf 21 = .ok (.iload_n 1, 1) := by decide +kernel
theorem dX11_hingesOf_22 : decode cX11_hingesOf 22 = .ok (.imul, 1) := by decide +kernel
theorem dX11_hingesOf_23 : decode cX11_hingesOf 23 = .ok (.iload_n 3, 1) := by decide +kernel
theorem dX11_hingesOf_24 : decode cX11_hingesOf 24 = .ok (.iadd, 1) := by decide +kernel
theorem dX11_hingesOf_25 : decode cX11_hingesOf 25 = .ok (.iaload, 1) := by decide +kernel
theorem dX11_hingesOf_26 : decode cX11_hingesOf 26 = .ok (.invokevirtual 130, 3) := by decide +kernel
theorem dX11_hingesOf_29 : decode cX11_hingesOf 29 = .ok (.ifCond .eq 6, 3) := by decide +kernel
theorem dX11_hingesOf_32 : decode cX11_hingesOf 32 = .ok (.iinc 2 1, 3) := by decide +kernel
theorem dX11_hingesOf_35 : decode cX11_hingesOf 35 = .ok (.iinc 3 1, 3) := by decide +kernel
theorem dX11_hingesOf_38 : decode cX11_hingesOf 38 = .ok (.goto (-34), 3) := by decide +kernel
theorem dX11_hingesOf_41 : decode cX11_hingesOf 41 = .ok (.iload_n 2, 1) := by decide +kernel
theorem dX11_hingesOf_42 : decode cX11_hingesOf 42 = .ok (.ireturn, 1) := by decide +kernel
theorem dX11_side_0 : decode cX11_side 0 = .ok (.aload_n 0, 1) := by decide +kernel
theorem dX11_side_1 : decode cX11_side 1 = .ok (.iload_n 1, 1) := by decide +kernel
theorem dX11_side_2 : decode cX11_side 2 = .ok (.invokevirtual 159, 3) := by decide +kernel
theorem dX11_side_5 : decode cX11_side 5 = .ok (.ifCond .eq 12, 3) := by decide +kernel
theorem dX11_side_8 : decode cX11_side 8 = .ok (.iload_n 2, 1) := by decide +kernel
theorem dX11_side_9 : decode cX11_side 9 = .ok (.ifCond .lt 8, 3) := by decide +kernel
theorem dX11_side_12 : decode cX11_side 12 = .ok (.iload_n 2, 1) := by decide +kernel
theorem dX11_side_13 : decode cX11_side 13 = .ok (.iconst 3, 1) := by decide +kernel
theorem dX11_side_14 : decode cX11_side 14 = .ok (.if_icmp .le 5, 3) := by decide +kernel
theorem dX11_side_17 : decode cX11_side 17 = .ok (.iconst (-1), 1) := by decide +kernel
theorem dX11_side_18 : decode cX11_side 18 = .ok (.ireturn, 1) := by decide +kernel
theorem dX11_side_19 : decode cX11_side 19 = .ok (.iconst 4, 1) := by decide +kernel
theorem dX11_side_20 : decode cX11_side 20 = .ok (.iload_n 1, 1) := by decide +kernel
theorem dX11_side_21 : decode cX11_side 21 = .ok (.imul, 1) := by decide +kernel
theorem dX11_side_22 : decode cX11_side 22 = .ok (.iload_n 2, 1) := by decide +kernel
theorem dX11_side_23 : decode cX11_side 23 = .ok (.iadd, 1) := by decide +kernel
theorem dX11_side_24 : decode cX11_side 24 = .ok (.istore 4, 2) := by decide +kernel
theorem dX11_side_26 : decode cX11_side 26 = .ok (.iload_n 3, 1) := by decide +kernel
theorem dX11_side_27 : decode cX11_side 27 = .ok (.tableswitch 62 0 2 #[25, 36, 49], 25) := by decide +kernel
theorem dX11_side_52 : decode cX11_side 52 = .ok (.aload_n 0, 1) := by decide +kernel
theorem dX11_side_53 : decode cX11_side 53 = .ok (.getfield 27, 3) := by decide +kernel
theorem dX11_side_56 : decode cX11_side 56 = .ok (.getfield 255, 3) := by decide +kernel
theorem dX11_side_59 : decode cX11_side 59 = .ok (.iload 4, 2) := by decide +kernel
theorem dX11_side_61 : decode cX11_side 61 = .ok (.iaload, 1) := by decide +kernel
theorem dX11_side_62 : decode cX11_side 62 = .ok (.ireturn, 1) := by decide +kernel
theorem dX11_side_63 : decode cX11_side 63 = .ok (.aload_n 0, 1) := by decide +kernel
theorem dX11_side_64 : decode cX11_side 64 = .ok (.getfield 27, 3) := by decide +kernel
theorem dX11_side_67 : decode cX11_side 67 = .ok (.getfield 258, 3) := by decide +kernel
theorem dX11_side_70 : decode cX11_side 70 = .ok (.iload 4, 2) := by decide +kernel
theorem dX11_side_72 : decode cX11_side 72 = .ok (.iaload, 1) := by decide +kernel
theorem dX11_side_73 : decode cX11_side 73 = .ok (.iconst 2, 1) := by decide +kernel
theorem dX11_side_74 : decode cX11_side 74 = .ok (.ishr, 1) := by decide +kernel
theorem dX11_side_75 : decode cX11_side 75 = .ok (.ireturn, 1) := by decide +kernel
theorem dX11_side_76 : decode cX11_side 76 = .ok (.aload_n 0, 1) := by decide +kernel
theorem dX11_side_77 : decode cX11_side 77 = .ok (.getfield 27, 3) := by decide +kernel
theorem dX11_side_80 : decode cX11_side 80 = .ok (.getfield 258, 3) := by decide +kernel
theorem dX11_side_83 : decode cX11_side 83 = .ok (.iload 4, 2) := by decide +kernel
theorem dX11_side_85 : decode cX11_side 85 = .ok (.iaload, 1) := by decide +kernel
theorem dX11_side_86 : decode cX11_side 86 = .ok (.iconst 3, 1) := by decide +kernel
theorem dX11_side_87 : decode cX11_side 87 = .ok (.iand, 1) := by decide +kernel
theorem dX11_side_88 : decode cX11_side 88 = .ok (.ireturn, 1) := by decide +kernel
theorem dX11_side_89 : decode cX11_side 89 = .ok (.iconst (-1), 1) := by decide +kernel
theorem dX11_side_90 : decode cX11_side 90 = .ok (.ireturn, 1) := by decide +kernel
theorem dX11_edge_0 : decode cX11_edge 0 = .ok (.aload_n 0, 1) := by decide +kernel
theorem dX11_edge_1 : decode cX11_edge 1 = .ok (.iload_n 1, 1) := by decide +kernel
theorem dX11_edge_2 : decode cX11_edge 2 = .ok (.invokevirtual 126, 3) := by decide +kernel
theorem dX11_edge_5 : decode cX11_edge 5 = .ok (.ifCond .ne 5, 3) := by decide +kernel
theorem dX11_edge_8 : decode cX11_edge 8 = .ok (.iconst (-1), 1) := by decide +kernel
theorem dX11_edge_9 : decode cX11_edge 9 = .ok (.ireturn, 1) := by decide +kernel
theorem dX11_edge_10 : decode cX11_edge 10 = .ok (.iload_n 2, 1) := by decide +kernel
theorem dX11_edge_11 : decode cX11_edge 11 = .ok (.tableswitch 124 0 7 #[45, 45, 55, 55, 73, 83, 93, 110], 45) := by decide +kernel
theorem dX11_edge_56 : decode cX11_edge 56 = .ok (.aload_n 0, 1) := by decide +kernel
theorem dX11_edge_57 : decode cX11_edge 57 = .ok (.getfield 27, 3) := by decide +kernel
theorem dX11_edge_60 : decode cX11_edge 60 = .ok (.iload_n 1, 1) := by decide +kernel
theorem dX11_edge_61 : decode cX11_edge 61 = .ok (.iload_n 2, 1) := by decide +kernel
theorem dX11_edge_62 : decode cX11_edge 62 = .ok (.invokevirtual 133, 3) := by decide +kernel
theorem dX11_edge_65 : decode cX11_edge 65 = .ok (.ireturn, 1) := by decide +kernel
theorem dX11_edge_66 : decode cX11_edge 66 = .ok (.aload_n 0, 1) := by decide +kernel
theorem dX11_edge_67 : decode cX11_edge 67 = .ok (.getfield 27, 3) := by decide +kernel
theorem dX11_edge_70 : decode cX11_edge 70 = .ok (.getfield 261, 3) := by decide +kernel
theorem dX11_edge_73 : decode cX11_edge 73 = .ok (.iconst 2, 1) := by decide +kernel
theorem dX11_edge_74 : decode cX11_edge 74 = .ok (.iload_n 1, 1) := by decide +kernel
theorem dX11_edge_75 : decode cX11_edge 75 = .ok (.imul, 1) := by decide +kernel
theorem dX11_edge_76 : decode cX11_edge 76 = .ok (.iload_n 2, 1) := by decide +kernel
theorem dX11_edge_77 : decode cX11_edge 77 = .ok (.iadd, 1) := by decide +kernel
theorem dX11_edge_78 : decode cX11_edge 78 = .ok (.iconst 2, 1) := by decide +kernel
theorem dX11_edge_79 : decode cX11_edge 79 = .ok (.isub, 1) := by decide +kernel
theorem dX11_edge_80 : decode cX11_edge 80 = .ok (.iaload, 1) := by decide +kernel
theorem dX11_edge_81 : decode cX11_edge 81 = .ok (.iconst 3, 1) := by decide +kernel
theorem dX11_edge_82 : decode cX11_edge 82 = .ok (.iand, 1) := by decide +kernel
theorem dX11_edge_83 : decode cX11_edge 83 = .ok (.ireturn, 1) := by decide +kernel
theorem dX11_edge_84 : decode cX11_edge 84 = .ok (.aload_n 0, 1) := by decide +kernel
theorem dX11_edge_85 : decode cX11_edge 85 = .ok (.getfield 27, 3) := by decide +kernel
theorem dX11_edge_88 : decode cX11_edge 88 = .ok (.getfield 264, 3) := by decide +kernel
theorem dX11_edge_91 : decode cX11_edge 91 = .ok (.iload_n 1, 1) := by decide +kernel
theorem dX11_edge_92 : decode cX11_edge 92 = .ok (.iaload, 1) := by decide +kernel
theorem dX11_edge_93 : decode cX11_edge 93 = .ok (.ireturn, 1) := by decide +kernel
theorem dX11_edge_94 : decode cX11_edge 94 = .ok (.aload_n 0, 1) := by decide +kernel
theorem dX11_edge_95 : decode cX11_edge 95 = .ok (.getfield 34, 3) := by decide +kernel
theorem dX11_edge_98 : decode cX11_edge 98 = .ok (.getfield 165, 3) := by decide +kernel
theorem dX11_edge_101 : decode cX11_edge 101 = .ok (.iload_n 1, 1) := by decide +kernel
theorem dX11_edge_102 : decode cX11_edge 102 = .ok (.iaload, 1) := by decide +kernel
theorem dX11_edge_103 : decode cX11_edge 103 = .ok (.ireturn, 1) := by decide +kernel
theorem dX11_edge_104 : decode cX11_edge 104 = .ok (.aload_n 0, 1) := by decide +kernel
theorem dX11_edge_105 : decode cX11_edge 105 = .ok (.getfield 34, 3) := by decide +kernel
theorem dX11_edge_108 : decode cX11_edge 108 = .ok (.iload_n 1, 1) := by decide +kernel
theorem dX11_edge_109 : decode cX11_edge 109 = .ok (.invokevirtual 130, 3) := by decide +kernel
theorem dX11_edge_112 : decode cX11_edge 112 = .ok (.ifCond .eq 7, 3) := by decide +kernel
theorem dX11_edge_115 : decode cX11_edge 115 = .ok (.iconst 1, 1) := by decide +kernel
theorem dX11_edge_116 : decode cX11_edge 116 = .ok (.goto 4, 3) := by decide +kernel
theorem dX11_edge_119 : decode cX11_edge 119 = .ok (.iconst 0, 1) := by decide +kernel
theorem dX11_edge_120 : decode cX11_edge 120 = .ok (.ireturn, 1) := by decide +kernel
theorem dX11_edge_121 : decode cX11_edge 121 = .ok (.aload_n 0, 1) := by decide +kernel
theorem dX11_edge_122 : decode cX11_edge 122 = .ok (.iload_n 1, 1) := by decide +kernel
theorem dX11_edge_123 : decode cX11_edge 123 = .ok (.invokevirtual 267, 3) := by decide +kernel
theorem dX11_edge_126 : decode cX11_edge 126 = .ok (.ifCond .eq 7, 3) := by decide +kernel
theorem dX11_edge_129 : decode cX11_edge 129 = .ok (.iconst 1, 1) := by decide +kernel
theorem dX11_edge_130 : decode cX11_edge 130 = .ok (.goto 4, 3) := by decide +kernel
theorem dX11_edge_133 : decode cX11_edge 133 = .ok (.iconst 0, 1) := by decide +kernel
theorem dX11_edge_134 : decode cX11_edge 134 = .ok (.ireturn, 1) := by decide +kernel
theorem dX11_edge_135 : decode cX11_edge 135 = .ok (.iconst (-1), 1) := by decide +kernel
theorem dX11_edge_136 : decode cX11_edge 136 = .ok (.ireturn, 1) := by decide +kernel
theorem dX11_corner_0 : decode cX11_corner 0 = .ok (.aload_n 0, 1) := by decide +kernel
theorem dX11_corner_1 : decode cX11_corner 1 = .ok (.iload_n 1, 1) := by decide +kernel
theorem dX11_corner_2 : decode cX11_corner 2 = .ok (.invokevirtual 159, 3) := by decide +kernel
theorem dX11_corner_5 : decode cX11_corner 5 = .ok (.ifCond .eq 12, 3) := by decide +kernel
theorem dX11_corner_8 : decode cX11_corner 8 = .ok (.iload_n 2, 1) := by decide +kernel
theorem dX11_corner_9 : decode cX11_corner 9 = .ok (.ifCond .lt 8, 3) := by decide +kernel
theorem dX11_corner_12 : decode cX11_corner 12 = .ok (.iload_n 2, 1) := by decide +kernel
theorem dX11_corner_13 : decode cX11_corner 13 = .ok (.iconst 3, 1) := by decide +kernel
theorem dX11_corner_14 : decode cX11_corner 14 = .ok (.if_icmp .le 5, 3) := by decide +kernel
theorem dX11_corner_17 : decode cX11_corner 17 = .ok (.iconst (-1), 1) := by decide +kernel
theorem dX11_corner_18 : decode cX11_corner 18 = .ok (.ireturn, 1) := by decide +kernel
theorem dX11_corner_19 : decode cX11_corner 19 = .ok (.aload_n 0, 1) := by decide +kernel
theorem dX11_corner_20 : decode cX11_corner 20 = .ok (.getfield 27, 3) := by decide +kernel
theorem dX11_corner_23 : decode cX11_corner 23 = .ok (.getfield 270, 3) := by decide +kernel
theorem dX11_corner_26 : decode cX11_corner 26 = .ok (.iconst 4, 1) := by decide +kernel
theorem dX11_corner_27 : decode cX11_corner 27 = .ok (.iload_n 1, 1) := by decide +kernel
theorem dX11_corner_28 : decode cX11_corner 28 = .ok (.imul, 1) := by decide +kernel
theorem dX11_corner_29 : decode cX11_corner 29 = .ok (.iload_n 2, 1) := by decide +kernel
theorem dX11_corner_30 : decode cX11_corner 30 = .ok (.iadd, 1) := by decide +kernel
theorem dX11_corner_31 : decode cX11_corner 31 = .ok (.iaload, 1) := by decide +kernel
theorem dX11_corner_32 : decode cX11_corner 32 = .ok (.istore 4, 2) := by decide +kernel
theorem dX11_corner_34 : decode cX11_corner 34 = .ok (.iload_n 3, 1) := by decide +kernel
theorem dX11_corner_35 : decode cX11_corner 35 = .ok (.lookupswitch 52 #[(0, 25), (1, 28)], 25) := by decide +kernel
theorem dX11_corner_60 : decode cX11_corner 60 = .ok (.iload 4, 2) := by decide +kernel
theorem dX11_corner_62 : decode cX11_corner 62 = .ok (.ireturn, 1) := by decide +kernel
theorem dX11_corner_63 : decode cX11_corner 63 = .ok (.aload_n 0, 1) := by decide +kernel
theorem dX11_corner_64 : decode cX11_corner 64 = .ok (.iload 4, 2) := by decide +kernel
theorem dX11_corner_66 : decode cX11_corner 66 = .ok (.invokevirtual 273, 3) := by decide +kernel
theorem dX11_corner_69 : decode cX11_corner 69 = .ok (.ifCond .eq 16, 3) := by decide +kernel
theorem dX11_corner_72 : decode cX11_corner 72 = .ok (.aload_n 0, 1) := by decide +kernel
theorem dX11_corner_73 : decode cX11_corner 73 = .ok (.getfield 27, 3) := by decide +kernel
theorem dX11_corner_76 : decode cX11_corner 76 = .ok (.getfield 276, 3) := by decide +kernel
theorem dX11_corner_79 : decode cX11_corner 79 = .ok (.iload 4, 2) := by decide +kernel
theorem dX11_corner_81 : decode cX11_corner 81 = .ok (.iaload, 1) := by decide +kernel
theorem dX11_corner_82 : decode cX11_corner 82 = .ok (.goto 4, 3) := by decide +kernel
theorem dX11_corner_85 : decode cX11_corner 85 = .ok (.iconst (-1), 1) := by decide +kernel
theorem dX11_corner_86 : decode cX11_corner 86 = .ok (.ireturn, 1) := by decide +kernel
theorem dX11_corner_87 : decode cX11_corner 87 = .ok (.iconst (-1), 1) := by decide +kernel
theorem dX11_corner_88 : decode cX11_corner 88 = .ok (.ireturn, 1) := by decide +kernel
theorem dX11_vertex_0 : decode cX11_vertex 0 = .ok (.aload_n 0, 1) := by decide +kernel
theorem dX11_vertex_1 : decode cX11_vertex 1 = .ok (.iload_n 1, 1) := by decide +kernel
theorem dX11_vertex_2 : decode cX11_vertex 2 = .ok (.invokevirtual 273, 3) := by decide +kernel
theorem dX11_vertex_5 : decode cX11_vertex 5 = .ok (.ifCond .ne 5, 3) := by decide +kernel
theorem dX11_vertex_8 : decode cX11_vertex 8 = .ok (.iconst (-1), 1) := by decide +kernel
theorem dX11_vertex_9 : decode cX11_vertex 9 = .ok (.ireturn, 1) := by decide +kernel
theorem dX11_vertex_10 : decode cX11_vertex 10 = .ok (.iload_n 2, 1) := by decide +kernel
theorem dX11_vertex_11 : decode cX11_vertex 11 = .ok (.tableswitch 53 0 2 #[25, 35, 47], 25) := by decide +kernel
theorem dX11_vertex_36 : decode cX11_vertex 36 = .ok (.aload_n 0, 1) := by decide +kernel
theorem dX11_vertex_37 : decode cX11_vertex 37 = .ok (.getfield 27, 3) := by decide +kernel
theorem dX11_vertex_40 : decode cX11_vertex 40 = .ok (.getfield 276, 3) := by decide +kernel
theorem dX11_vertex_43 : decode cX11_vertex 43 = .ok (.iload_n 1, 1) := by decide +kernel
theorem dX11_vertex_44 : decode cX11_vertex 44 = .ok (.iaload, 1) := by decide +kernel
theorem dX11_vertex_45 : decode cX11_vertex 45 = .ok (.ireturn, 1) := by decide +kernel
theorem dX11_vertex_46 : decode cX11_vertex 46 = .ok (.iconst 4, 1) := by decide +kernel
theorem dX11_vertex_47 : decode cX11_vertex 47 = .ok (.aload_n 0, 1) := by decide +kernel
theorem dX11_vertex_48 : decode cX11_vertex 48 = .ok (.getfield 27, 3) := by decide +kernel
theorem dX11_vertex_51 : decode cX11_vertex 51 = .ok (.getfield 276, 3) := by decide +kernel
theorem dX11_vertex_54 : decode cX11_vertex 54 = .ok (.iload_n 1, 1) := by decide +kernel
theorem dX11_vertex_55 : decode cX11_vertex 55 = .ok (.iaload, 1) := by decide +kernel
theorem dX11_vertex_56 : decode cX11_vertex 56 = .ok (.isub, 1) := by decide +kernel
theorem dX11_vertex_57 : decode cX11_vertex 57 = .ok (.ireturn, 1) := by decide +kernel
theorem dX11_vertex_58 : decode cX11_vertex 58 = .ok (.aload_n 0, 1) := by decide +kernel
theorem dX11_vertex_59 : decode cX11_vertex 59 = .ok (.iload_n 1, 1) := by decide +kernel
theorem dX11_vertex_60 : decode cX11_vertex 60 = .ok (.invokevirtual 279, 3) := by decide +kernel
theorem dX11_vertex_63 : decode cX11_vertex 63 = .ok (.ireturn, 1) := by decide +kernel
theorem dX11_vertex_64 : decode cX11_vertex 64 = .ok (.iconst (-1), 1) := by decide +kernel
theorem dX11_vertex_65 : decode cX11_vertex 65 = .ok (.ireturn, 1) := by decide +kernel
theorem dX11_cutsAt_0 : decode cX11_cutsAt 0 = .ok (.iconst 0, 1) := by decide +kernel
theorem dX11_cutsAt_1 : decode cX11_cutsAt 1 = .ok (.istore_n 2, 1) := by decide +kernel
theorem dX11_cutsAt_2 : decode cX11_cutsAt 2 = .ok (.iconst 0, 1) := by decide +kernel
theorem dX11_cutsAt_3 : decode cX11_cutsAt 3 = .ok (.istore_n 3, 1) := by decide +kernel
theorem dX11_cutsAt_4 : decode cX11_cutsAt 4 = .ok (.iload_n 3, 1) := by decide +kernel
theorem dX11_cutsAt_5 : decode cX11_cutsAt 5 = .ok (.iconst 4, 1) := by decide +kernel
theorem dX11_cutsAt_6 : decode cX11_cutsAt 6 = .ok (.aload_n 0, 1) := by decide +kernel
theorem dX11_cutsAt_7 : decode cX11_cutsAt 7 = .ok (.getfield 27, 3) := by decide +kernel
theorem dX11_cutsAt_10 : decode cX11_cutsAt 10 = .ok (.getfield 123, 3) := by decide +kernel
theorem dX11_cutsAt_13 : decode cX11_cutsAt 13 = .ok (.imul, 1) := by decide +kernel
theorem dX11_cutsAt_14 : decode cX11_cutsAt 14 = .ok (.if_icmp .ge 53, 3) := by decide +kernel
theorem dX11_cutsAt_17 : decode cX11_cutsAt 17 = .ok (.iload_n 3, 1) := by decide +kernel
theorem dX11_cutsAt_18 : decode cX11_cutsAt 18 = .ok (.bipush 120, 2) := by decide +kernel
theorem dX11_cutsAt_20 : decode cX11_cutsAt 20 = .ok (.if_icmp .ge 47, 3) := by decide +kernel
theorem dX11_cutsAt_23 : decode cX11_cutsAt 23 = .ok (.aload_n 0, 1) := by decide +kernel
theorem dX11_cutsAt_24 : decode cX11_cutsAt 24 = .ok (.getfield 27, 3) := by decide +kernel
theorem dX11_cutsAt_27 : decode cX11_cutsAt 27 = .ok (.getfield 270, 3) := by decide +kernel
theorem dX11_cutsAt_30 : decode cX11_cutsAt 30 = .ok (.iload_n 3, 1) := by decide +kernel
theorem dX11_cutsAt_31 : decode cX11_cutsAt 31 = .ok (.iaload, 1) := by decide +kernel
theorem dX11_cutsAt_32 : decode cX11_cutsAt 32 = .ok (.iload_n 1, 1) := by decide +kernel
theorem dX11_cutsAt_33 : decode cX11_cutsAt 33 = .ok (.if_icmp .ne 28, 3) := by decide +kernel
theorem dX11_cutsAt_36 : decode cX11_cutsAt 36 = .ok (.aload_n 0, 1) := by decide +kernel
theorem dX11_cutsAt_37 : decode cX11_cutsAt 37 = .ok (.getfield 34, 3) := by decide +kernel
theorem dX11_cutsAt_40 : decode cX11_cutsAt 40 = .ok (.aload_n 0, 1) := by decide +kernel
theorem dX11_cutsAt_41 : decode cX11_cutsAt 41 = .ok (.getfield 27, 3) := by decide +kernel
theorem dX11_cutsAt_44 : decode cX11_cutsAt 44 = .ok (.getfield 255, 3) := by decide +kernel
theorem dX11_cutsAt_47 : decode cX11_cutsAt 47 = .ok (.iload_n 3, 1) := by decide +kernel
theorem dX11_cutsAt_48 : decode cX11_cutsAt 48 = .ok (.invokestatic 282, 3) := by decide +kernel
theorem dX11_cutsAt_51 : decode cX11_cutsAt 51 = .ok (.iaload, 1) := by decide +kernel
theorem dX11_cutsAt_52 : decode cX11_cutsAt 52 = .ok (.invokevirtual 130, 3) := by decide +kernel
theorem dX11_cutsAt_55 : decode cX11_cutsAt 55 = .ok (.ifCond .ne 6, 3) := by decide +kernel
theorem dX11_cutsAt_58 : decode cX11_cutsAt 58 = .ok (.iinc 2 1, 3) := by decide +kernel
theorem dX11_cutsAt_61 : decode cX11_cutsAt 61 = .ok (.iinc 3 1, 3) := by decide +kernel
theorem dX11_cutsAt_64 : decode cX11_cutsAt 64 = .ok (.goto (-60), 3) := by decide +kernel
theorem dX11_cutsAt_67 : decode cX11_cutsAt 67 = .ok (.iload_n 2, 1) := by decide +kernel
theorem dX11_cutsAt_68 : decode cX11_cutsAt 68 = .ok (.ireturn, 1) := by decide +kernel
theorem dX11_place_0 : decode cX11_place 0 = .ok (.aload_n 0, 1) := by decide +kernel
theorem dX11_place_1 : decode cX11_place 1 = .ok (.iload_n 1, 1) := by decide +kernel
theorem dX11_place_2 : decode cX11_place 2 = .ok (.invokevirtual 159, 3) := by decide +kernel
theorem dX11_place_5 : decode cX11_place 5 = .ok (.ifCond .eq 14, 3) := by decide +kernel
theorem dX11_place_8 : decode cX11_place 8 = .ok (.aload_n 0, 1) := by decide +kernel
theorem dX11_place_9 : decode cX11_place 9 = .ok (.getfield 41, 3) := by decide +kernel
theorem dX11_place_12 : decode cX11_place 12 = .ok (.iload_n 1, 1) := by decide +kernel
theorem dX11_place_13 : decode cX11_place 13 = .ok (.invokevirtual 252, 3) := by decide +kernel
theorem dX11_place_16 : decode cX11_place 16 = .ok (.ifCond .ne 7, 3) := by decide +kernel
theorem dX11_place_19 : decode cX11_place 19 = .ok (.sipush (-1000), 3) := by decide +kernel
theorem dX11_place_22 : decode cX11_place 22 = .ok (.ireturn, 1) := by decide +kernel
theorem dX11_place_23 : decode cX11_place 23 = .ok (.iload_n 2, 1) := by decide +kernel
theorem dX11_place_24 : decode cX11_place 24 = .ok (.tableswitch 58 0 2 #[28, 38, 48], 28) := by decide +kernel
theorem dX11_place_52 : decode cX11_place 52 = .ok (.aload_n 0, 1) := by decide +kernel
theorem dX11_place_53 : decode cX11_place 53 = .ok (.getfield 41, 3) := by decide +kernel
theorem dX11_place_56 : decode cX11_place 56 = .ok (.getfield 285, 3) := by decide +kernel
theorem dX11_place_59 : decode cX11_place 59 = .ok (.iload_n 1, 1) := by decide +kernel
theorem dX11_place_60 : decode cX11_place 60 = .ok (.iaload, 1) := by decide +kernel
theorem dX11_place_61 : decode cX11_place 61 = .ok (.ireturn, 1) := by decide +kernel
theorem dX11_place_62 : decode cX11_place 62 = .ok (.aload_n 0, 1) := by decide +kernel
theorem dX11_place_63 : decode cX11_place 63 = .ok (.getfield 41, 3) := by decide +kernel
theorem dX11_place_66 : decode cX11_place 66 = .ok (.getfield 288, 3) := by decide +kernel
theorem dX11_place_69 : decode cX11_place 69 = .ok (.iload_n 1, 1) := by decide +kernel
theorem dX11_place_70 : decode cX11_place 70 = .ok (.iaload, 1) := by decide +kernel
theorem dX11_place_71 : decode cX11_place 71 = .ok (.ireturn, 1) := by decide +kernel
theorem dX11_place_72 : decode cX11_place 72 = .ok (.aload_n 0, 1) := by decide +kernel
theorem dX11_place_73 : decode cX11_place 73 = .ok (.getfield 41, 3) := by decide +kernel
theorem dX11_place_76 : decode cX11_place 76 = .ok (.getfield 291, 3) := by decide +kernel
theorem dX11_place_79 : decode cX11_place 79 = .ok (.iload_n 1, 1) := by decide +kernel
theorem dX11_place_80 : decode cX11_place 80 = .ok (.iaload, 1) := by decide +kernel
theorem dX11_place_81 : decode cX11_place 81 = .ok (.ireturn, 1) := by decide +kernel
theorem dX11_place_82 : decode cX11_place 82 = .ok (.sipush (-1000), 3) := by decide +kernel
theorem dX11_place_85 : decode cX11_place 85 = .ok (.ireturn, 1) := by decide +kernel
theorem dX11_over_0 : decode cX11_over 0 = .ok (.iload_n 1, 1) := by decide +kernel
theorem dX11_over_1 : decode cX11_over 1 = .ok (.iconst (-1), 1) := by decide +kernel
theorem dX11_over_2 : decode cX11_over 2 = .ok (.if_icmp .ge 7, 3) := by decide +kernel
theorem dX11_over_5 : decode cX11_over 5 = .ok (.iconst (-1), 1) := by decide +kernel
theorem dX11_over_6 : decode cX11_over 6 = .ok (.goto 11, 3) := by decide +kernel
theorem dX11_over_9 : decode cX11_over 9 = .ok (.aload_n 0, 1) := by decide +kernel
theorem dX11_over_10 : decode cX11_over 10 = .ok (.getfield 41, 3) := by decide +kernel
theorem dX11_over_13 : decode cX11_over 13 = .ok (.iload_n 1, 1) := by decide +kernel
theorem dX11_over_14 : decode cX11_over 14 = .ok (.invokevirtual 192, 3) := by decide +kernel
theorem dX11_over_17 : decode cX11_over 17 = .ok (.ireturn, 1) := by decide +kernel
theorem dX11_box_0 : decode cX11_box 0 = .ok (.iload_n 1, 1) := by decide +kernel
theorem dX11_box_1 : decode cX11_box 1 = .ok (.ifCond .lt 18, 3) := by decide +kernel
theorem dX11_box_4 : decode cX11_box 4 = .ok (.iload_n 1, 1) := by decide +kernel
theorem dX11_box_5 : decode cX11_box 5 = .ok (.iconst 3, 1) := by decide +kernel
theorem dX11_box_6 : decode cX11_box 6 = .ok (.if_icmp .gt 13, 3) := by decide +kernel
theorem dX11_box_9 : decode cX11_box 9 = .ok (.aload_n 0, 1) := by decide +kernel
theorem dX11_box_10 : decode cX11_box 10 = .ok (.getfield 41, 3) := by decide +kernel
theorem dX11_box_13 : decode cX11_box 13 = .ok (.getfield 294, 3) := by decide +kernel
theorem dX11_box_16 : decode cX11_box 16 = .ok (.ifCond .ne 7, 3) := by decide +kernel
theorem dX11_box_19 : decode cX11_box 19 = .ok (.sipush (-1000), 3) := by decide +kernel
theorem dX11_box_22 : decode cX11_box 22 = .ok (.ireturn, 1) := by decide +kernel
theorem dX11_box_23 : decode cX11_box 23 = .ok (.iload_n 1, 1) := by decide +kernel
theorem dX11_box_24 : decode cX11_box 24 = .ok (.iconst 1, 1) := by decide +kernel
theorem dX11_box_25 : decode cX11_box 25 = .ok (.iand, 1) := by decide +kernel
theorem dX11_box_26 : decode cX11_box 26 = .ok (.ifCond .ne 13, 3) := by decide +kernel
theorem dX11_box_29 : decode cX11_box 29 = .ok (.aload_n 0, 1) := by decide +kernel
theorem dX11_box_30 : decode cX11_box 30 = .ok (.getfield 41, 3) := by decide +kernel
theorem dX11_box_33 : decode cX11_box 33 = .ok (.getfield 285, 3) := by decide +kernel
theorem dX11_box_36 : decode cX11_box 36 = .ok (.goto 10, 3) := by decide +kernel
theorem dX11_box_39 : decode cX11_box 39 = .ok (.aload_n 0, 1) := by decide +kernel
theorem dX11_box_40 : decode cX11_box 40 = .ok (.getfield 41, 3) := by decide +kernel
theorem dX11_box_43 : decode cX11_box 43 = .ok (.getfield 288, 3) := by decide +kernel
theorem dX11_box_46 : decode cX11_box 46 = .ok (.astore_n 2, 1) := by decide +kernel
theorem dX11_box_47 : decode cX11_box 47 = .ok (.iload_n 1, 1) := by decide +kernel
theorem dX11_box_48 : decode cX11_box 48 = .ok (.iconst 2, 1) := by decide +kernel
theorem dX11_box_49 : decode cX11_box 49 = .ok (.if_icmp .ge 14, 3) := by decide +kernel
theorem dX11_box_52 : decode cX11_box 52 = .ok (.aload_n 0, 1) := by decide +kernel
theorem dX11_box_53 : decode cX11_box 53 = .ok (.getfield 41, 3) := by decide +kernel
theorem dX11_box_56 : decode cX11_box 56 = .ok (.aload_n 2, 1) := by decide +kernel
theorem dX11_box_57 : decode cX11_box 57 = .ok (.invokevirtual 297, 3) := by decide +kernel
theorem dX11_box_60 : decode cX11_box 60 = .ok (.goto 11, 3) := by decide +kernel
theorem dX11_box_63 : decode cX11_box 63 = .ok (.aload_n 0, 1) := by decide +kernel
theorem dX11_box_64 : decode cX11_box 64 = .ok (.getfield 41, 3) := by decide +kernel
theorem dX11_box_67 : decode cX11_box 67 = .ok (.aload_n 2, 1) := by decide +kernel
theorem dX11_box_68 : decode cX11_box 68 = .ok (.invokevirtual 301, 3) := by decide +kernel
theorem dX11_box_71 : decode cX11_box 71 = .ok (.ireturn, 1) := by decide +kernel
theorem dX11_part_0 : decode cX11_part 0 = .ok (.aload_n 0, 1) := by decide +kernel
theorem dX11_part_1 : decode cX11_part 1 = .ok (.iload_n 1, 1) := by decide +kernel
theorem dX11_part_2 : decode cX11_part 2 = .ok (.invokevirtual 126, 3) := by decide +kernel
theorem dX11_part_5 : decode cX11_part 5 = .ok (.ifCond .ne 5, 3) := by decide +kernel
theorem dX11_part_8 : decode cX11_part 8 = .ok (.iconst (-1), 1) := by decide +kernel
theorem dX11_part_9 : decode cX11_part 9 = .ok (.ireturn, 1) := by decide +kernel
theorem dX11_part_10 : decode cX11_part 10 = .ok (.aload_n 0, 1) := by decide +kernel
theorem dX11_part_11 : decode cX11_part 11 = .ok (.getfield 34, 3) := by decide +kernel
theorem dX11_part_14 : decode cX11_part 14 = .ok (.iload_n 1, 1) := by decide +kernel
theorem dX11_part_15 : decode cX11_part 15 = .ok (.invokevirtual 130, 3) := by decide +kernel
theorem dX11_part_18 : decode cX11_part 18 = .ok (.ifCond .ne 6, 3) := by decide +kernel
theorem dX11_part_21 : decode cX11_part 21 = .ok (.bipush (-2), 2) := by decide +kernel
theorem dX11_part_23 : decode cX11_part 23 = .ok (.ireturn, 1) := by decide +kernel
theorem dX11_part_24 : decode cX11_part 24 = .ok (.aload_n 0, 1) := by decide +kernel
theorem dX11_part_25 : decode cX11_part 25 = .ok (.getfield 41, 3) := by decide +kernel
theorem dX11_part_28 : decode cX11_part 28 = .ok (.getfield 304, 3) := by decide +kernel
theorem dX11_part_31 : decode cX11_part 31 = .ok (.aload_n 0, 1) := by decide +kernel
theorem dX11_part_32 : decode cX11_part 32 = .ok (.getfield 27, 3) := by decide +kernel
theorem dX11_part_35 : decode cX11_part 35 = .ok (.aload_n 0, 1) := by decide +kernel
theorem dX11_part_36 : decode cX11_part 36 = .ok (.getfield 34, 3) := by decide +kernel
theorem dX11_part_39 : decode cX11_part 39 = .ok (.getfield 162, 3) := by decide +kernel
theorem dX11_part_42 : decode cX11_part 42 = .ok (.aload_n 0, 1) := by decide +kernel
theorem dX11_part_43 : decode cX11_part 43 = .ok (.getfield 34, 3) := by decide +kernel
theorem dX11_part_46 : decode cX11_part 46 = .ok (.getfield 137, 3) := by decide +kernel
theorem dX11_part_49 : decode cX11_part 49 = .ok (.lconst 1, 1) := by decide +kernel
theorem dX11_part_50 : decode cX11_part 50 = .ok (.iload_n 1, 1) := by decide +kernel
theorem dX11_part_51 : decode cX11_part 51 = .ok (.lshl, 1) := by decide +kernel
theorem dX11_part_52 : decode cX11_part 52 = .ok (.ldc2_w 182, 3) := by decide +kernel
theorem dX11_part_55 : decode cX11_part 55 = .ok (.lxor, 1) := by decide +kernel
theorem dX11_part_56 : decode cX11_part 56 = .ok (.land, 1) := by decide +kernel
theorem dX11_part_57 : decode cX11_part 57 = .ok (.invokevirtual 307, 3) := by decide +kernel
theorem dX11_part_60 : decode cX11_part 60 = .ok (.iconst (-1), 1) := by decide +kernel
theorem dX11_part_61 : decode cX11_part 61 = .ok (.ixor, 1) := by decide +kernel
theorem dX11_part_62 : decode cX11_part 62 = .ok (.iand, 1) := by decide +kernel
theorem dX11_part_63 : decode cX11_part 63 = .ok (.ireturn, 1) := by decide +kernel
theorem dX11_way_0 : decode cX11_way 0 = .ok (.aload_n 0, 1) := by decide +kernel
theorem dX11_way_1 : decode cX11_way 1 = .ok (.iload_n 1, 1) := by decide +kernel
theorem dX11_way_2 : decode cX11_way 2 = .ok (.invokevirtual 159, 3) := by decide +kernel
theorem dX11_way_5 : decode cX11_way 5 = .ok (.ifCond .eq 16, 3) := by decide +kernel
theorem dX11_way_8 : decode cX11_way 8 = .ok (.aload_n 0, 1) := by decide +kernel
theorem dX11_way_9 : decode cX11_way 9 = .ok (.iload_n 2, 1) := by decide +kernel
theorem dX11_way_10 : decode cX11_way 10 = .ok (.invokevirtual 159, 3) := by decide +kernel
theorem dX11_way_13 : decode cX11_way 13 = .ok (.ifCond .eq 8, 3) := by decide +kernel
theorem dX11_way_16 : decode cX11_way 16 = .ok (.iload_n 3, 1) := by decide +kernel
theorem dX11_way_17 : decode cX11_way 17 = .ok (.iconst (-1), 1) := by decide +kernel
theorem dX11_way_18 : decode cX11_way 18 = .ok (.if_icmp .ge 5, 3) := by decide +kernel
theorem dX11_way_21 : decode cX11_way 21 = .ok (.iconst (-1), 1) := by decide +kernel
theorem dX11_way_22 : decode cX11_way 22 = .ok (.ireturn, 1) := by decide +kernel
theorem dX11_way_23 : decode cX11_way 23 = .ok (.aload_n 0, 1) := by decide +kernel
theorem dX11_way_24 : decode cX11_way 24 = .ok (.getfield 27, 3) := by decide +kernel
theorem dX11_way_27 : decode cX11_way 27 = .ok (.iload_n 2, 1) := by decide +kernel
theorem dX11_way_28 : decode cX11_way 28 = .ok (.iload_n 1, 1) := by decide +kernel
theorem dX11_way_29 : decode cX11_way 29 = .ok (.aload_n 0, 1) := by decide +kernel
theorem dX11_way_30 : decode cX11_way 30 = .ok (.getfield 34, 3) := by decide +kernel
theorem dX11_way_33 : decode cX11_way 33 = .ok (.getfield 137, 3) := by decide +kernel
theorem dX11_way_36 : decode cX11_way 36 = .ok (.invokevirtual 311, 3) := by decide +kernel
theorem dX11_way_39 : decode cX11_way 39 = .ok (.istore 4, 2) := by decide +kernel
theorem dX11_way_41 : decode cX11_way 41 = .ok (.iload 4, 2) := by decide +kernel
theorem dX11_way_43 : decode cX11_way 43 = .ok (.iconst (-1), 1) := by decide +kernel
theorem dX11_way_44 : decode cX11_way 44 = .ok (.if_icmp .ne 6, 3) := by decide +kernel
theorem dX11_way_47 : decode cX11_way 47 = .ok (.bipush (-3), 2) := by decide +kernel
theorem dX11_way_49 : decode cX11_way 49 = .ok (.ireturn, 1) := by decide +kernel
theorem dX11_way_50 : decode cX11_way 50 = .ok (.iload_n 3, 1) := by decide +kernel
theorem dX11_way_51 : decode cX11_way 51 = .ok (.iconst (-1), 1) := by decide +kernel
theorem dX11_way_52 : decode cX11_way 52 = .ok (.if_icmp .ne 6, 3) := by decide +kernel
theorem dX11_way_55 : decode cX11_way 55 = .ok (.iload 4, 2) := by decide +kernel
theorem dX11_way_57 : decode cX11_way 57 = .ok (.ireturn, 1) := by decide +kernel
theorem dX11_way_58 : decode cX11_way 58 = .ok (.iload_n 3, 1) := by decide +kernel
theorem dX11_way_59 : decode cX11_way 59 = .ok (.iload 4, 2) := by decide +kernel
theorem dX11_way_61 : decode cX11_way 61 = .ok (.if_icmp .le 8, 3) := by decide +kernel
theorem dX11_way_64 : decode cX11_way 64 = .ok (.bipush (-2), 2) := by decide +kernel
theorem dX11_way_66 : decode cX11_way 66 = .ok (.goto 12, 3) := by decide +kernel
theorem dX11_way_69 : decode cX11_way 69 = .ok (.aload_n 0, 1) := by decide +kernel
theorem dX11_way_70 : decode cX11_way 70 = .ok (.getfield 27, 3) := by decide +kernel
theorem dX11_way_73 : decode cX11_way 73 = .ok (.iload_n 1, 1) := by decide +kernel
theorem dX11_way_74 : decode cX11_way 74 = .ok (.iload_n 3, 1) := by decide +kernel
theorem dX11_way_75 : decode cX11_way 75 = .ok (.invokevirtual 315, 3) := by decide +kernel
theorem dX11_way_78 : decode cX11_way 78 = .ok (.ireturn, 1) := by decide +kernel
theorem dX11_free_0 : decode cX11_free 0 = .ok (.iload_n 1, 1) := by decide +kernel
theorem dX11_free_1 : decode cX11_free 1 = .ok (.iconst (-1), 1) := by decide +kernel
theorem dX11_free_2 : decode cX11_free 2 = .ok (.if_icmp .ge 5, 3) := by decide +kernel
theorem dX11_free_5 : decode cX11_free 5 = .ok (.iconst (-1), 1) := by decide +kernel
theorem dX11_free_6 : decode cX11_free 6 = .ok (.ireturn, 1) := by decide +kernel
theorem dX11_free_7 : decode cX11_free 7 = .ok (.iconst 0, 1) := by decide +kernel
theorem dX11_free_8 : decode cX11_free 8 = .ok (.istore_n 2, 1) := by decide +kernel
theorem dX11_free_9 : decode cX11_free 9 = .ok (.iconst 0, 1) := by decide +kernel
theorem dX11_free_10 : decode cX11_free 10 = .ok (.istore_n 3, 1) := by decide +kernel
theorem dX11_free_11 : decode cX11_free 11 = .ok (.iload_n 3, 1) := by decide +kernel
theorem dX11_free_12 : decode cX11_free 12 = .ok (.aload_n 0, 1) := by decide +kernel
theorem dX11_free_13 : decode cX11_free 13 = .ok (.getfield 27, 3) := by decide +kernel
theorem dX11_free_16 : decode cX11_free 16 = .ok (.getfield 172, 3) := by decide +kernel
theorem dX11_free_19 : decode cX11_free 19 = .ok (.if_icmp .ge 27, 3) := by decide +kernel
theorem dX11_free_22 : decode cX11_free 22 = .ok (.aload_n 0, 1) := by decide +kernel
theorem dX11_free_23 : decode cX11_free 23 = .ok (.iload_n 3, 1) := by decide +kernel
theorem dX11_free_24 : decode cX11_free 24 = .ok (.invokevirtual 267, 3) := by decide +kernel
theorem dX11_free_27 : decode cX11_free 27 = .ok (.ifCond .eq 13, 3) := by decide +kernel
theorem dX11_free_30 : decode cX11_free 30 = .ok (.iload_n 2, 1) := by decide +kernel
theorem dX11_free_31 : decode cX11_free 31 = .ok (.iload_n 1, 1) := by decide +kernel
theorem dX11_free_32 : decode cX11_free 32 = .ok (.if_icmp .ne 5, 3) := by decide +kernel
theorem dX11_free_35 : decode cX11_free 35 = .ok (.iload_n 3, 1) := by decide +kernel
theorem dX11_free_36 : decode cX11_free 36 = .ok (.ireturn, 1) := by decide +kernel
theorem dX11_free_37 : decode cX11_free 37 = .ok (.iinc 2 1, 3) := by decide +kernel
theorem dX11_free_40 : decode cX11_free 40 = .ok (.iinc 3 1, 3) := by decide +kernel
theorem dX11_free_43 : decode cX11_free 43 = .ok (.goto (-32), 3) := by decide +kernel
theorem dX11_free_46 : decode cX11_free 46 = .ok (.iload_n 1, 1) := by decide +kernel
theorem dX11_free_47 : decode cX11_free 47 = .ok (.iconst (-1), 1) := by decide +kernel
theorem dX11_free_48 : decode cX11_free 48 = .ok (.if_icmp .ne 7, 3) := by decide +kernel
theorem dX11_free_51 : decode cX11_free 51 = .ok (.iload_n 2, 1) := by decide +kernel
theorem dX11_free_52 : decode cX11_free 52 = .ok (.goto 5, 3) := by decide +kernel
theorem dX11_free_55 : decode cX11_free 55 = .ok (.bipush (-2), 2) := by decide +kernel
theorem dX11_free_57 : decode cX11_free 57 = .ok (.ireturn, 1) := by decide +kernel
theorem dX11_rim_0 : decode cX11_rim 0 = .ok (.aload_n 0, 1) := by decide +kernel
theorem dX11_rim_1 : decode cX11_rim 1 = .ok (.invokevirtual 318, 3) := by decide +kernel
theorem dX11_rim_4 : decode cX11_rim 4 = .ok (.ifCond .eq 19, 3) := by decide +kernel
theorem dX11_rim_7 : decode cX11_rim 7 = .ok (.iload_n 1, 1) := by decide +kernel
theorem dX11_rim_8 : decode cX11_rim 8 = .ok (.iconst (-1), 1) := by decide +kernel
theorem dX11_rim_9 : decode cX11_rim 9 = .ok (.if_icmp .lt 14, 3) := by decide +kernel
theorem dX11_rim_12 : decode cX11_rim 12 = .ok (.iload_n 1, 1) := by decide +kernel
theorem dX11_rim_13 : decode cX11_rim 13 = .ok (.aload_n 0, 1) := by decide +kernel
theorem dX11_rim_14 : decode cX11_rim 14 = .ok (.getfield 64, 3) := by decide +kernel
theorem dX11_rim_17 : decode cX11_rim 17 = .ok (.getfield 321, 3) := by decide +kernel
theorem dX11_rim_20 : decode cX11_rim 20 = .ok (.if_icmp .lt 5, 3) := by decide +kernel
theorem dX11_rim_23 : decode cX11_rim 23 = .ok (.iconst (-1), 1) := by decide +kernel
theorem dX11_rim_24 : decode cX11_rim 24 = .ok (.ireturn, 1) := by decide +kernel
theorem dX11_rim_25 : decode cX11_rim 25 = .ok (.iload_n 1, 1) := by decide +kernel
theorem dX11_rim_26 : decode cX11_rim 26 = .ok (.iconst (-1), 1) := by decide +kernel
theorem dX11_rim_27 : decode cX11_rim 27 = .ok (.if_icmp .ne 19, 3) := by decide +kernel
theorem dX11_rim_30 : decode cX11_rim 30 = .ok (.iload_n 2, 1) := by decide +kernel
theorem dX11_rim_31 : decode cX11_rim 31 = .ok (.ifCond .ne 13, 3) := by decide +kernel
theorem dX11_rim_34 : decode cX11_rim 34 = .ok (.aload_n 0, 1) := by decide +kernel
theorem dX11_rim_35 : decode cX11_rim 35 = .ok (.getfield 64, 3) := by decide +kernel
theorem dX11_rim_38 : decode cX11_rim 38 = .ok (.getfield 321, 3) := by decide +kernel
theorem dX11_rim_41 : decode cX11_rim 41 = .ok (.goto 4, 3) := by decide +kernel
theorem dX11_rim_44 : decode cX11_rim 44 = .ok (.iconst (-1), 1) := by decide +kernel
theorem dX11_rim_45 : decode cX11_rim 45 = .ok (.ireturn, 1) := by decide +kernel
theorem dX11_rim_46 : decode cX11_rim 46 = .ok (.iload_n 2, 1) := by decide +kernel
theorem dX11_rim_47 : decode cX11_rim 47 = .ok (.tableswitch 73 0 3 #[29, 41, 53, 63], 29) := by decide +kernel
theorem dX11_rim_76 : decode cX11_rim 76 = .ok (.aload_n 0, 1) := by decide +kernel
theorem dX11_rim_77 : decode cX11_rim 77 = .ok (.getfield 64, 3) := by decide +kernel
theorem dX11_rim_80 : decode cX11_rim 80 = .ok (.getfield 324, 3) := by decide +kernel
theorem dX11_rim_83 : decode cX11_rim 83 = .ok (.iload_n 1, 1) := by decide +kernel
theorem dX11_rim_84 : decode cX11_rim 84 = .ok (.iaload, 1) := by decide +kernel
theorem dX11_rim_85 : decode cX11_rim 85 = .ok (.iconst 2, 1) := by decide +kernel
theorem dX11_rim_86 : decode cX11_rim 86 = .ok (.ishr, 1) := by decide +kernel
theorem dX11_rim_87 : decode cX11_rim 87 = .ok (.ireturn, 1) := by decide +kernel
theorem dX11_rim_88 : decode cX11_rim 88 = .ok (.aload_n 0, 1) := by decide +kernel
theorem dX11_rim_89 : decode cX11_rim 89 = .ok (.getfield 64, 3) := by decide +kernel
theorem dX11_rim_92 : decode cX11_rim 92 = .ok (.getfield 324, 3) := by decide +kernel
theorem dX11_rim_95 : decode cX11_rim 95 = .ok (.iload_n 1, 1) := by decide +kernel
theorem dX11_rim_96 : decode cX11_rim 96 = .ok (.iaload, 1) := by decide +kernel
theorem dX11_rim_97 : decode cX11_rim 97 = .ok (.iconst 3, 1) := by decide +kernel
theorem dX11_rim_98 : decode cX11_rim 98 = .ok (.iand, 1) := by decide +kernel
theorem dX11_rim_99 : decode cX11_rim 99 = .ok (.ireturn, 1) := by decide +kernel
theorem dX11_rim_100 : decode cX11_rim 100 = .ok (.aload_n 0, 1) := by decide +kernel
theorem dX11_rim_101 : decode cX11_rim 101 = .ok (.getfield 64, 3) := by decide +kernel
theorem dX11_rim_104 : decode cX11_rim 104 = .ok (.getfield 327, 3) := by decide +kernel
theorem dX11_rim_107 : decode cX11_rim 107 = .ok (.iload_n 1, 1) := by decide +kernel
theorem dX11_rim_108 : decode cX11_rim 108 = .ok (.iaload, 1) := by decide +kernel
theorem dX11_rim_109 : decode cX11_rim 109 = .ok (.ireturn, 1) := by decide +kernel
theorem dX11_rim_110 : decode cX11_rim 110 = .ok (.aload_n 0, 1) := by decide +kernel
theorem dX11_rim_111 : decode cX11_rim 111 = .ok (.getfield 64, 3) := by decide +kernel
theorem dX11_rim_114 : decode cX11_rim 114 = .ok (.getfield 330, 3) := by decide +kernel
theorem dX11_rim_117 : decode cX11_rim 117 = .ok (.iload_n 1, 1) := by decide +kernel
theorem dX11_rim_118 : decode cX11_rim 118 = .ok (.iaload, 1) := by decide +kernel
theorem dX11_rim_119 : decode cX11_rim 119 = .ok (.ireturn, 1) := by decide +kernel
theorem dX11_rim_120 : decode cX11_rim 120 = .ok (.iconst (-1), 1) := by decide +kernel
theorem dX11_rim_121 : decode cX11_rim 121 = .ok (.ireturn, 1) := by decide +kernel
theorem dX11_gluings_0 : decode cX11_gluings 0 = .ok (.aload_n 0, 1) := by decide +kernel
theorem dX11_gluings_1 : decode cX11_gluings 1 = .ok (.invokevirtual 318, 3) := by decide +kernel
theorem dX11_gluings_4 : decode cX11_gluings 4 = .ok (.ifCond .ne 5, 3) := by decide +kernel
theorem dX11_gluings_7 : decode cX11_gluings 7 = .ok (.iconst (-1), 1) := by decide +kernel
theorem dX11_gluings_8 : decode cX11_gluings 8 = .ok (.ireturn, 1) := by decide +kernel
theorem dX11_gluings_9 : decode cX11_gluings 9 = .ok (.aload_n 0, 1) := by decide +kernel
theorem dX11_gluings_10 : decode cX11_gluings 10 = .ok (.getfield 64, 3) := by decide +kernel
theorem dX11_gluings_13 : decode cX11_gluings 13 = .ok (.getfield 321, 3) := by decide +kernel
theorem dX11_gluings_16 : decode cX11_gluings 16 = .ok (.bipush 22, 2) := by decide +kernel
theorem dX11_gluings_18 : decode cX11_gluings 18 = .ok (.if_icmp .le 6, 3) := by decide +kernel
theorem dX11_gluings_21 : decode cX11_gluings 21 = .ok (.bipush (-3), 2) := by decide +kernel
theorem dX11_gluings_23 : decode cX11_gluings 23 = .ok (.ireturn, 1) := by decide +kernel
theorem dX11_gluings_24 : decode cX11_gluings 24 = .ok (.aload_n 0, 1) := by decide +kernel
theorem dX11_gluings_25 : decode cX11_gluings 25 = .ok (.getfield 71, 3) := by decide +kernel
theorem dX11_gluings_28 : decode cX11_gluings 28 = .ok (.aload_n 0, 1) := by decide +kernel
theorem dX11_gluings_29 : decode cX11_gluings 29 = .ok (.getfield 64, 3) := by decide +kernel
theorem dX11_gluings_32 : decode cX11_gluings 32 = .ok (.invokevirtual 333, 3) := by decide +kernel
theorem dX11_gluings_35 : decode cX11_gluings 35 = .ok (.aload_n 0, 1) := by decide +kernel
theorem dX11_gluings_36 : decode cX11_gluings 36 = .ok (.getfield 71, 3) := by decide +kernel
theorem dX11_gluings_39 : decode cX11_gluings 39 = .ok (.getfield 337, 3) := by decide +kernel
theorem dX11_gluings_42 : decode cX11_gluings 42 = .ok (.ireturn, 1) := by decide +kernel
theorem dX11_glued_0 : decode cX11_glued 0 = .ok (.aload_n 0, 1) := by decide +kernel
theorem dX11_glued_1 : decode cX11_glued 1 = .ok (.invokevirtual 318, 3) := by decide +kernel
theorem dX11_glued_4 : decode cX11_glued 4 = .ok (.ifCond .eq 22, 3) := by decide +kernel
theorem dX11_glued_7 : decode cX11_glued 7 = .ok (.iload_n 1, 1) := by decide +kernel
theorem dX11_glued_8 : decode cX11_glued 8 = .ok (.ifCond .lt 18, 3) := by decide +kernel
theorem dX11_glued_11 : decode cX11_glued 11 = .ok (.iload_n 2, 1) := by decide +kernel
theorem dX11_glued_12 : decode cX11_glued 12 = .ok (.ifCond .lt 14, 3) := by decide +kernel
theorem dX11_glued_15 : decode cX11_glued 15 = .ok (.iload_n 2, 1) := by decide +kernel
theorem dX11_glued_16 : decode cX11_glued 16 = .ok (.aload_n 0, 1) := by decide +kernel
theorem dX11_glued_17 : decode cX11_glued 17 = .ok (.getfield 64, 3) := by decide +kernel
theorem dX11_glued_20 : decode cX11_glued 20 = .ok (.getfield 321, 3) := by decide +kernel
theorem dX11_glued_23 : decode cX11_glued 23 = .ok (.if_icmp .lt 5, 3) := by decide +kernel
theorem dX11_glued_26 : decode cX11_glued 26 = .ok (.iconst (-1), 1) := by decide +kernel
theorem dX11_glued_27 : decode cX11_glued 27 = .ok (.ireturn, 1) := by decide +kernel
theorem dX11_glued_28 : decode cX11_glued 28 = .ok (.aload_n 0, 1) := by decide +kernel
theorem dX11_glued_29 : decode cX11_glued 29 = .ok (.invokevirtual 340, 3) := by decide +kernel
theorem dX11_glued_32 : decode cX11_glued 32 = .ok (.istore_n 3, 1) := by decide +kernel
theorem dX11_glued_33 : decode cX11_glued 33 = .ok (.iload_n 3, 1) := by decide +kernel
theorem dX11_glued_34 : decode cX11_glued 34 = .ok (.ifCond .ge 5, 3) := by decide +kernel
theorem dX11_glued_37 : decode cX11_glued 37 = .ok (.iload_n 3, 1) := by decide +kernel
theorem dX11_glued_38 : decode cX11_glued 38 = .ok (.ireturn, 1) := by decide +kernel
theorem dX11_glued_39 : decode cX11_glued 39 = .ok (.aload_n 0, 1) := by decide +kernel
theorem dX11_glued_40 : decode cX11_glued 40 = .ok (.getfield 71, 3) := by decide +kernel
theorem dX11_glued_43 : decode cX11_glued 43 = .ok (.iload_n 1, 1) := by decide +kernel
theorem dX11_glued_44 : decode cX11_glued 44 = .ok (.invokevirtual 343, 3) := by decide +kernel
theorem dX11_glued_47 : decode cX11_glued 47 = .ok (.ifCond .eq 21, 3) := by decide +kernel
theorem dX11_glued_50 : decode cX11_glued 50 = .ok (.iload_n 2, 1) := by decide +kernel
theorem dX11_glued_51 : decode cX11_glued 51 = .ok (.bipush 22, 2) := by decide +kernel
theorem dX11_glued_53 : decode cX11_glued 53 = .ok (.if_icmp .ge 15, 3) := by decide +kernel
theorem dX11_glued_56 : decode cX11_glued 56 = .ok (.aload_n 0, 1) := by decide +kernel
theorem dX11_glued_57 : decode cX11_glued 57 = .ok (.getfield 71, 3) := by decide +kernel
theorem dX11_glued_60 : decode cX11_glued 60 = .ok (.getfield 346, 3) := by decide +kernel
theorem dX11_glued_63 : decode cX11_glued 63 = .ok (.iload_n 2, 1) := by decide +kernel
theorem dX11_glued_64 : decode cX11_glued 64 = .ok (.iaload, 1) := by decide +kernel
theorem dX11_glued_65 : decode cX11_glued 65 = .ok (.goto 4, 3) := by decide +kernel
theorem dX11_glued_68 : decode cX11_glued 68 = .ok (.iconst (-1), 1) := by decide +kernel
theorem dX11_glued_69 : decode cX11_glued 69 = .ok (.ireturn, 1) := by decide +kernel
theorem dX11_lacks_0 : decode cX11_lacks 0 = .ok (.aload_n 0, 1) := by decide +kernel
theorem dX11_lacks_1 : decode cX11_lacks 1 = .ok (.invokevirtual 318, 3) := by decide +kernel
theorem dX11_lacks_4 : decode cX11_lacks 4 = .ok (.ifCond .eq 16, 3) := by decide +kernel
theorem dX11_lacks_7 : decode cX11_lacks 7 = .ok (.iload_n 1, 1) := by decide +kernel
theorem dX11_lacks_8 : decode cX11_lacks 8 = .ok (.ifCond .lt 12, 3) := by decide +kernel
theorem dX11_lacks_11 : decode cX11_lacks 11 = .ok (.iload_n 2, 1) := by decide +kernel
theorem dX11_lacks_12 : decode cX11_lacks 12 = .ok (.ifCond .lt 8, 3) := by decide +kernel
theorem dX11_lacks_15 : decode cX11_lacks 15 = .ok (.iload_n 2, 1) := by decide +kernel
theorem dX11_lacks_16 : decode cX11_lacks 16 = .ok (.iconst 2, 1) := by decide +kernel
theorem dX11_lacks_17 : decode cX11_lacks 17 = .ok (.if_icmp .le 5, 3) := by decide +kernel
theorem dX11_lacks_20 : decode cX11_lacks 20 = .ok (.iconst (-1), 1) := by decide +kernel
theorem dX11_lacks_21 : decode cX11_lacks 21 = .ok (.ireturn, 1) := by decide +kernel
theorem dX11_lacks_22 : decode cX11_lacks 22 = .ok (.aload_n 0, 1) := by decide +kernel
theorem dX11_lacks_23 : decode cX11_lacks 23 = .ok (.invokevirtual 340, 3) := by decide +kernel
theorem dX11_lacks_26 : decode cX11_lacks 26 = .ok (.istore_n 3, 1) := by decide +kernel
theorem dX11_lacks_27 : decode cX11_lacks 27 = .ok (.iload_n 3, 1) := by decide +kernel
theorem dX11_lacks_28 : decode cX11_lacks 28 = .ok (.ifCond .ge 5, 3) := by decide +kernel
theorem dX11_lacks_31 : decode cX11_lacks 31 = .ok (.iload_n 3, 1) := by decide +kernel
theorem dX11_lacks_32 : decode cX11_lacks 32 = .ok (.ireturn, 1) := by decide +kernel
theorem dX11_lacks_33 : decode cX11_lacks 33 = .ok (.aload_n 0, 1) := by decide +kernel
theorem dX11_lacks_34 : decode cX11_lacks 34 = .ok (.getfield 71, 3) := by decide +kernel
theorem dX11_lacks_37 : decode cX11_lacks 37 = .ok (.iload_n 1, 1) := by decide +kernel
theorem dX11_lacks_38 : decode cX11_lacks 38 = .ok (.invokevirtual 343, 3) := by decide +kernel
theorem dX11_lacks_41 : decode cX11_lacks 41 = .ok (.ifCond .eq 18, 3) := by decide +kernel
theorem dX11_lacks_44 : decode cX11_lacks 44 = .ok (.aload_n 0, 1) := by decide +kernel
theorem dX11_lacks_45 : decode cX11_lacks 45 = .ok (.getfield 71, 3) := by decide +kernel
theorem dX11_lacks_48 : decode cX11_lacks 48 = .ok (.aload_n 0, 1) := by decide +kernel
theorem dX11_lacks_49 : decode cX11_lacks 49 = .ok (.getfield 64, 3) := by decide +kernel
theorem dX11_lacks_52 : decode cX11_lacks 52 = .ok (.iload_n 2, 1) := by decide +kernel
theorem dX11_lacks_53 : decode cX11_lacks 53 = .ok (.invokevirtual 349, 3) := by decide +kernel
theorem dX11_lacks_56 : decode cX11_lacks 56 = .ok (.goto 4, 3) := by decide +kernel
theorem dX11_lacks_59 : decode cX11_lacks 59 = .ok (.iconst (-1), 1) := by decide +kernel
theorem dX11_lacks_60 : decode cX11_lacks 60 = .ok (.ireturn, 1) := by decide +kernel
theorem dX11_itself_0 : decode cX11_itself 0 = .ok (.aload_n 0, 1) := by decide +kernel
theorem dX11_itself_1 : decode cX11_itself 1 = .ok (.invokevirtual 340, 3) := by decide +kernel
theorem dX11_itself_4 : decode cX11_itself 4 = .ok (.istore_n 1, 1) := by decide +kernel
theorem dX11_itself_5 : decode cX11_itself 5 = .ok (.iload_n 1, 1) := by decide +kernel
theorem dX11_itself_6 : decode cX11_itself 6 = .ok (.ifCond .ge 7, 3) := by decide +kernel
theorem dX11_itself_9 : decode cX11_itself 9 = .ok (.iload_n 1, 1) := by decide +kernel
theorem dX11_itself_10 : decode cX11_itself 10 = .ok (.goto 14, 3) := by decide +kernel
theorem dX11_itself_13 : decode cX11_itself 13 = .ok (.aload_n 0, 1) := by decide +kernel
theorem dX11_itself_14 : decode cX11_itself 14 = .ok (.getfield 71, 3) := by decide +kernel
theorem dX11_itself_17 : decode cX11_itself 17 = .ok (.aload_n 0, 1) := by decide +kernel
theorem dX11_itself_18 : decode cX11_itself 18 = .ok (.getfield 64, 3) := by decide +kernel
theorem dX11_itself_21 : decode cX11_itself 21 = .ok (.invokevirtual 353, 3) := by decide +kernel
theorem dX11_itself_24 : decode cX11_itself 24 = .ok (.ireturn, 1) := by decide +kernel
theorem dX11_outline_0 : decode cX11_outline 0 = .ok (.aload_n 0, 1) := by decide +kernel
theorem dX11_outline_1 : decode cX11_outline 1 = .ok (.getfield 78, 3) := by decide +kernel
theorem dX11_outline_4 : decode cX11_outline 4 = .ok (.aload_n 0, 1) := by decide +kernel
theorem dX11_outline_5 : decode cX11_outline 5 = .ok (.getfield 41, 3) := by decide +kernel
theorem dX11_outline_8 : decode cX11_outline 8 = .ok (.aload_n 0, 1) := by decide +kernel
theorem dX11_outline_9 : decode cX11_outline 9 = .ok (.invokevirtual 222, 3) := by decide +kernel
theorem dX11_outline_12 : decode cX11_outline 12 = .ok (.invokevirtual 225, 3) := by decide +kernel
theorem dX11_outline_15 : decode cX11_outline 15 = .ok (.aload_n 0, 1) := by decide +kernel
theorem dX11_outline_16 : decode cX11_outline 16 = .ok (.getfield 78, 3) := by decide +kernel
theorem dX11_outline_19 : decode cX11_outline 19 = .ok (.invokevirtual 357, 3) := by decide +kernel
theorem dX11_outline_22 : decode cX11_outline 22 = .ok (.lreturn, 1) := by decide +kernel
theorem dX11_alike_0 : decode cX11_alike 0 = .ok (.aload_n 0, 1) := by decide +kernel
theorem dX11_alike_1 : decode cX11_alike 1 = .ok (.iload_n 1, 1) := by decide +kernel
theorem dX11_alike_2 : decode cX11_alike 2 = .ok (.invokevirtual 219, 3) := by decide +kernel
theorem dX11_alike_5 : decode cX11_alike 5 = .ok (.ifCond .eq 15, 3) := by decide +kernel
theorem dX11_alike_8 : decode cX11_alike 8 = .ok (.aload_n 0, 1) := by decide +kernel
theorem dX11_alike_9 : decode cX11_alike 9 = .ok (.getfield 91, 3) := by decide +kernel
theorem dX11_alike_12 : decode cX11_alike 12 = .ok (.iload_n 1, 1) := by decide +kernel
theorem dX11_alike_13 : decode cX11_alike 13 = .ok (.aaload, 1) := by decide +kernel
theorem dX11_alike_14 : decode cX11_alike 14 = .ok (.getfield 233, 3) := by decide +kernel
theorem dX11_alike_17 : decode cX11_alike 17 = .ok (.ifCond .ne 5, 3) := by decide +kernel
theorem dX11_alike_20 : decode cX11_alike 20 = .ok (.iconst (-1), 1) := by decide +kernel
theorem dX11_alike_21 : decode cX11_alike 21 = .ok (.ireturn, 1) := by decide +kernel
theorem dX11_alike_22 : decode cX11_alike 22 = .ok (.aload_n 0, 1) := by decide +kernel
theorem dX11_alike_23 : decode cX11_alike 23 = .ok (.getfield 78, 3) := by decide +kernel
theorem dX11_alike_26 : decode cX11_alike 26 = .ok (.aload_n 0, 1) := by decide +kernel
theorem dX11_alike_27 : decode cX11_alike 27 = .ok (.getfield 41, 3) := by decide +kernel
theorem dX11_alike_30 : decode cX11_alike 30 = .ok (.aload_n 0, 1) := by decide +kernel
theorem dX11_alike_31 : decode cX11_alike 31 = .ok (.invokevirtual 222, 3) := by decide +kernel
theorem dX11_alike_34 : decode cX11_alike 34 = .ok (.invokevirtual 225, 3) := by decide +kernel
theorem dX11_alike_37 : decode cX11_alike 37 = .ok (.aload_n 0, 1) := by decide +kernel
theorem dX11_alike_38 : decode cX11_alike 38 = .ok (.getfield 91, 3) := by decide +kernel
theorem dX11_alike_41 : decode cX11_alike 41 = .ok (.iload_n 1, 1) := by decide +kernel
theorem dX11_alike_42 : decode cX11_alike 42 = .ok (.aaload, 1) := by decide +kernel
theorem dX11_alike_43 : decode cX11_alike 43 = .ok (.astore_n 2, 1) := by decide +kernel
theorem dX11_alike_44 : decode cX11_alike 44 = .ok (.aload_n 0, 1) := by decide +kernel
theorem dX11_alike_45 : decode cX11_alike 45 = .ok (.getfield 78, 3) := by decide +kernel
theorem dX11_alike_48 : decode cX11_alike 48 = .ok (.getfield 361, 3) := by decide +kernel
theorem dX11_alike_51 : decode cX11_alike 51 = .ok (.ifCond .eq 10, 3) := by decide +kernel
theorem dX11_alike_54 : decode cX11_alike 54 = .ok (.aload_n 2, 1) := by decide +kernel
theorem dX11_alike_55 : decode cX11_alike 55 = .ok (.getfield 364, 3) := by decide +kernel
theorem dX11_alike_58 : decode cX11_alike 58 = .ok (.ifCond .ne 6, 3) := by decide +kernel
theorem dX11_alike_61 : decode cX11_alike 61 = .ok (.bipush (-2), 2) := by decide +kernel
theorem dX11_alike_63 : decode cX11_alike 63 = .ok (.ireturn, 1) := by decide +kernel
theorem dX11_alike_64 : decode cX11_alike 64 = .ok (.aload_n 0, 1) := by decide +kernel
theorem dX11_alike_65 : decode cX11_alike 65 = .ok (.getfield 78, 3) := by decide +kernel
theorem dX11_alike_68 : decode cX11_alike 68 = .ok (.aload_n 2, 1) := by decide +kernel
theorem dX11_alike_69 : decode cX11_alike 69 = .ok (.getfield 365, 3) := by decide +kernel
theorem dX11_alike_72 : decode cX11_alike 72 = .ok (.aload_n 2, 1) := by decide +kernel
theorem dX11_alike_73 : decode cX11_alike 73 = .ok (.getfield 364, 3) := by decide +kernel
theorem dX11_alike_76 : decode cX11_alike 76 = .ok (.invokevirtual 368, 3) := by decide +kernel
theorem dX11_alike_79 : decode cX11_alike 79 = .ok (.ifCond .eq 7, 3) := by decide +kernel
