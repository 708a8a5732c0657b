theorem dX11_alike_82 : decode cX11_alike 82 = .ok (.iconst 1, 1) := by decide +kernel
theorem dX11_alike_83 : decode cX11_alike 83 = .ok (.goto 4, 3) := by decide +kernel
theorem dX11_alike_86 : decode cX11_alike 86 = .ok (.iconst 0, 1) := by decide +kernel
theorem dX11_alike_87 : decode cX11_alike 87 = .ok (.ireturn, 1) := by decide +kernel
theorem dX11_best_0 : decode cX11_best 0 = .ok (.iload_n 1, 1) := by decide +kernel
theorem dX11_best_1 : decode cX11_best 1 = .ok (.ifCond .lt 15, 3) := by decide +kernel
theorem dX11_best_4 : decode cX11_best 4 = .ok (.iload_n 1, 1) := by decide +kernel
theorem dX11_best_5 : decode cX11_best 5 = .ok (.iconst 2, 1) := by decide +kernel
theorem dX11_best_6 : decode cX11_best 6 = .ok (.if_icmp .gt 10, 3) := by decide +kernel
theorem dX11_best_9 : decode cX11_best 9 = .ok (.aload_n 0, 1) := by decide +kernel
theorem dX11_best_10 : decode cX11_best 10 = .ok (.invokevirtual 184, 3) := by decide +kernel
theorem dX11_best_13 : decode cX11_best 13 = .ok (.ifCond .ne 5, 3) := by decide +kernel
theorem dX11_best_16 : decode cX11_best 16 = .ok (.iconst (-1), 1) := by decide +kernel
theorem dX11_best_17 : decode cX11_best 17 = .ok (.ireturn, 1) := by decide +kernel
theorem dX11_best_18 : decode cX11_best 18 = .ok (.aload_n 0, 1) := by decide +kernel
theorem dX11_best_19 : decode cX11_best 19 = .ok (.getfield 50, 3) := by decide +kernel
theorem dX11_best_22 : decode cX11_best 22 = .ok (.aload_n 0, 1) := by decide +kernel
theorem dX11_best_23 : decode cX11_best 23 = .ok (.getfield 34, 3) := by decide +kernel
theorem dX11_best_26 : decode cX11_best 26 = .ok (.invokevirtual 195, 3) := by decide +kernel
theorem dX11_best_29 : decode cX11_best 29 = .ok (.aload_n 0, 1) := by decide +kernel
theorem dX11_best_30 : decode cX11_best 30 = .ok (.getfield 50, 3) := by decide +kernel
theorem dX11_best_33 : decode cX11_best 33 = .ok (.getfield 198, 3) := by decide +kernel
theorem dX11_best_36 : decode cX11_best 36 = .ok (.iconst (-1), 1) := by decide +kernel
theorem dX11_best_37 : decode cX11_best 37 = .ok (.if_icmp .ne 6, 3) := by decide +kernel
theorem dX11_best_40 : decode cX11_best 40 = .ok (.bipush (-2), 2) := by decide +kernel
theorem dX11_best_42 : decode cX11_best 42 = .ok (.ireturn, 1) := by decide +kernel
theorem dX11_best_43 : decode cX11_best 43 = .ok (.iload_n 1, 1) := by decide +kernel
theorem dX11_best_44 : decode cX11_best 44 = .ok (.ifCond .ne 11, 3) := by decide +kernel
theorem dX11_best_47 : decode cX11_best 47 = .ok (.aload_n 0, 1) := by decide +kernel
theorem dX11_best_48 : decode cX11_best 48 = .ok (.getfield 50, 3) := by decide +kernel
theorem dX11_best_51 : decode cX11_best 51 = .ok (.getfield 198, 3) := by decide +kernel
theorem dX11_best_54 : decode cX11_best 54 = .ok (.ireturn, 1) := by decide +kernel
theorem dX11_best_55 : decode cX11_best 55 = .ok (.iload_n 1, 1) := by decide +kernel
theorem dX11_best_56 : decode cX11_best 56 = .ok (.iconst 1, 1) := by decide +kernel
theorem dX11_best_57 : decode cX11_best 57 = .ok (.if_icmp .ne 13, 3) := by decide +kernel
theorem dX11_best_60 : decode cX11_best 60 = .ok (.aload_n 0, 1) := by decide +kernel
theorem dX11_best_61 : decode cX11_best 61 = .ok (.getfield 50, 3) := by decide +kernel
theorem dX11_best_64 : decode cX11_best 64 = .ok (.getfield 204, 3) := by decide +kernel
theorem dX11_best_67 : decode cX11_best 67 = .ok (.goto 10, 3) := by decide +kernel
theorem dX11_best_70 : decode cX11_best 70 = .ok (.aload_n 0, 1) := by decide +kernel
theorem dX11_best_71 : decode cX11_best 71 = .ok (.getfield 50, 3) := by decide +kernel
theorem dX11_best_74 : decode cX11_best 74 = .ok (.getfield 201, 3) := by decide +kernel
theorem dX11_best_77 : decode cX11_best 77 = .ok (.ireturn, 1) := by decide +kernel
theorem dX11_count_0 : decode cX11_count 0 = .ok (.iload_n 1, 1) := by decide +kernel
theorem dX11_count_1 : decode cX11_count 1 = .ok (.tableswitch 155 0 10 #[59, 67, 75, 83, 91, 99, 107, 115, 123, 128, 133], 59) := by decide +kernel
theorem dX11_count_60 : decode cX11_count 60 = .ok (.aload_n 0, 1) := by decide +kernel
theorem dX11_count_61 : decode cX11_count 61 = .ok (.getfield 27, 3) := by decide +kernel
theorem dX11_count_64 : decode cX11_count 64 = .ok (.getfield 372, 3) := by decide +kernel
theorem dX11_count_67 : decode cX11_count 67 = .ok (.ireturn, 1) := by decide +kernel
theorem dX11_count_68 : decode cX11_count 68 = .ok (.aload_n 0, 1) := by decide +kernel
theorem dX11_count_69 : decode cX11_count 69 = .ok (.getfield 27, 3) := by decide +kernel
theorem dX11_count_72 : decode cX11_count 72 = .ok (.getfield 123, 3) := by decide +kernel
theorem dX11_count_75 : decode cX11_count 75 = .ok (.ireturn, 1) := by decide +kernel
theorem dX11_count_76 : decode cX11_count 76 = .ok (.aload_n 0, 1) := by decide +kernel
theorem dX11_count_77 : decode cX11_count 77 = .ok (.getfield 27, 3) := by decide +kernel
theorem dX11_count_80 : decode cX11_count 80 = .ok (.getfield 172, 3) := by decide +kernel
theorem dX11_count_83 : decode cX11_count 83 = .ok (.ireturn, 1) := by decide +kernel
theorem dX11_count_84 : decode cX11_count 84 = .ok (.aload_n 0, 1) := by decide +kernel
theorem dX11_count_85 : decode cX11_count 85 = .ok (.getfield 27, 3) := by decide +kernel
theorem dX11_count_88 : decode cX11_count 88 = .ok (.getfield 373, 3) := by decide +kernel
theorem dX11_count_91 : decode cX11_count 91 = .ok (.ireturn, 1) := by decide +kernel
theorem dX11_count_92 : decode cX11_count 92 = .ok (.aload_n 0, 1) := by decide +kernel
theorem dX11_count_93 : decode cX11_count 93 = .ok (.getfield 34, 3) := by decide +kernel
theorem dX11_count_96 : decode cX11_count 96 = .ok (.invokevirtual 152, 3) := by decide +kernel
theorem dX11_count_99 : decode cX11_count 99 = .ok (.ireturn, 1) := by decide +kernel
theorem dX11_count_100 : decode cX11_count 100 = .ok (.aload_n 0, 1) := by decide +kernel
theorem dX11_count_101 : decode cX11_count 101 = .ok (.getfield 34, 3) := by decide +kernel
theorem dX11_count_104 : decode cX11_count 104 = .ok (.getfield 162, 3) := by decide +kernel
theorem dX11_count_107 : decode cX11_count 107 = .ok (.ireturn, 1) := by decide +kernel
theorem dX11_count_108 : decode cX11_count 108 = .ok (.aload_n 0, 1) := by decide +kernel
theorem dX11_count_109 : decode cX11_count 109 = .ok (.getfield 41, 3) := by decide +kernel
theorem dX11_count_112 : decode cX11_count 112 = .ok (.getfield 294, 3) := by decide +kernel
theorem dX11_count_115 : decode cX11_count 115 = .ok (.ireturn, 1) := by decide +kernel
theorem dX11_count_116 : decode cX11_count 116 = .ok (.aload_n 0, 1) := by decide +kernel
theorem dX11_count_117 : decode cX11_count 117 = .ok (.getfield 85, 3) := by decide +kernel
theorem dX11_count_120 : decode cX11_count 120 = .ok (.getfield 216, 3) := by decide +kernel
theorem dX11_count_123 : decode cX11_count 123 = .ok (.ireturn, 1) := by decide +kernel
theorem dX11_count_124 : decode cX11_count 124 = .ok (.aload_n 0, 1) := by decide +kernel
theorem dX11_count_125 : decode cX11_count 125 = .ok (.getfield 13, 3) := by decide +kernel
theorem dX11_count_128 : decode cX11_count 128 = .ok (.ireturn, 1) := by decide +kernel
theorem dX11_count_129 : decode cX11_count 129 = .ok (.aload_n 0, 1) := by decide +kernel
theorem dX11_count_130 : decode cX11_count 130 = .ok (.invokevirtual 376, 3) := by decide +kernel
theorem dX11_count_133 : decode cX11_count 133 = .ok (.ireturn, 1) := by decide +kernel
theorem dX11_count_134 : decode cX11_count 134 = .ok (.aload_n 0, 1) := by decide +kernel
theorem dX11_count_135 : decode cX11_count 135 = .ok (.getfield 27, 3) := by decide +kernel
theorem dX11_count_138 : decode cX11_count 138 = .ok (.getfield 172, 3) := by decide +kernel
theorem dX11_count_141 : decode cX11_count 141 = .ok (.aload_n 0, 1) := by decide +kernel
theorem dX11_count_142 : decode cX11_count 142 = .ok (.getfield 34, 3) := by decide +kernel
theorem dX11_count_145 : decode cX11_count 145 = .ok (.invokevirtual 152, 3) := by decide +kernel
theorem dX11_count_148 : decode cX11_count 148 = .ok (.isub, 1) := by decide +kernel
theorem dX11_count_149 : decode cX11_count 149 = .ok (.aload_n 0, 1) := by decide +kernel
theorem dX11_count_150 : decode cX11_count 150 = .ok (.iconst (-1), 1) := by decide +kernel
theorem dX11_count_151 : decode cX11_count 151 = .ok (.invokevirtual 379, 3) := by decide +kernel
theorem dX11_count_154 : decode cX11_count 154 = .ok (.isub, 1) := by decide +kernel
theorem dX11_count_155 : decode cX11_count 155 = .ok (.ireturn, 1) := by decide +kernel
theorem dX11_count_156 : decode cX11_count 156 = .ok (.iconst (-1), 1) := by decide +kernel
theorem dX11_count_157 : decode cX11_count 157 = .ok (.ireturn, 1) := by decide +kernel
theorem dX11_keptBits_0 : decode cX11_keptBits 0 = .ok (.iconst 0, 1) := by decide +kernel
theorem dX11_keptBits_1 : decode cX11_keptBits 1 = .ok (.istore_n 1, 1) := by decide +kernel
theorem dX11_keptBits_2 : decode cX11_keptBits 2 = .ok (.iconst 0, 1) := by decide +kernel
theorem dX11_keptBits_3 : decode cX11_keptBits 3 = .ok (.istore_n 2, 1) := by decide +kernel
theorem dX11_keptBits_4 : decode cX11_keptBits 4 = .ok (.iload_n 2, 1) := by decide +kernel
theorem dX11_keptBits_5 : decode cX11_keptBits 5 = .ok (.iconst 2, 1) := by decide +kernel
theorem dX11_keptBits_6 : decode cX11_keptBits 6 = .ok (.if_icmp .ge 27, 3) := by decide +kernel
theorem dX11_keptBits_9 : decode cX11_keptBits 9 = .ok (.aload_n 0, 1) := by decide +kernel
theorem dX11_keptBits_10 : decode cX11_keptBits 10 = .ok (.getfield 91, 3) := by decide +kernel
theorem dX11_keptBits_13 : decode cX11_keptBits 13 = .ok (.iload_n 2, 1) := by decide +kernel
theorem dX11_keptBits_14 : decode cX11_keptBits 14 = .ok (.aaload, 1) := by decide +kernel
theorem dX11_keptBits_15 : decode cX11_keptBits 15 = .ok (.getfield 233, 3) := by decide +kernel
theorem dX11_keptBits_18 : decode cX11_keptBits 18 = .ok (.ifCond .eq 9, 3) := by decide +kernel
theorem dX11_keptBits_21 : decode cX11_keptBits 21 = .ok (.iload_n 1, 1) := by decide +kernel
theorem dX11_keptBits_22 : decode cX11_keptBits 22 = .ok (.iconst 1, 1) := by decide +kernel
theorem dX11_keptBits_23 : decode cX11_keptBits 23 = .ok (.iload_n 2, 1) := by decide +kernel
theorem dX11_keptBits_24 : decode cX11_keptBits 24 = .ok (.ishl, 1) := by decide +kernel
theorem dX11_keptBits_25 : decode cX11_keptBits 25 = .ok (.ior, 1) := by decide +kernel
theorem dX11_keptBits_26 : decode cX11_keptBits 26 = .ok (.istore_n 1, 1) := by decide +kernel
theorem dX11_keptBits_27 : decode cX11_keptBits 27 = .ok (.iinc 2 1, 3) := by decide +kernel
theorem dX11_keptBits_30 : decode cX11_keptBits 30 = .ok (.goto (-26), 3) := by decide +kernel
theorem dX11_keptBits_33 : decode cX11_keptBits 33 = .ok (.iload_n 1, 1) := by decide +kernel
theorem dX11_keptBits_34 : decode cX11_keptBits 34 = .ok (.ireturn, 1) := by decide +kernel
theorem dX11_settle_0 : decode cX11_settle 0 = .ok (.aload_n 0, 1) := by decide +kernel
theorem dX11_settle_1 : decode cX11_settle 1 = .ok (.getfield 41, 3) := by decide +kernel
theorem dX11_settle_4 : decode cX11_settle 4 = .ok (.aload_n 0, 1) := by decide +kernel
theorem dX11_settle_5 : decode cX11_settle 5 = .ok (.getfield 27, 3) := by decide +kernel
theorem dX11_settle_8 : decode cX11_settle 8 = .ok (.aload_n 0, 1) := by decide +kernel
theorem dX11_settle_9 : decode cX11_settle 9 = .ok (.getfield 34, 3) := by decide +kernel
theorem dX11_settle_12 : decode cX11_settle 12 = .ok (.invokevirtual 382, 3) := by decide +kernel
theorem dX11_settle_15 : decode cX11_settle 15 = .ok (.aload_n 0, 1) := by decide +kernel
theorem dX11_settle_16 : decode cX11_settle 16 = .ok (.getfield 50, 3) := by decide +kernel
theorem dX11_settle_19 : decode cX11_settle 19 = .ok (.iconst 0, 1) := by decide +kernel
theorem dX11_settle_20 : decode cX11_settle 20 = .ok (.putfield 386, 3) := by decide +kernel
theorem dX11_settle_23 : decode cX11_settle 23 = .ok (.aload_n 0, 1) := by decide +kernel
theorem dX11_settle_24 : decode cX11_settle 24 = .ok (.getfield 64, 3) := by decide +kernel
theorem dX11_settle_27 : decode cX11_settle 27 = .ok (.iconst 0, 1) := by decide +kernel
theorem dX11_settle_28 : decode cX11_settle 28 = .ok (.putfield 389, 3) := by decide +kernel
theorem dX11_settle_31 : decode cX11_settle 31 = .ok (.aload_n 0, 1) := by decide +kernel
theorem dX11_settle_32 : decode cX11_settle 32 = .ok (.getfield 71, 3) := by decide +kernel
theorem dX11_settle_35 : decode cX11_settle 35 = .ok (.iconst 0, 1) := by decide +kernel
theorem dX11_settle_36 : decode cX11_settle 36 = .ok (.putfield 390, 3) := by decide +kernel
theorem dX11_settle_39 : decode cX11_settle 39 = .ok (.return_, 1) := by decide +kernel
theorem dX11_isFace_0 : decode cX11_isFace 0 = .ok (.iload_n 1, 1) := by decide +kernel
theorem dX11_isFace_1 : decode cX11_isFace 1 = .ok (.ifCond .lt 18, 3) := by decide +kernel
theorem dX11_isFace_4 : decode cX11_isFace 4 = .ok (.iload_n 1, 1) := by decide +kernel
theorem dX11_isFace_5 : decode cX11_isFace 5 = .ok (.aload_n 0, 1) := by decide +kernel
theorem dX11_isFace_6 : decode cX11_isFace 6 = .ok (.getfield 27, 3) := by decide +kernel
theorem dX11_isFace_9 : decode cX11_isFace 9 = .ok (.getfield 123, 3) := by decide +kernel
theorem dX11_isFace_12 : decode cX11_isFace 12 = .ok (.if_icmp .ge 7, 3) := by decide +kernel
theorem dX11_isFace_15 : decode cX11_isFace 15 = .ok (.iconst 1, 1) := by decide +kernel
theorem dX11_isFace_16 : decode cX11_isFace 16 = .ok (.goto 4, 3) := by decide +kernel
theorem dX11_isFace_19 : decode cX11_isFace 19 = .ok (.iconst 0, 1) := by decide +kernel
theorem dX11_isFace_20 : decode cX11_isFace 20 = .ok (.ireturn, 1) := by decide +kernel
theorem dX11_isEdge_0 : decode cX11_isEdge 0 = .ok (.iload_n 1, 1) := by decide +kernel
theorem dX11_isEdge_1 : decode cX11_isEdge 1 = .ok (.ifCond .lt 18, 3) := by decide +kernel
theorem dX11_isEdge_4 : decode cX11_isEdge 4 = .ok (.iload_n 1, 1) := by decide +kernel
theorem dX11_isEdge_5 : decode cX11_isEdge 5 = .ok (.aload_n 0, 1) := by decide +kernel
theorem dX11_isEdge_6 : decode cX11_isEdge 6 = .ok (.getfield 27, 3) := by decide +kernel
theorem dX11_isEdge_9 : decode cX11_isEdge 9 = .ok (.getfield 172, 3) := by decide +kernel
theorem dX11_isEdge_12 : decode cX11_isEdge 12 = .ok (.if_icmp .ge 7, 3) := by decide +kernel
theorem dX11_isEdge_15 : decode cX11_isEdge 15 = .ok (.iconst 1, 1) := by decide +kernel
theorem dX11_isEdge_16 : decode cX11_isEdge 16 = .ok (.goto 4, 3) := by decide +kernel
theorem dX11_isEdge_19 : decode cX11_isEdge 19 = .ok (.iconst 0, 1) := by decide +kernel
theorem dX11_isEdge_20 : decode cX11_isEdge 20 = .ok (.ireturn, 1) := by decide +kernel
theorem dX11_isVertex_0 : decode cX11_isVertex 0 = .ok (.iload_n 1, 1) := by decide +kernel
theorem dX11_isVertex_1 : decode cX11_isVertex 1 = .ok (.ifCond .lt 18, 3) := by decide +kernel
theorem dX11_isVertex_4 : decode cX11_isVertex 4 = .ok (.iload_n 1, 1) := by decide +kernel
theorem dX11_isVertex_5 : decode cX11_isVertex 5 = .ok (.aload_n 0, 1) := by decide +kernel
theorem dX11_isVertex_6 : decode cX11_isVertex 6 = .ok (.getfield 27, 3) := by decide +kernel
theorem dX11_isVertex_9 : decode cX11_isVertex 9 = .ok (.getfield 373, 3) := by decide +kernel
theorem dX11_isVertex_12 : decode cX11_isVertex 12 = .ok (.if_icmp .ge 7, 3) := by decide +kernel
theorem dX11_isVertex_15 : decode cX11_isVertex 15 = .ok (.iconst 1, 1) := by decide +kernel
theorem dX11_isVertex_16 : decode cX11_isVertex 16 = .ok (.goto 4, 3) := by decide +kernel
theorem dX11_isVertex_19 : decode cX11_isVertex 19 = .ok (.iconst 0, 1) := by decide +kernel
theorem dX11_isVertex_20 : decode cX11_isVertex 20 = .ok (.ireturn, 1) := by decide +kernel
theorem dX11_isShelf_0 : decode cX11_isShelf 0 = .ok (.iload_n 1, 1) := by decide +kernel
theorem dX11_isShelf_1 : decode cX11_isShelf 1 = .ok (.ifCond .lt 12, 3) := by decide +kernel
theorem dX11_isShelf_4 : decode cX11_isShelf 4 = .ok (.iload_n 1, 1) := by decide +kernel
theorem dX11_isShelf_5 : decode cX11_isShelf 5 = .ok (.iconst 2, 1) := by decide +kernel
theorem dX11_isShelf_6 : decode cX11_isShelf 6 = .ok (.if_icmp .ge 7, 3) := by decide +kernel
theorem dX11_isShelf_9 : decode cX11_isShelf 9 = .ok (.iconst 1, 1) := by decide +kernel
theorem dX11_isShelf_10 : decode cX11_isShelf 10 = .ok (.goto 4, 3) := by decide +kernel
theorem dX11_isShelf_13 : decode cX11_isShelf 13 = .ok (.iconst 0, 1) := by decide +kernel
theorem dX11_isShelf_14 : decode cX11_isShelf 14 = .ok (.ireturn, 1) := by decide +kernel
theorem dX11_isFree_0 : decode cX11_isFree 0 = .ok (.aload_n 0, 1) := by decide +kernel
theorem dX11_isFree_1 : decode cX11_isFree 1 = .ok (.getfield 34, 3) := by decide +kernel
theorem dX11_isFree_4 : decode cX11_isFree 4 = .ok (.iload_n 1, 1) := by decide +kernel
theorem dX11_isFree_5 : decode cX11_isFree 5 = .ok (.invokevirtual 130, 3) := by decide +kernel
theorem dX11_isFree_8 : decode cX11_isFree 8 = .ok (.ifCond .ne 41, 3) := by decide +kernel
theorem dX11_isFree_11 : decode cX11_isFree 11 = .ok (.aload_n 0, 1) := by decide +kernel
theorem dX11_isFree_12 : decode cX11_isFree 12 = .ok (.getfield 41, 3) := by decide +kernel
theorem dX11_isFree_15 : decode cX11_isFree 15 = .ok (.aload_n 0, 1) := by decide +kernel
theorem dX11_isFree_16 : decode cX11_isFree 16 = .ok (.getfield 27, 3) := by decide +kernel
theorem dX11_isFree_19 : decode cX11_isFree 19 = .ok (.getfield 261, 3) := by decide +kernel
theorem dX11_isFree_22 : decode cX11_isFree 22 = .ok (.iconst 2, 1) := by decide +kernel
theorem dX11_isFree_23 : decode cX11_isFree 23 = .ok (.iload_n 1, 1) := by decide +kernel
theorem dX11_isFree_24 : decode cX11_isFree 24 = .ok (.imul, 1) := by decide +kernel
theorem dX11_isFree_25 : decode cX11_isFree 25 = .ok (.iaload, 1) := by decide +kernel
theorem dX11_isFree_26 : decode cX11_isFree 26 = .ok (.aload_n 0, 1) := by decide +kernel
theorem dX11_isFree_27 : decode cX11_isFree 27 = .ok (.getfield 27, 3) := by decide +kernel
theorem dX11_isFree_30 : decode cX11_isFree 30 = .ok (.getfield 261, 3) := by decide +kernel
theorem dX11_isFree_33 : decode cX11_isFree 33 = .ok (.iconst 2, 1) := by decide +kernel
theorem dX11_isFree_34 : decode cX11_isFree 34 = .ok (.iload_n 1, 1) := by decide +kernel
theorem dX11_isFree_35 : decode cX11_isFree 35 = .ok (.imul, 1) := by decide +kernel
theorem dX11_isFree_36 : decode cX11_isFree 36 = .ok (.iconst 1, 1) := by decide +kernel
theorem dX11_isFree_37 : decode cX11_isFree 37 = .ok (.iadd, 1) := by decide +kernel
theorem dX11_isFree_38 : decode cX11_isFree 38 = .ok (.iaload, 1) := by decide +kernel
theorem dX11_isFree_39 : decode cX11_isFree 39 = .ok (.invokevirtual 391, 3) := by decide +kernel
theorem dX11_isFree_42 : decode cX11_isFree 42 = .ok (.ifCond .eq 7, 3) := by decide +kernel
theorem dX11_isFree_45 : decode cX11_isFree 45 = .ok (.iconst 1, 1) := by decide +kernel
theorem dX11_isFree_46 : decode cX11_isFree 46 = .ok (.goto 4, 3) := by decide +kernel
theorem dX11_isFree_49 : decode cX11_isFree 49 = .ok (.iconst 0, 1) := by decide +kernel
theorem dX11_isFree_50 : decode cX11_isFree 50 = .ok (.ireturn, 1) := by decide +kernel
theorem dX11_allJoined_0 : decode cX11_allJoined 0 = .ok (.aload_n 0, 1) := by decide +kernel
theorem dX11_allJoined_1 : decode cX11_allJoined 1 = .ok (.getfield 27, 3) := by decide +kernel
theorem dX11_allJoined_4 : decode cX11_allJoined 4 = .ok (.getfield 123, 3) := by decide +kernel
theorem dX11_allJoined_7 : decode cX11_allJoined 7 = .ok (.ifCond .le 26, 3) := by decide +kernel
theorem dX11_allJoined_10 : decode cX11_allJoined 10 = .ok (.aload_n 0, 1) := by decide +kernel
theorem dX11_allJoined_11 : decode cX11_allJoined 11 = .ok (.getfield 34, 3) := by decide +kernel
theorem dX11_allJoined_14 : decode cX11_allJoined 14 = .ok (.invokevirtual 152, 3) := by decide +kernel
theorem dX11_allJoined_17 : decode cX11_allJoined 17 = .ok (.aload_n 0, 1) := by decide +kernel
theorem dX11_allJoined_18 : decode cX11_allJoined 18 = .ok (.getfield 27, 3) := by decide +kernel
theorem dX11_allJoined_21 : decode cX11_allJoined 21 = .ok (.getfield 123, 3) := by decide +kernel
theorem dX11_allJoined_24 : decode cX11_allJoined 24 = .ok (.iconst 1, 1) := by decide +kernel
theorem dX11_allJoined_25 : decode cX11_allJoined 25 = .ok (.isub, 1) := by decide +kernel
theorem dX11_allJoined_26 : decode cX11_allJoined 26 = .ok (.if_icmp .ne 7, 3) := by decide +kernel
theorem dX11_allJoined_29 : decode cX11_allJoined 29 = .ok (.iconst 1, 1) := by decide +kernel
theorem dX11_allJoined_30 : decode cX11_allJoined 30 = .ok (.goto 4, 3) := by decide +kernel
theorem dX11_allJoined_33 : decode cX11_allJoined 33 = .ok (.iconst 0, 1) := by decide +kernel
theorem dX11_allJoined_34 : decode cX11_allJoined 34 = .ok (.ireturn, 1) := by decide +kernel
theorem dX11_netFaces_0 : decode cX11_netFaces 0 = .ok (.aload_n 0, 1) := by decide +kernel
theorem dX11_netFaces_1 : decode cX11_netFaces 1 = .ok (.invokevirtual 184, 3) := by decide +kernel
theorem dX11_netFaces_4 : decode cX11_netFaces 4 = .ok (.ifCond .eq 24, 3) := by decide +kernel
theorem dX11_netFaces_7 : decode cX11_netFaces 7 = .ok (.aload_n 0, 1) := by decide +kernel
theorem dX11_netFaces_8 : decode cX11_netFaces 8 = .ok (.getfield 41, 3) := by decide +kernel
theorem dX11_netFaces_11 : decode cX11_netFaces 11 = .ok (.iconst (-1), 1) := by decide +kernel
theorem dX11_netFaces_12 : decode cX11_netFaces 12 = .ok (.invokevirtual 192, 3) := by decide +kernel
theorem dX11_netFaces_15 : decode cX11_netFaces 15 = .ok (.ifCond .ne 13, 3) := by decide +kernel
theorem dX11_netFaces_18 : decode cX11_netFaces 18 = .ok (.aload_n 0, 1) := by decide +kernel
theorem dX11_netFaces_19 : decode cX11_netFaces 19 = .ok (.getfield 27, 3) := by decide +kernel
theorem dX11_netFaces_22 : decode cX11_netFaces 22 = .ok (.getfield 123, 3) := by decide +kernel
theorem dX11_netFaces_25 : decode cX11_netFaces 25 = .ok (.goto 4, 3) := by decide +kernel
theorem dX11_netFaces_28 : decode cX11_netFaces 28 = .ok (.iconst 0, 1) := by decide +kernel
theorem dX11_netFaces_29 : decode cX11_netFaces 29 = .ok (.ireturn, 1) := by decide +kernel
theorem dX11_traceBorder_0 : decode cX11_traceBorder 0 = .ok (.aload_n 0, 1) := by decide +kernel
theorem dX11_traceBorder_1 : decode cX11_traceBorder 1 = .ok (.invokevirtual 184, 3) := by decide +kernel
theorem dX11_traceBorder_4 : decode cX11_traceBorder 4 = .ok (.ifCond .ne 5, 3) := by decide +kernel
theorem dX11_traceBorder_7 : decode cX11_traceBorder 7 = .ok (.iconst 0, 1) := by decide +kernel
theorem dX11_traceBorder_8 : decode cX11_traceBorder 8 = .ok (.ireturn, 1) := by decide +kernel
theorem dX11_traceBorder_9 : decode cX11_traceBorder 9 = .ok (.aload_n 0, 1) := by decide +kernel
theorem dX11_traceBorder_10 : decode cX11_traceBorder 10 = .ok (.getfield 64, 3) := by decide +kernel
theorem dX11_traceBorder_13 : decode cX11_traceBorder 13 = .ok (.aload_n 0, 1) := by decide +kernel
theorem dX11_traceBorder_14 : decode cX11_traceBorder 14 = .ok (.getfield 27, 3) := by decide +kernel
theorem dX11_traceBorder_17 : decode cX11_traceBorder 17 = .ok (.aload_n 0, 1) := by decide +kernel
theorem dX11_traceBorder_18 : decode cX11_traceBorder 18 = .ok (.getfield 34, 3) := by decide +kernel
theorem dX11_traceBorder_21 : decode cX11_traceBorder 21 = .ok (.invokevirtual 395, 3) := by decide +kernel
theorem dX11_traceBorder_24 : decode cX11_traceBorder 24 = .ok (.iconst 1, 1) := by decide +kernel
theorem dX11_traceBorder_25 : decode cX11_traceBorder 25 = .ok (.ireturn, 1) := by decide +kernel
theorem dX11_nextSlot_0 : decode cX11_nextSlot 0 = .ok (.iload_n 0, 1) := by decide +kernel
theorem dX11_nextSlot_1 : decode cX11_nextSlot 1 = .ok (.bipush (-4), 2) := by decide +kernel
theorem dX11_nextSlot_3 : decode cX11_nextSlot 3 = .ok (.iand, 1) := by decide +kernel
theorem dX11_nextSlot_4 : decode cX11_nextSlot 4 = .ok (.iload_n 0, 1) := by decide +kernel
theorem dX11_nextSlot_5 : decode cX11_nextSlot 5 = .ok (.iconst 1, 1) := by decide +kernel
theorem dX11_nextSlot_6 : decode cX11_nextSlot 6 = .ok (.iadd, 1) := by decide +kernel
theorem dX11_nextSlot_7 : decode cX11_nextSlot 7 = .ok (.iconst 3, 1) := by decide +kernel
theorem dX11_nextSlot_8 : decode cX11_nextSlot 8 = .ok (.iand, 1) := by decide +kernel
theorem dX11_nextSlot_9 : decode cX11_nextSlot 9 = .ok (.ior, 1) := by decide +kernel
theorem dX11_nextSlot_10 : decode cX11_nextSlot 10 = .ok (.ireturn, 1) := by decide +kernel
theorem dX12_init_0 : decode cX12_init 0 = .ok (.aload_n 0, 1) := by decide +kernel
theorem dX12_init_1 : decode cX12_init 1 = .ok (.invokespecial 1, 3) := by decide +kernel
theorem dX12_init_4 : decode cX12_init 4 = .ok (.aload_n 0, 1) := by decide +kernel
theorem dX12_init_5 : decode cX12_init 5 = .ok (.sipush 143, 3) := by decide +kernel
theorem dX12_init_8 : decode cX12_init 8 = .ok (.newarray .int, 2) := by decide +kernel
theorem dX12_init_10 : decode cX12_init 10 = .ok (.putfield 9, 3) := by decide +kernel
theorem dX12_init_13 : decode cX12_init 13 = .ok (.aload_n 0, 1) := by decide +kernel
theorem dX12_init_14 : decode cX12_init 14 = .ok (.sipush 143, 3) := by decide +kernel
theorem dX12_init_17 : decode cX12_init 17 = .ok (.newarray .int, 2) := by decide +kernel
theorem dX12_init_19 : decode cX12_init 19 = .ok (.putfield 13, 3) := by decide +kernel
theorem dX12_init_22 : decode cX12_init 22 = .ok (.aload_n 0, 1) := by decide +kernel
theorem dX12_init_23 : decode cX12_init 23 = .ok (.sipush 143, 3) := by decide +kernel
theorem dX12_init_26 : decode cX12_init 26 = .ok (.newarray .int, 2) := by decide +kernel
theorem dX12_init_28 : decode cX12_init 28 = .ok (.putfield 16, 3) := by decide +kernel
theorem dX12_init_31 : decode cX12_init 31 = .ok (.aload_n 0, 1) := by decide +kernel
theorem dX12_init_32 : decode cX12_init 32 = .ok (.sipush 1430, 3) := by decide +kernel
theorem dX12_init_35 : decode cX12_init 35 = .ok (.newarray .int, 2) := by decide +kernel
theorem dX12_init_37 : decode cX12_init 37 = .ok (.putfield 19, 3) := by decide +kernel
theorem dX12_init_40 : decode cX12_init 40 = .ok (.aload_n 0, 1) := by decide +kernel
theorem dX12_init_41 : decode cX12_init 41 = .ok (.sipush 286, 3) := by decide +kernel
theorem dX12_init_44 : decode cX12_init 44 = .ok (.newarray .int, 2) := by decide +kernel
theorem dX12_init_46 : decode cX12_init 46 = .ok (.putfield 22, 3) := by decide +kernel
theorem dX12_init_49 : decode cX12_init 49 = .ok (.aload_n 0, 1) := by decide +kernel
theorem dX12_init_50 : decode cX12_init 50 = .ok (.iconst 2, 1) := by decide +kernel
theorem dX12_init_51 : decode cX12_init 51 = .ok (.newarray .boolean, 2) := by decide +kernel
theorem dX12_init_53 : decode cX12_init 53 = .ok (.putfield 25, 3) := by decide +kernel
theorem dX12_init_56 : decode cX12_init 56 = .ok (.aload_n 0, 1) := by decide +kernel
theorem dX12_init_57 : decode cX12_init 57 = .ok (.sipush 200, 3) := by decide +kernel
theorem dX12_init_60 : decode cX12_init 60 = .ok (.newarray .byte, 2) := by decide +kernel
theorem dX12_init_62 : decode cX12_init 62 = .ok (.putfield 29, 3) := by decide +kernel
theorem dX12_init_65 : decode cX12_init 65 = .ok (.aload_n 0, 1) := by decide +kernel
theorem dX12_init_66 : decode cX12_init 66 = .ok (.bipush 30, 2) := by decide +kernel
theorem dX12_init_68 : decode cX12_init 68 = .ok (.newarray .int, 2) := by decide +kernel
theorem dX12_init_70 : decode cX12_init 70 = .ok (.putfield 33, 3) := by decide +kernel
theorem dX12_init_73 : decode cX12_init 73 = .ok (.aload_n 0, 1) := by decide +kernel
theorem dX12_init_74 : decode cX12_init 74 = .ok (.bipush 30, 2) := by decide +kernel
theorem dX12_init_76 : decode cX12_init 76 = .ok (.newarray .int, 2) := by decide +kernel
theorem dX12_init_78 : decode cX12_init 78 = .ok (.putfield 36, 3) := by decide +kernel
theorem dX12_init_81 : decode cX12_init 81 = .ok (.aload_n 0, 1) := by decide +kernel
theorem dX12_init_82 : decode cX12_init 82 = .ok (.bipush 120, 2) := by decide +kernel
theorem dX12_init_84 : decode cX12_init 84 = .ok (.newarray .int, 2) := by decide +kernel
theorem dX12_init_86 : decode cX12_init 86 = .ok (.putfield 39, 3) := by decide +kernel
theorem dX12_init_89 : decode cX12_init 89 = .ok (.aload_n 0, 1) := by decide +kernel
theorem dX12_init_90 : decode cX12_init 90 = .ok (.bipush 120, 2) := by decide +kernel
theorem dX12_init_92 : decode cX12_init 92 = .ok (.newarray .int, 2) := by decide +kernel
theorem dX12_init_94 : decode cX12_init 94 = .ok (.putfield 42, 3) := by decide +kernel
theorem dX12_init_97 : decode cX12_init 97 = .ok (.aload_n 0, 1) := by decide +kernel
theorem dX12_init_98 : decode cX12_init 98 = .ok (.bipush 120, 2) := by decide +kernel
theorem dX12_init_100 : decode cX12_init 100 = .ok (.newarray .int, 2) := by decide +kernel
theorem dX12_init_102 : decode cX12_init 102 = .ok (.putfield 45, 3) := by decide +kernel
theorem dX12_init_105 : decode cX12_init 105 = .ok (.aload_n 0, 1) := by decide +kernel
theorem dX12_init_106 : decode cX12_init 106 = .ok (.bipush 120, 2) := by decide +kernel
theorem dX12_init_108 : decode cX12_init 108 = .ok (.newarray .int, 2) := by decide +kernel
theorem dX12_init_110 : decode cX12_init 110 = .ok (.putfield 48, 3) := by decide +kernel
theorem dX12_init_113 : decode cX12_init 113 = .ok (.aload_n 0, 1) := by decide +kernel
theorem dX12_init_114 : decode cX12_init 114 = .ok (.bipush 60, 2) := by decide +kernel
theorem dX12_init_116 : decode cX12_init 116 = .ok (.newarray .int, 2) := by decide +kernel
theorem dX12_init_118 : decode cX12_init 118 = .ok (.putfield 51, 3) := by decide +kernel
theorem dX12_init_121 : decode cX12_init 121 = .ok (.aload_n 0, 1) := by decide +kernel
theorem dX12_init_122 : decode cX12_init 122 = .ok (.bipush 120, 2) := by decide +kernel
theorem dX12_init_124 : decode cX12_init 124 = .ok (.newarray .int, 2) := by decide +kernel
theorem dX12_init_126 : decode cX12_init 126 = .ok (.putfield 54, 3) := by decide +kernel
theorem dX12_init_129 : decode cX12_init 129 = .ok (.aload_n 0, 1) := by decide +kernel
theorem dX12_init_130 : decode cX12_init 130 = .ok (.bipush 120, 2) := by decide +kernel
theorem dX12_init_132 : decode cX12_init 132 = .ok (.newarray .int, 2) := by decide +kernel
theorem dX12_init_134 : decode cX12_init 134 = .ok (.putfield 57, 3) := by decide +kernel
theorem dX12_init_137 : decode cX12_init 137 = .ok (.aload_n 0, 1) := by decide +kernel
theorem dX12_init_138 : decode cX12_init 138 = .ok (.bipush 30, 2) := by decide +kernel
theorem dX12_init_140 : decode cX12_init 140 = .ok (.newarray .boolean, 2) := by decide +kernel
theorem dX12_init_142 : decode cX12_init 142 = .ok (.putfield 60, 3) := by decide +kernel
theorem dX12_init_145 : decode cX12_init 145 = .ok (.aload_n 0, 1) := by decide +kernel
theorem dX12_init_146 : decode cX12_init 146 = .ok (.bipush 30, 2) := by decide +kernel
theorem dX12_init_148 : decode cX12_init 148 = .ok (.newarray .int, 2) := by decide +kernel
theorem dX12_init_150 : decode cX12_init 150 = .ok (.putfield 63, 3) := by decide +kernel
theorem dX12_init_153 : decode cX12_init 153 = .ok (.aload_n 0, 1) := by decide +kernel
theorem dX12_init_154 : decode cX12_init 154 = .ok (.bipush 30, 2) := by decide +kernel
theorem dX12_init_156 : decode cX12_init 156 = .ok (.newarray .int, 2) := by decide +kernel
theorem dX12_init_158 : decode cX12_init 158 = .ok (.putfield 66, 3) := by decide +kernel
theorem dX12_init_161 : decode cX12_init 161 = .ok (.aload_n 0, 1) := by decide +kernel
theorem dX12_init_162 : decode cX12_init 162 = .ok (.bipush 30, 2) := by decide +kernel
theorem dX12_init_164 : decode cX12_init 164 = .ok (.newarray .int, 2) := by decide +kernel
theorem dX12_init_166 : decode cX12_init 166 = .ok (.putfield 69, 3) := by decide +kernel
theorem dX12_init_169 : decode cX12_init 169 = .ok (.aload_n 0, 1) := by decide +kernel
theorem dX12_init_170 : decode cX12_init 170 = .ok (.bipush 30, 2) := by decide +kernel
theorem dX12_init_172 : decode cX12_init 172 = .ok (.newarray .boolean, 2) := by decide +kernel
theorem dX12_init_174 : decode cX12_init 174 = .ok (.putfield 72, 3) := by decide +kernel
theorem dX12_init_177 : decode cX12_init 177 = .ok (.aload_n 0, 1) := by decide +kernel
theorem dX12_init_178 : decode cX12_init 178 = .ok (.bipush 30, 2) := by decide +kernel
theorem dX12_init_180 : decode cX12_init 180 = .ok (.newarray .int, 2) := by decide +kernel
theorem dX12_init_182 : decode cX12_init 182 = .ok (.putfield 75, 3) := by decide +kernel
theorem dX12_init_185 : decode cX12_init 185 = .ok (.aload_n 0, 1) := by decide +kernel
theorem dX12_init_186 : decode cX12_init 186 = .ok (.bipush 30, 2) := by decide +kernel
theorem dX12_init_188 : decode cX12_init 188 = .ok (.newarray .int, 2) := by decide +kernel
theorem dX12_init_190 : decode cX12_init 190 = .ok (.putfield 78, 3) := by decide +kernel
theorem dX12_init_193 : decode cX12_init 193 = .ok (.aload_n 0, 1) := by decide +kernel
theorem dX12_init_194 : decode cX12_init 194 = .ok (.bipush 30, 2) := by decide +kernel
theorem dX12_init_196 : decode cX12_init 196 = .ok (.newarray .int, 2) := by decide +kernel
theorem dX12_init_198 : decode cX12_init 198 = .ok (.putfield 81, 3) := by decide +kernel
theorem dX12_init_201 : decode cX12_init 201 = .ok (.aload_n 0, 1) := by decide +kernel
theorem dX12_init_202 : decode cX12_init 202 = .ok (.bipush 60, 2) := by decide +kernel
theorem dX12_init_204 : decode cX12_init 204 = .ok (.newarray .int, 2) := by decide +kernel
theorem dX12_init_206 : decode cX12_init 206 = .ok (.putfield 84, 3) := by decide +kernel
theorem dX12_init_209 : decode cX12_init 209 = .ok (.aload_n 0, 1) := by decide +kernel
theorem dX12_init_210 : decode cX12_init 210 = .ok (.bipush 30, 2) := by decide +kernel
theorem dX12_init_212 : decode cX12_init 212 = .ok (.newarray .boolean, 2) := by decide +kernel
theorem dX12_init_214 : decode cX12_init 214 = .ok (.putfield 87, 3) := by decide +kernel
theorem dX12_init_217 : decode cX12_init 217 = .ok (.aload_n 0, 1) := by decide +kernel
theorem dX12_init_218 : decode cX12_init 218 = .ok (.bipush 120, 2) := by decide +kernel
theorem dX12_init_220 : decode cX12_init 220 = .ok (.newarray .int, 2) := by decide +kernel
theorem dX12_init_222 : decode cX12_init 222 = .ok (.putfield 90, 3) := by decide +kernel
theorem dX12_init_225 : decode cX12_init 225 = .ok (.aload_n 0, 1) := by decide +kernel
theorem dX12_init_226 : decode cX12_init 226 = .ok (.bipush 120, 2) := by decide +kernel
theorem dX12_init_228 : decode cX12_init 228 = .ok (.newarray .int, 2) := by decide +kernel
theorem dX12_init_230 : decode cX12_init 230 = .ok (.putfield 93, 3) := by decide +kernel
theorem dX12_init_233 : decode cX12_init 233 = .ok (.aload_n 0, 1) := by decide +kernel
theorem dX12_init_234 : decode cX12_init 234 = .ok (.bipush 22, 2) := by decide +kernel
theorem dX12_init_236 : decode cX12_init 236 = .ok (.newarray .int, 2) := by decide +kernel
theorem dX12_init_238 : decode cX12_init 238 = .ok (.putfield 96, 3) := by decide +kernel
theorem dX12_init_241 : decode cX12_init 241 = .ok (.aload_n 0, 1) := by decide +kernel
theorem dX12_init_242 : decode cX12_init 242 = .ok (.bipush 22, 2) := by decide +kernel
theorem dX12_init_244 : decode cX12_init 244 = .ok (.newarray .int, 2) := by decide +kernel
theorem dX12_init_246 : decode cX12_init 246 = .ok (.putfield 99, 3) := by decide +kernel
theorem dX12_init_249 : decode cX12_init 249 = .ok (.aload_n 0, 1) := by decide +kernel
theorem dX12_init_250 : decode cX12_init 250 = .ok (.bipush 22, 2) := by decide +kernel
theorem dX12_init_252 : decode cX12_init 252 = .ok (.newarray .int, 2) := by decide +kernel
theorem dX12_init_254 : decode cX12_init 254 = .ok (.putfield 102, 3) := by decide +kernel
theorem dX12_init_257 : decode cX12_init 257 = .ok (.aload_n 0, 1) := by decide +kernel
theorem dX12_init_258 : decode cX12_init 258 = .ok (.bipush 30, 2) := by decide +kernel
theorem dX12_init_260 : decode cX12_init 260 = .ok (.newarray .int, 2) := by decide +kernel
theorem dX12_init_262 : decode cX12_init 262 = .ok (.putfield 105, 3) := by decide +kernel
theorem dX12_init_265 : decode cX12_init 265 = .ok (.aload_n 0, 1) := by decide +kernel
theorem dX12_init_266 : decode cX12_init 266 = .ok (.bipush 30, 2) := by decide +kernel
theorem dX12_init_268 : decode cX12_init 268 = .ok (.newarray .int, 2) := by decide +kernel
theorem dX12_init_270 : decode cX12_init 270 = .ok (.putfield 108, 3) := by decide +kernel
theorem dX12_init_273 : decode cX12_init 273 = .ok (.aload_n 0, 1) := by decide +kernel
theorem dX12_init_274 : decode cX12_init 274 = .ok (.bipush 30, 2) := by decide +kernel
theorem dX12_init_276 : decode cX12_init 276 = .ok (.newarray .int, 2) := by decide +kernel
theorem dX12_init_278 : decode cX12_init 278 = .ok (.putfield 111, 3) := by decide +kernel
theorem dX12_init_281 : decode cX12_init 281 = .ok (.iconst 0, 1) := by decide +kernel
theorem dX12_init_282 : decode cX12_init 282 = .ok (.istore_n 1, 1) := by decide +kernel
theorem dX12_init_283 : decode cX12_init 283 = .ok (.iload_n 1, 1) := by decide +kernel
theorem dX12_init_284 : decode cX12_init 284 = .ok (.bipush 60, 2) := by decide +kernel
theorem dX12_init_286 : decode cX12_init 286 = .ok (.if_icmp .ge 19, 3) := by decide +kernel
theorem dX12_init_289 : decode cX12_init 289 = .ok (.aload_n 0, 1) := by decide +kernel
theorem dX12_init_290 : decode cX12_init 290 = .ok (.getfield 9, 3) := by decide +kernel
theorem dX12_init_293 : decode cX12_init 293 = .ok (.bipush 83, 2) := by decide +kernel
theorem dX12_init_295 : decode cX12_init 295 = .ok (.iload_n 1, 1) := by decide +kernel
theorem dX12_init_296 : decode cX12_init 296 = .ok (.iadd, 1) := by decide +kernel
theorem dX12_init_297 : decode cX12_init 297 = .ok (.iconst 1, 1) := by decide +kernel
theorem dX12_init_298 : decode cX12_init 298 = .ok (.iastore, 1) := by decide +kernel
theorem dX12_init_299 : decode cX12_init 299 = .ok (.iinc 1 1, 3) := by decide +kernel
theorem dX12_init_302 : decode cX12_init 302 = .ok (.goto (-19), 3) := by decide +kernel
theorem dX12_init_305 : decode cX12_init 305 = .ok (.return_, 1) := by decide +kernel
theorem dX12_in_0 : decode cX12_in 0 = .ok (.lload_n 0, 1) := by decide +kernel
theorem dX12_in_1 : decode cX12_in 1 = .ok (.lload_n 2, 1) := by decide +kernel
theorem dX12_in_2 : decode cX12_in 2 = .ok (.lcmp, 1) := by decide +kernel
theorem dX12_in_3 : decode cX12_in 3 = .ok (.ifCond .lt 14, 3) := by decide +kernel
theorem dX12_in_6 : decode cX12_in 6 = .ok (.lload_n 0, 1) := by decide +kernel
theorem dX12_in_7 : decode cX12_in 7 = .ok (.lload 4, 2) := by decide +kernel
theorem dX12_in_9 : decode cX12_in 9 = .ok (.lcmp, 1) := by decide +kernel
theorem dX12_in_10 : decode cX12_in 10 = .ok (.ifCond .gt 7, 3) := by decide +kernel
theorem dX12_in_13 : decode cX12_in 13 = .ok (.iconst 1, 1) := by decide +kernel
theorem dX12_in_14 : decode cX12_in 14 = .ok (.goto 4, 3) := by decide +kernel
theorem dX12_in_17 : decode cX12_in 17 = .ok (.iconst 0, 1) := by decide +kernel
theorem dX12_in_18 : decode cX12_in 18 = .ok (.ireturn, 1) := by decide +kernel
theorem dX12_truth_0 : decode cX12_truth 0 = .ok (.iload_n 0, 1) := by decide +kernel
theorem dX12_truth_1 : decode cX12_truth 1 = .ok (.ifCond .eq 7, 3) := by decide +kernel
theorem dX12_truth_4 : decode cX12_truth 4 = .ok (.iconst 1, 1) := by decide +kernel
theorem dX12_truth_5 : decode cX12_truth 5 = .ok (.goto 4, 3) := by decide +kernel
theorem dX12_truth_8 : decode cX12_truth 8 = .ok (.iconst 0, 1) := by decide +kernel
theorem dX12_truth_9 : decode cX12_truth 9 = .ok (.ireturn, 1) := by decide +kernel
theorem dX12_moves_0 : decode cX12_moves 0 = .ok (.iconst 0, 1) := by decide +kernel
theorem dX12_moves_1 : decode cX12_moves 1 = .ok (.istore 4, 2) := by decide +kernel
theorem dX12_moves_3 : decode cX12_moves 3 = .ok (.iload 4, 2) := by decide +kernel
theorem dX12_moves_5 : decode cX12_moves 5 = .ok (.sipush 143, 3) := by decide +kernel
theorem dX12_moves_8 : decode cX12_moves 8 = .ok (.if_icmp .ge 21, 3) := by decide +kernel
theorem dX12_moves_11 : decode cX12_moves 11 = .ok (.aload_n 2, 1) := by decide +kernel
theorem dX12_moves_12 : decode cX12_moves 12 = .ok (.iload_n 3, 1) := by decide +kernel
theorem dX12_moves_13 : decode cX12_moves 13 = .ok (.iload 4, 2) := by decide +kernel
theorem dX12_moves_15 : decode cX12_moves 15 = .ok (.iadd, 1) := by decide +kernel
theorem dX12_moves_16 : decode cX12_moves 16 = .ok (.aload_n 0, 1) := by decide +kernel
theorem dX12_moves_17 : decode cX12_moves 17 = .ok (.iload_n 1, 1) := by decide +kernel
theorem dX12_moves_18 : decode cX12_moves 18 = .ok (.iload 4, 2) := by decide +kernel
theorem dX12_moves_20 : decode cX12_moves 20 = .ok (.iadd, 1) := by decide +kernel
theorem dX12_moves_21 : decode cX12_moves 21 = .ok (.iaload, 1) := by decide +kernel
theorem dX12_moves_22 : decode cX12_moves 22 = .ok (.iastore, 1) := by decide +kernel
theorem dX12_moves_23 : decode cX12_moves 23 = .ok (.iinc 4 1, 3) := by decide +kernel
theorem dX12_moves_26 : decode cX12_moves 26 = .ok (.goto (-23), 3) := by decide +kernel
theorem dX12_moves_29 : decode cX12_moves 29 = .ok (.return_, 1) := by decide +kernel
theorem dX12_feed_0 : decode cX12_feed 0 = .ok (.aload_n 0, 1) := by decide +kernel
theorem dX12_feed_1 : decode cX12_feed 1 = .ok (.getfield 114, 3) := by decide +kernel
theorem dX12_feed_4 : decode cX12_feed 4 = .ok (.bipush 20, 2) := by decide +kernel
theorem dX12_feed_6 : decode cX12_feed 6 = .ok (.iadd, 1) := by decide +kernel
theorem dX12_feed_7 : decode cX12_feed 7 = .ok (.sipush 200, 3) := by decide +kernel
theorem dX12_feed_10 : decode cX12_feed 10 = .ok (.if_icmp .le 5, 3) := by decide +kernel
theorem dX12_feed_13 : decode cX12_feed 13 = .ok (.iconst (-1), 1) := by decide +kernel
theorem dX12_feed_14 : decode cX12_feed 14 = .ok (.ireturn, 1) := by decide +kernel
theorem dX12_feed_15 : decode cX12_feed 15 = .ok (.aload_n 0, 1) := by decide +kernel
theorem dX12_feed_16 : decode cX12_feed 16 = .ok (.iload_n 1, 1) := by decide +kernel
theorem dX12_feed_17 : decode cX12_feed 17 = .ok (.invokevirtual 118, 3) := by decide +kernel
theorem dX12_feed_20 : decode cX12_feed 20 = .ok (.aload_n 0, 1) := by decide +kernel
theorem dX12_feed_21 : decode cX12_feed 21 = .ok (.iload_n 2, 1) := by decide +kernel
theorem dX12_feed_22 : decode cX12_feed 22 = .ok (.invokevirtual 118, 3) := by decide +kernel
theorem dX12_feed_25 : decode cX12_feed 25 = .ok (.aload_n 0, 1) := by decide +kernel
theorem dX12_feed_26 : decode cX12_feed 26 = .ok (.iload_n 3, 1) := by decide +kernel
theorem dX12_feed_27 : decode cX12_feed 27 = .ok (.invokevirtual 118, 3) := by decide +kernel
theorem dX12_feed_30 : decode cX12_feed 30 = .ok (.aload_n 0, 1) := by decide +kernel
theorem dX12_feed_31 : decode cX12_feed 31 = .ok (.iload 4, 2) := by decide +kernel
theorem dX12_feed_33 : decode cX12_feed 33 = .ok (.invokevirtual 118, 3) := by decide +kernel
theorem dX12_feed_36 : decode cX12_feed 36 = .ok (.aload_n 0, 1) := by decide +kernel
theorem dX12_feed_37 : decode cX12_feed 37 = .ok (.iload 5, 2) := by decide +kernel
theorem dX12_feed_39 : decode cX12_feed 39 = .ok (.invokevirtual 118, 3) := by decide +kernel
theorem dX12_feed_42 : decode cX12_feed 42 = .ok (.aload_n 0, 1) := by decide +kernel
theorem dX12_feed_43 : decode cX12_feed 43 = .ok (.getfield 114, 3) := by decide +kernel
theorem dX12_feed_46 : decode cX12_feed 46 = .ok (.ireturn, 1) := by decide +kernel
theorem dX12_puts_0 : decode cX12_puts 0 = .ok (.bipush 24, 2) := by decide +kernel
theorem dX12_puts_2 : decode cX12_puts 2 = .ok (.istore_n 2, 1) := by decide +kernel
theorem dX12_puts_3 : decode cX12_puts 3 = .ok (.iload_n 2, 1) := by decide +kernel
theorem dX12_puts_4 : decode cX12_puts 4 = .ok (.ifCond .lt 32, 3) := by decide +kernel
theorem dX12_puts_7 : decode cX12_puts 7 = .ok (.aload_n 0, 1) := by decide +kernel
theorem dX12_puts_8 : decode cX12_puts 8 = .ok (.getfield 29, 3) := by decide +kernel
theorem dX12_puts_11 : decode cX12_puts 11 = .ok (.aload_n 0, 1) := by decide +kernel
theorem dX12_puts_12 : decode cX12_puts 12 = .ok (.getfield 114, 3) := by decide +kernel
theorem dX12_puts_15 : decode cX12_puts 15 = .ok (.iload_n 1, 1) := by decide +kernel
theorem dX12_puts_16 : decode cX12_puts 16 = .ok (.iload_n 2, 1) := by decide +kernel
theorem dX12_puts_17 : decode cX12_puts 17 = .ok (.ishr, 1) := by decide +kernel
theorem dX12_puts_18 : decode cX12_puts 18 = .ok (.i2b, 1) := by decide +kernel
theorem dX12_puts_19 : decode cX12_puts 19 = .ok (.bastore, 1) := by decide +kernel
theorem dX12_puts_20 : decode cX12_puts 20 = .ok (.aload_n 0, 1) := by decide +kernel
theorem dX12_puts_21 : decode cX12_puts 21 = .ok (.dup, 1) := by decide +kernel
theorem dX12_puts_22 : decode cX12_puts 22 = .ok (.getfield 114, 3) := by decide +kernel
theorem dX12_puts_25 : decode cX12_puts 25 = .ok (.iconst 1, 1) := by decide +kernel
theorem dX12_puts_26 : decode cX12_puts 26 = .ok (.iadd, 1) := by decide +kernel
theorem dX12_puts_27 : decode cX12_puts 27 = .ok (.putfield 114, 3) := by decide +kernel
theorem dX12_puts_30 : decode cX12_puts 30 = .ok (.iinc 2 (-8), 3) := by decide +kernel
theorem dX12_puts_33 : decode cX12_puts 33 = .ok (.goto (-30), 3) := by decide +kernel
theorem dX12_puts_36 : decode cX12_puts 36 = .ok (.return_, 1) := by decide +kernel
theorem dX12_end_0 : decode cX12_end 0 = .ok (.iload_n 1, 1) := by decide +kernel
theorem dX12_end_1 : decode cX12_end 1 = .ok (.ifCond .lt 11, 3) := by decide +kernel
theorem dX12_end_4 : decode cX12_end 4 = .ok (.iload_n 1, 1) := by decide +kernel
theorem dX12_end_5 : decode cX12_end 5 = .ok (.aload_n 0, 1) := by decide +kernel
theorem dX12_end_6 : decode cX12_end 6 = .ok (.getfield 114, 3) := by decide +kernel
theorem dX12_end_9 : decode cX12_end 9 = .ok (.if_icmp .le 5, 3) := by decide +kernel
theorem dX12_end_12 : decode cX12_end 12 = .ok (.iconst (-1), 1) := by decide +kernel
theorem dX12_end_13 : decode cX12_end 13 = .ok (.ireturn, 1) := by decide +kernel
theorem dX12_end_14 : decode cX12_end 14 = .ok (.aload_n 0, 1) := by decide +kernel
theorem dX12_end_15 : decode cX12_end 15 = .ok (.iload_n 1, 1) := by decide +kernel
theorem dX12_end_16 : decode cX12_end 16 = .ok (.putfield 114, 3) := by decide +kernel
theorem dX12_end_19 : decode cX12_end 19 = .ok (.iload_n 1, 1) := by decide +kernel
theorem dX12_end_20 : decode cX12_end 20 = .ok (.ireturn, 1) := by decide +kernel
theorem dX12_sign_0 : decode cX12_sign 0 = .ok (.aload_n 0, 1) := by decide +kernel
theorem dX12_sign_1 : decode cX12_sign 1 = .ok (.getfield 122, 3) := by decide +kernel
theorem dX12_sign_4 : decode cX12_sign 4 = .ok (.aload_n 0, 1) := by decide +kernel
theorem dX12_sign_5 : decode cX12_sign 5 = .ok (.getfield 114, 3) := by decide +kernel
theorem dX12_sign_8 : decode cX12_sign 8 = .ok (.if_icmp .ge 19, 3) := by decide +kernel
theorem dX12_sign_11 : decode cX12_sign 11 = .ok (.aload_n 0, 1) := by decide +kernel
theorem dX12_sign_12 : decode cX12_sign 12 = .ok (.getfield 29, 3) := by decide +kernel
theorem dX12_sign_15 : decode cX12_sign 15 = .ok (.aload_n 0, 1) := by decide +kernel
theorem dX12_sign_16 : decode cX12_sign 16 = .ok (.getfield 122, 3) := by decide +kernel
theorem dX12_sign_19 : decode cX12_sign 19 = .ok (.baload, 1) := by decide +kernel
theorem dX12_sign_20 : decode cX12_sign 20 = .ok (.sipush 255, 3) := by decide +kernel
theorem dX12_sign_23 : decode cX12_sign 23 = .ok (.iand, 1) := by decide +kernel
theorem dX12_sign_24 : decode cX12_sign 24 = .ok (.goto 4, 3) := by decide +kernel
theorem dX12_sign_27 : decode cX12_sign 27 = .ok (.iconst (-1), 1) := by decide +kernel
theorem dX12_sign_28 : decode cX12_sign 28 = .ok (.ireturn, 1) := by decide +kernel
theorem dX12_next_0 : decode cX12_next 0 = .ok (.aload_n 0, 1) := by decide +kernel
theorem dX12_next_1 : decode cX12_next 1 = .ok (.invokevirtual 125, 3) := by decide +kernel
theorem dX12_next_4 : decode cX12_next 4 = .ok (.bipush 32, 2) := by decide +kernel
theorem dX12_next_6 : decode cX12_next 6 = .ok (.if_icmp .ne 16, 3) := by decide +kernel
theorem dX12_next_9 : decode cX12_next 9 = .ok (.aload_n 0, 1) := by decide +kernel
theorem dX12_next_10 : decode cX12_next 10 = .ok (.dup, 1) := by decide +kernel
theorem dX12_next_11 : decode cX12_next 11 = .ok (.getfield 122, 3) := by decide +kernel
theorem dX12_next_14 : decode cX12_next 14 = .ok (.iconst 1, 1) := by decide +kernel
theorem dX12_next_15 : decode cX12_next 15 = .ok (.iadd, 1) := by decide +kernel
theorem dX12_next_16 : decode cX12_next 16 = .ok (.putfield 122, 3) := by decide +kernel
theorem dX12_next_19 : decode cX12_next 19 = .ok (.goto (-19), 3) := by decide +kernel
theorem dX12_next_22 : decode cX12_next 22 = .ok (.aload_n 0, 1) := by decide +kernel
theorem dX12_next_23 : decode cX12_next 23 = .ok (.invokevirtual 125, 3) := by decide +kernel
theorem dX12_next_26 : decode cX12_next 26 = .ok (.ireturn, 1) := by decide +kernel
theorem dX12_isRight_0 : decode cX12_isRight 0 = .ok (.aload_n 0, 1) := by decide +kernel
theorem dX12_isRight_1 : decode cX12_isRight 1 = .ok (.getfield 129, 3) := by decide +kernel
theorem dX12_isRight_4 : decode cX12_isRight 4 = .ok (.iconst (-1), 1) := by decide +kernel
theorem dX12_isRight_5 : decode cX12_isRight 5 = .ok (.if_icmp .ne 7, 3) := by decide +kernel
theorem dX12_isRight_8 : decode cX12_isRight 8 = .ok (.iconst 1, 1) := by decide +kernel
theorem dX12_isRight_9 : decode cX12_isRight 9 = .ok (.goto 4, 3) := by decide +kernel
theorem dX12_isRight_12 : decode cX12_isRight 12 = .ok (.iconst 0, 1) := by decide +kernel
theorem dX12_isRight_13 : decode cX12_isRight 13 = .ok (.ireturn, 1) := by decide +kernel
theorem dX12_fails_0 : decode cX12_fails 0 = .ok (.aload_n 0, 1) := by decide +kernel
theorem dX12_fails_1 : decode cX12_fails 1 = .ok (.invokevirtual 132, 3) := by decide +kernel
theorem dX12_fails_4 : decode cX12_fails 4 = .ok (.ifCond .eq 13, 3) := by decide +kernel
theorem dX12_fails_7 : decode cX12_fails 7 = .ok (.aload_n 0, 1) := by decide +kernel
theorem dX12_fails_8 : decode cX12_fails 8 = .ok (.bipush 8, 2) := by decide +kernel
theorem dX12_fails_10 : decode cX12_fails 10 = .ok (.iload_n 2, 1) := by decide +kernel
theorem dX12_fails_11 : decode cX12_fails 11 = .ok (.imul, 1) := by decide +kernel
theorem dX12_fails_12 : decode cX12_fails 12 = .ok (.iload_n 1, 1) := by decide +kernel
theorem dX12_fails_13 : decode cX12_fails 13 = .ok (.iadd, 1) := by decide +kernel
theorem dX12_fails_14 : decode cX12_fails 14 = .ok (.putfield 129, 3) := by decide +kernel
theorem dX12_fails_17 : decode cX12_fails 17 = .ok (.return_, 1) := by decide +kernel
theorem dX12_takesCube_0 : decode cX12_takesCube 0 = .ok (.aload_n 0, 1) := by decide +kernel
theorem dX12_takesCube_1 : decode cX12_takesCube 1 = .ok (.invokevirtual 136, 3) := by decide +kernel
theorem dX12_takesCube_4 : decode cX12_takesCube 4 = .ok (.pop, 1) := by decide +kernel
theorem dX12_takesCube_5 : decode cX12_takesCube 5 = .ok (.iconst 0, 1) := by decide +kernel
theorem dX12_takesCube_6 : decode cX12_takesCube 6 = .ok (.istore_n 1, 1) := by decide +kernel
theorem dX12_takesCube_7 : decode cX12_takesCube 7 = .ok (.aload_n 0, 1) := by decide +kernel
theorem dX12_takesCube_8 : decode cX12_takesCube 8 = .ok (.getfield 122, 3) := by decide +kernel
theorem dX12_takesCube_11 : decode cX12_takesCube 11 = .ok (.iload_n 1, 1) := by decide +kernel
theorem dX12_takesCube_12 : decode cX12_takesCube 12 = .ok (.iadd, 1) := by decide +kernel
theorem dX12_takesCube_13 : decode cX12_takesCube 13 = .ok (.aload_n 0, 1) := by decide +kernel
theorem dX12_takesCube_14 : decode cX12_takesCube 14 = .ok (.getfield 114, 3) := by decide +kernel
theorem dX12_takesCube_17 : decode cX12_takesCube 17 = .ok (.if_icmp .ge 33, 3) := by decide +kernel
theorem dX12_takesCube_20 : decode cX12_takesCube 20 = .ok (.aload_n 0, 1) := by decide +kernel
theorem dX12_takesCube_21 : decode cX12_takesCube 21 = .ok (.getfield 29, 3) := by decide +kernel
theorem dX12_takesCube_24 : decode cX12_takesCube 24 = .ok (.aload_n 0, 1) := by decide +kernel
theorem dX12_takesCube_25 : decode cX12_takesCube 25 = .ok (.getfield 122, 3) := by decide +kernel
theorem dX12_takesCube_28 : decode cX12_takesCube 28 = .ok (.iload_n 1, 1) := by decide +kernel
theorem dX12_takesCube_29 : decode cX12_takesCube 29 = .ok (.iadd, 1) := by decide +kernel
theorem dX12_takesCube_30 : decode cX12_takesCube 30 = .ok (.baload, 1) := by decide +kernel
theorem dX12_takesCube_31 : decode cX12_takesCube 31 = .ok (.i2l, 1) := by decide +kernel
theorem dX12_takesCube_32 : decode cX12_takesCube 32 = .ok (.ldc2_w 139, 3) := by decide +kernel
theorem dX12_takesCube_35 : decode cX12_takesCube 35 = .ok (.ldc2_w 141, 3) := by decide +kernel
theorem dX12_takesCube_38 : decode cX12_takesCube 38 = .ok (.invokestatic 143, 3) := by decide +kernel
theorem dX12_takesCube_41 : decode cX12_takesCube 41 = .ok (.ifCond .eq 9, 3) := by decide +kernel
theorem dX12_takesCube_44 : decode cX12_takesCube 44 = .ok (.iinc 1 1, 3) := by decide +kernel
theorem dX12_takesCube_47 : decode cX12_takesCube 47 = .ok (.goto (-40), 3) := by decide +kernel
theorem dX12_takesCube_50 : decode cX12_takesCube 50 = .ok (.iload_n 1, 1) := by decide +kernel
theorem dX12_takesCube_51 : decode cX12_takesCube 51 = .ok (.iconst 4, 1) := by decide +kernel
theorem dX12_takesCube_52 : decode cX12_takesCube 52 = .ok (.if_icmp .ne 69, 3) := by decide +kernel
theorem dX12_takesCube_55 : decode cX12_takesCube 55 = .ok (.aload_n 0, 1) := by decide +kernel
theorem dX12_takesCube_56 : decode cX12_takesCube 56 = .ok (.getfield 29, 3) := by decide +kernel
theorem dX12_takesCube_59 : decode cX12_takesCube 59 = .ok (.aload_n 0, 1) := by decide +kernel
theorem dX12_takesCube_60 : decode cX12_takesCube 60 = .ok (.getfield 122, 3) := by decide +kernel
theorem dX12_takesCube_63 : decode cX12_takesCube 63 = .ok (.baload, 1) := by decide +kernel
theorem dX12_takesCube_64 : decode cX12_takesCube 64 = .ok (.bipush 99, 2) := by decide +kernel
theorem dX12_takesCube_66 : decode cX12_takesCube 66 = .ok (.if_icmp .ne 55, 3) := by decide +kernel
theorem dX12_takesCube_69 : decode cX12_takesCube 69 = .ok (.aload_n 0, 1) := by decide +kernel
theorem dX12_takesCube_70 : decode cX12_takesCube 70 = .ok (.getfield 29, 3) := by decide +kernel
theorem dX12_takesCube_73 : decode cX12_takesCube 73 = .ok (.aload_n 0, 1) := by decide +kernel
theorem dX12_takesCube_74 : decode cX12_takesCube 74 = .ok (.getfield 122, 3) := by decide +kernel
theorem dX12_takesCube_77 : decode cX12_takesCube 77 = .ok (.iconst 1, 1) := by decide +kernel
theorem dX12_takesCube_78 : decode cX12_takesCube 78 = .ok (.iadd, 1) := by decide +kernel
theorem dX12_takesCube_79 : decode cX12_takesCube 79 = .ok (.baload, 1) := by decide +kernel
theorem dX12_takesCube_80 : decode cX12_takesCube 80 = .ok (.bipush 117, 2) := by decide +kernel
theorem dX12_takesCube_82 : decode cX12_takesCube 82 = .ok (.if_icmp .ne 39, 3) := by decide +kernel
theorem dX12_takesCube_85 : decode cX12_takesCube 85 = .ok (.aload_n 0, 1) := by decide +kernel
theorem dX12_takesCube_86 : decode cX12_takesCube 86 = .ok (.getfield 29, 3) := by decide +kernel
theorem dX12_takesCube_89 : decode cX12_takesCube 89 = .ok (.aload_n 0, 1) := by decide +kernel
theorem dX12_takesCube_90 : decode cX12_takesCube 90 = .ok (.getfield 122, 3) := by decide +kernel
theorem dX12_takesCube_93 : decode cX12_takesCube 93 = .ok (.iconst 2, 1) := by decide +kernel
theorem dX12_takesCube_94 : decode cX12_takesCube 94 = .ok (.iadd, 1) := by decide +kernel
theorem dX12_takesCube_95 : decode cX12_takesCube 95 = .ok (.baload, 1) := by decide +kernel
theorem dX12_takesCube_96 : decode cX12_takesCube 96 = .ok (.bipush 98, 2) := by decide +kernel
theorem dX12_takesCube_98 : decode cX12_takesCube 98 = .ok (.if_icmp .ne 23, 3) := by decide +kernel
theorem dX12_takesCube_101 : decode cX12_takesCube 101 = .ok (.aload_n 0, 1) := by decide +kernel
theorem dX12_takesCube_102 : decode cX12_takesCube 102 = .ok (.getfield 29, 3) := by decide +kernel
theorem dX12_takesCube_105 : decode cX12_takesCube 105 = .ok (.aload_n 0, 1) := by decide +kernel
theorem dX12_takesCube_106 : decode cX12_takesCube 106 = .ok (.getfield 122, 3) := by decide +kernel
theorem dX12_takesCube_109 : decode cX12_takesCube 109 = .ok (.iconst 3, 1) := by decide +kernel
theorem dX12_takesCube_110 : decode cX12_takesCube 110 = .ok (.iadd, 1) := by decide +kernel
theorem dX12_takesCube_111 : decode cX12_takesCube 111 = .ok (.baload, 1) := by decide +kernel
theorem dX12_takesCube_112 : decode cX12_takesCube 112 = .ok (.bipush 101, 2) := by decide +kernel
theorem dX12_takesCube_114 : decode cX12_takesCube 114 = .ok (.if_icmp .ne 7, 3) := by decide +kernel
theorem dX12_takesCube_117 : decode cX12_takesCube 117 = .ok (.iconst 1, 1) := by decide +kernel
theorem dX12_takesCube_118 : decode cX12_takesCube 118 = .ok (.goto 4, 3) := by decide +kernel
theorem dX12_takesCube_121 : decode cX12_takesCube 121 = .ok (.iconst 0, 1) := by decide +kernel
theorem dX12_takesCube_122 : decode cX12_takesCube 122 = .ok (.istore_n 2, 1) := by decide +kernel
theorem dX12_takesCube_123 : decode cX12_takesCube 123 = .ok (.aload_n 0, 1) := by decide +kernel
theorem dX12_takesCube_124 : decode cX12_takesCube 124 = .ok (.dup, 1) := by decide +kernel
theorem dX12_takesCube_125 : decode cX12_takesCube 125 = .ok (.getfield 122, 3) := by decide +kernel
theorem dX12_takesCube_128 : decode cX12_takesCube 128 = .ok (.iload_n 2, 1) := by decide +kernel
theorem dX12_takesCube_129 : decode cX12_takesCube 129 = .ok (.ifCond .eq 7, 3) := by decide +kernel
theorem dX12_takesCube_132 : decode cX12_takesCube 132 = .ok (.iload_n 1, 1) := by decide +kernel
theorem dX12_takesCube_133 : decode cX12_takesCube 133 = .ok (.goto 4, 3) := by decide +kernel
theorem dX12_takesCube_136 : decode cX12_takesCube 136 = .ok (.iconst 0, 1) := by decide +kernel
theorem dX12_takesCube_137 : decode cX12_takesCube 137 = .ok (.iadd, 1) := by decide +kernel
theorem dX12_takesCube_138 : decode cX12_takesCube 138 = .ok (.putfield 122, 3) := by decide +kernel
theorem dX12_takesCube_141 : decode cX12_takesCube 141 = .ok (.iload_n 2, 1) := by decide +kernel
theorem dX12_takesCube_142 : decode cX12_takesCube 142 = .ok (.ireturn, 1) := by decide +kernel
theorem dX12_number_0 : decode cX12_number 0 = .ok (.aload_n 0, 1) := by decide +kernel
theorem dX12_number_1 : decode cX12_number 1 = .ok (.invokevirtual 132, 3) := by decide +kernel
theorem dX12_number_4 : decode cX12_number 4 = .ok (.ifCond .eq 20, 3) := by decide +kernel
theorem dX12_number_7 : decode cX12_number 7 = .ok (.aload_n 0, 1) := by decide +kernel
theorem dX12_number_8 : decode cX12_number 8 = .ok (.invokevirtual 136, 3) := by decide +kernel
theorem dX12_number_11 : decode cX12_number 11 = .ok (.i2l, 1) := by decide +kernel
theorem dX12_number_12 : decode cX12_number 12 = .ok (.ldc2_w 147, 3) := by decide +kernel
theorem dX12_number_15 : decode cX12_number 15 = .ok (.ldc2_w 149, 3) := by decide +kernel
theorem dX12_number_18 : decode cX12_number 18 = .ok (.invokestatic 143, 3) := by decide +kernel
theorem dX12_number_21 : decode cX12_number 21 = .ok (.ifCond .ne 14, 3) := by decide +kernel
theorem dX12_number_24 : decode cX12_number 24 = .ok (.aload_n 0, 1) := by decide +kernel
theorem dX12_number_25 : decode cX12_number 25 = .ok (.iconst 1, 1) := by decide +kernel
theorem dX12_number_26 : decode cX12_number 26 = .ok (.aload_n 0, 1) := by decide +kernel
theorem dX12_number_27 : decode cX12_number 27 = .ok (.getfield 122, 3) := by decide +kernel
theorem dX12_number_30 : decode cX12_number 30 = .ok (.invokevirtual 151, 3) := by decide +kernel
theorem dX12_number_33 : decode cX12_number 33 = .ok (.iconst 0, 1) := by decide +kernel
theorem dX12_number_34 : decode cX12_number 34 = .ok (.ireturn, 1) := by decide +kernel
theorem dX12_number_35 : decode cX12_number 35 = .ok (.aload_n 0, 1) := by decide +kernel
theorem dX12_number_36 : decode cX12_number 36 = .ok (.aload_n 0, 1) := by decide +kernel
theorem dX12_number_37 : decode cX12_number 37 = .ok (.getfield 122, 3) := by decide +kernel
theorem dX12_number_40 : decode cX12_number 40 = .ok (.putfield 155, 3) := by decide +kernel
theorem dX12_number_43 : decode cX12_number 43 = .ok (.iconst 0, 1) := by decide +kernel
theorem dX12_number_44 : decode cX12_number 44 = .ok (.istore_n 1, 1) := by decide +kernel
theorem dX12_number_45 : decode cX12_number 45 = .ok (.aload_n 0, 1) := by decide +kernel
theorem dX12_number_46 : decode cX12_number 46 = .ok (.invokevirtual 125, 3) := by decide +kernel
theorem dX12_number_49 : decode cX12_number 49 = .ok (.i2l, 1) := by decide +kernel
theorem dX12_number_50 : decode cX12_number 50 = .ok (.ldc2_w 147, 3) := by decide +kernel
theorem dX12_number_53 : decode cX12_number 53 = .ok (.ldc2_w 149, 3) := by decide +kernel
theorem dX12_number_56 : decode cX12_number 56 = .ok (.invokestatic 143, 3) := by decide +kernel
theorem dX12_number_59 : decode cX12_number 59 = .ok (.ifCond .eq 35, 3) := by decide +kernel
theorem dX12_number_62 : decode cX12_number 62 = .ok (.sipush 1000, 3) := by decide +kernel
theorem dX12_number_65 : decode cX12_number 65 = .ok (.bipush 10, 2) := by decide +kernel
theorem dX12_number_67 : decode cX12_number 67 = .ok (.iload_n 1, 1) := by decide +kernel
theorem dX12_number_68 : decode cX12_number 68 = .ok (.imul, 1) := by decide +kernel
theorem dX12_number_69 : decode cX12_number 69 = .ok (.aload_n 0, 1) := by decide +kernel
theorem dX12_number_70 : decode cX12_number 70 = .ok (.invokevirtual 125, 3) := by decide +kernel
theorem dX12_number_73 : decode cX12_number 73 = .ok (.iadd, 1) := by decide +kernel
theorem dX12_number_74 : decode cX12_number 74 = .ok (.bipush 48, 2) := by decide +kernel
theorem dX12_number_76 : decode cX12_number 76 = .ok (.isub, 1) := by decide +kernel
theorem dX12_number_77 : decode cX12_number 77 = .ok (.invokestatic 158, 3) := by decide +kernel
theorem dX12_number_80 : decode cX12_number 80 = .ok (.istore_n 1, 1) := by decide +kernel
theorem dX12_number_81 : decode cX12_number 81 = .ok (.aload_n 0, 1) := by decide +kernel
theorem dX12_number_82 : decode cX12_number 82 = .ok (.dup, 1) := by decide +kernel
theorem dX12_number_83 : decode cX12_number 83 = .ok (.getfield 122, 3) := by decide +kernel
theorem dX12_number_86 : decode cX12_number 86 = .ok (.iconst 1, 1) := by decide +kernel
theorem dX12_number_87 : decode cX12_number 87 = .ok (.iadd, 1) := by decide +kernel
theorem dX12_number_88 : decode cX12_number 88 = .ok (.putfield 122, 3) := by decide +kernel
theorem dX12_number_91 : decode cX12_number 91 = .ok (.goto (-46), 3) := by decide +kernel
theorem dX12_number_94 : decode cX12_number 94 = .ok (.iload_n 1, 1) := by decide +kernel
theorem dX12_number_95 : decode cX12_number 95 = .ok (.bipush 6, 2) := by decide +kernel
theorem dX12_number_97 : decode cX12_number 97 = .ok (.if_icmp .le 12, 3) := by decide +kernel
theorem dX12_number_100 : decode cX12_number 100 = .ok (.aload_n 0, 1) := by decide +kernel
theorem dX12_number_101 : decode cX12_number 101 = .ok (.iconst 2, 1) := by decide +kernel
theorem dX12_number_102 : decode cX12_number 102 = .ok (.aload_n 0, 1) := by decide +kernel
theorem dX12_number_103 : decode cX12_number 103 = .ok (.getfield 155, 3) := by decide +kernel
theorem dX12_number_106 : decode cX12_number 106 = .ok (.invokevirtual 151, 3) := by decide +kernel
theorem dX12_number_109 : decode cX12_number 109 = .ok (.iload_n 1, 1) := by decide +kernel
theorem dX12_number_110 : decode cX12_number 110 = .ok (.ireturn, 1) := by decide +kernel
theorem dX12_canStand_0 : decode cX12_canStand 0 = .ok (.iload_n 1, 1) := by decide +kernel
theorem dX12_canStand_1 : decode cX12_canStand 1 = .ok (.ifCond .ne 7, 3) := by decide +kernel
theorem dX12_canStand_4 : decode cX12_canStand 4 = .ok (.iconst 1, 1) := by decide +kernel
theorem dX12_canStand_5 : decode cX12_canStand 5 = .ok (.goto 4, 3) := by decide +kernel
theorem dX12_canStand_8 : decode cX12_canStand 8 = .ok (.iconst 0, 1) := by decide +kernel
theorem dX12_canStand_9 : decode cX12_canStand 9 = .ok (.istore_n 2, 1) := by decide +kernel
theorem dX12_canStand_10 : decode cX12_canStand 10 = .ok (.iconst 0, 1) := by decide +kernel
theorem dX12_canStand_11 : decode cX12_canStand 11 = .ok (.istore_n 3, 1) := by decide +kernel
theorem dX12_canStand_12 : decode cX12_canStand 12 = .ok (.iload_n 3, 1) := by decide +kernel
theorem dX12_canStand_13 : decode cX12_canStand 13 = .ok (.iload_n 1, 1) := by decide +kernel
theorem dX12_canStand_14 : decode cX12_canStand 14 = .ok (.if_icmp .ge 85, 3) := by decide +kernel
theorem dX12_canStand_17 : decode cX12_canStand 17 = .ok (.iconst 0, 1) := by decide +kernel
theorem dX12_canStand_18 : decode cX12_canStand 18 = .ok (.istore 4, 2) := by decide +kernel
theorem dX12_canStand_20 : decode cX12_canStand 20 = .ok (.iconst 0, 1) := by decide +kernel
theorem dX12_canStand_21 : decode cX12_canStand 21 = .ok (.istore 5, 2) := by decide +kernel
theorem dX12_canStand_23 : decode cX12_canStand 23 = .ok (.iload 5, 2) := by decide +kernel
theorem dX12_canStand_25 : decode cX12_canStand 25 = .ok (.iconst 3, 1) := by decide +kernel
theorem dX12_canStand_26 : decode cX12_canStand 26 = .ok (.if_icmp .ge 44, 3) := by decide +kernel
theorem dX12_canStand_29 : decode cX12_canStand 29 = .ok (.iload 4, 2) := by decide +kernel
theorem dX12_canStand_31 : decode cX12_canStand 31 = .ok (.aload_n 0, 1) := by decide +kernel
theorem dX12_canStand_32 : decode cX12_canStand 32 = .ok (.getfield 13, 3) := by decide +kernel
theorem dX12_canStand_35 : decode cX12_canStand 35 = .ok (.iconst 1, 1) := by decide +kernel
theorem dX12_canStand_36 : decode cX12_canStand 36 = .ok (.iconst 3, 1) := by decide +kernel
theorem dX12_canStand_37 : decode cX12_canStand 37 = .ok (.iload_n 1, 1) := by decide +kernel
theorem dX12_canStand_38 : decode cX12_canStand 38 = .ok (.imul, 1) := by decide +kernel
theorem dX12_canStand_39 : decode cX12_canStand 39 = .ok (.iadd, 1) := by decide +kernel
theorem dX12_canStand_40 : decode cX12_canStand 40 = .ok (.iload 5, 2) := by decide +kernel
theorem dX12_canStand_42 : decode cX12_canStand 42 = .ok (.iadd, 1) := by decide +kernel
theorem dX12_canStand_43 : decode cX12_canStand 43 = .ok (.iaload, 1) := by decide +kernel
theorem dX12_canStand_44 : decode cX12_canStand 44 = .ok (.aload_n 0, 1) := by decide +kernel
theorem dX12_canStand_45 : decode cX12_canStand 45 = .ok (.getfield 13, 3) := by decide +kernel
theorem dX12_canStand_48 : decode cX12_canStand 48 = .ok (.iconst 1, 1) := by decide +kernel
theorem dX12_canStand_49 : decode cX12_canStand 49 = .ok (.iconst 3, 1) := by decide +kernel
theorem dX12_canStand_50 : decode cX12_canStand 50 = .ok (.iload_n 3, 1) := by decide +kernel
theorem dX12_canStand_51 : decode cX12_canStand 51 = .ok (.imul, 1) := by decide +kernel
theorem dX12_canStand_52 : decode cX12_canStand 52 = .ok (.iadd, 1) := by decide +kernel
theorem dX12_canStand_53 : decode cX12_canStand 53 = .ok (.iload 5, 2) := by decide +kernel
theorem dX12_canStand_55 : decode cX12_canStand 55 = .ok (.iadd, 1) := by decide +kernel
theorem dX12_canStand_56 : decode cX12_canStand 56 = .ok (.iaload, 1) := by decide +kernel
theorem dX12_canStand_57 : decode cX12_canStand 57 = .ok (.isub, 1) := by decide +kernel
theorem dX12_canStand_58 : decode cX12_canStand 58 = .ok (.invokestatic 164, 3) := by decide +kernel
theorem dX12_canStand_61 : decode cX12_canStand 61 = .ok (.iadd, 1) := by decide +kernel
theorem dX12_canStand_62 : decode cX12_canStand 62 = .ok (.istore 4, 2) := by decide +kernel
theorem dX12_canStand_64 : decode cX12_canStand 64 = .ok (.iinc 5 1, 3) := by decide +kernel
theorem dX12_canStand_67 : decode cX12_canStand 67 = .ok (.goto (-44), 3) := by decide +kernel
theorem dX12_canStand_70 : decode cX12_canStand 70 = .ok (.iload 4, 2) := by decide +kernel
theorem dX12_canStand_72 : decode cX12_canStand 72 = .ok (.ifCond .ne 5, 3) := by decide +kernel
theorem dX12_canStand_75 : decode cX12_canStand 75 = .ok (.iconst 0, 1) := by decide +kernel
theorem dX12_canStand_76 : decode cX12_canStand 76 = .ok (.ireturn, 1) := by decide +kernel
theorem dX12_canStand_77 : decode cX12_canStand 77 = .ok (.iload_n 2, 1) := by decide +kernel
theorem dX12_canStand_78 : decode cX12_canStand 78 = .ok (.ifCond .ne 9, 3) := by decide +kernel
theorem dX12_canStand_81 : decode cX12_canStand 81 = .ok (.iload 4, 2) := by decide +kernel
theorem dX12_canStand_83 : decode cX12_canStand 83 = .ok (.iconst 1, 1) := by decide +kernel
theorem dX12_canStand_84 : decode cX12_canStand 84 = .ok (.if_icmp .ne 7, 3) := by decide +kernel
theorem dX12_canStand_87 : decode cX12_canStand 87 = .ok (.iconst 1, 1) := by decide +kernel
theorem dX12_canStand_88 : decode cX12_canStand 88 = .ok (.goto 4, 3) := by decide +kernel
theorem dX12_canStand_91 : decode cX12_canStand 91 = .ok (.iconst 0, 1) := by decide +kernel
theorem dX12_canStand_92 : decode cX12_canStand 92 = .ok (.istore_n 2, 1) := by decide +kernel
theorem dX12_canStand_93 : decode cX12_canStand 93 = .ok (.iinc 3 1, 3) := by decide +kernel
theorem dX12_canStand_96 : decode cX12_canStand 96 = .ok (.goto (-84), 3) := by decide +kernel
theorem dX12_canStand_99 : decode cX12_canStand 99 = .ok (.iload_n 2, 1) := by decide +kernel
theorem dX12_canStand_100 : decode cX12_canStand 100 = .ok (.ireturn, 1) := by decide +kernel
theorem dX12_readsPart_0 : decode cX12_readsPart 0 = .ok (.aload_n 0, 1) := by decide +kernel
theorem dX12_readsPart_1 : decode cX12_readsPart 1 = .ok (.invokevirtual 136, 3) := by decide +kernel
theorem dX12_readsPart_4 : decode cX12_readsPart 4 = .ok (.pop, 1) := by decide +kernel
theorem dX12_readsPart_5 : decode cX12_readsPart 5 = .ok (.aload_n 0, 1) := by decide +kernel
theorem dX12_readsPart_6 : decode cX12_readsPart 6 = .ok (.getfield 122, 3) := by decide +kernel
theorem dX12_readsPart_9 : decode cX12_readsPart 9 = .ok (.istore_n 1, 1) := by decide +kernel
theorem dX12_readsPart_10 : decode cX12_readsPart 10 = .ok (.aload_n 0, 1) := by decide +kernel
theorem dX12_readsPart_11 : decode cX12_readsPart 11 = .ok (.invokevirtual 168, 3) := by decide +kernel
theorem dX12_readsPart_14 : decode cX12_readsPart 14 = .ok (.ifCond .ne 12, 3) := by decide +kernel
theorem dX12_readsPart_17 : decode cX12_readsPart 17 = .ok (.aload_n 0, 1) := by decide +kernel
theorem dX12_readsPart_18 : decode cX12_readsPart 18 = .ok (.iconst 1, 1) := by decide +kernel
theorem dX12_readsPart_19 : decode cX12_readsPart 19 = .ok (.iload_n 1, 1) := by decide +kernel
theorem dX12_readsPart_20 : decode cX12_readsPart 20 = .ok (.invokevirtual 151, 3) := by decide +kernel
theorem dX12_readsPart_23 : decode cX12_readsPart 23 = .ok (.goto 20, 3) := by decide +kernel
theorem dX12_readsPart_26 : decode cX12_readsPart 26 = .ok (.aload_n 0, 1) := by decide +kernel
theorem dX12_readsPart_27 : decode cX12_readsPart 27 = .ok (.getfield 13, 3) := by decide +kernel
theorem dX12_readsPart_30 : decode cX12_readsPart 30 = .ok (.iconst 0, 1) := by decide +kernel
theorem dX12_readsPart_31 : decode cX12_readsPart 31 = .ok (.iaload, 1) := by decide +kernel
theorem dX12_readsPart_32 : decode cX12_readsPart 32 = .ok (.bipush 7, 2) := by decide +kernel
theorem dX12_readsPart_34 : decode cX12_readsPart 34 = .ok (.if_icmp .ne 9, 3) := by decide +kernel
theorem dX12_readsPart_37 : decode cX12_readsPart 37 = .ok (.aload_n 0, 1) := by decide +kernel
theorem dX12_readsPart_38 : decode cX12_readsPart 38 = .ok (.iconst 3, 1) := by decide +kernel
theorem dX12_readsPart_39 : decode cX12_readsPart 39 = .ok (.iload_n 1, 1) := by decide +kernel
theorem dX12_readsPart_40 : decode cX12_readsPart 40 = .ok (.invokevirtual 151, 3) := by decide +kernel
theorem dX12_readsPart_43 : decode cX12_readsPart 43 = .ok (.aload_n 0, 1) := by decide +kernel
theorem dX12_readsPart_44 : decode cX12_readsPart 44 = .ok (.getfield 13, 3) := by decide +kernel
theorem dX12_readsPart_47 : decode cX12_readsPart 47 = .ok (.iconst 0, 1) := by decide +kernel
theorem dX12_readsPart_48 : decode cX12_readsPart 48 = .ok (.iaload, 1) := by decide +kernel
theorem dX12_readsPart_49 : decode cX12_readsPart 49 = .ok (.istore_n 2, 1) := by decide +kernel
theorem dX12_readsPart_50 : decode cX12_readsPart 50 = .ok (.iconst 0, 1) := by decide +kernel
theorem dX12_readsPart_51 : decode cX12_readsPart 51 = .ok (.istore_n 3, 1) := by decide +kernel
theorem dX12_readsPart_52 : decode cX12_readsPart 52 = .ok (.iload_n 3, 1) := by decide +kernel
theorem dX12_readsPart_53 : decode cX12_readsPart 53 = .ok (.iconst 3, 1) := by decide +kernel
theorem dX12_readsPart_54 : decode cX12_readsPart 54 = .ok (.if_icmp .ge 32, 3) := by decide +kernel
theorem dX12_readsPart_57 : decode cX12_readsPart 57 = .ok (.aload_n 0, 1) := by decide +kernel
theorem dX12_readsPart_58 : decode cX12_readsPart 58 = .ok (.invokevirtual 132, 3) := by decide +kernel
theorem dX12_readsPart_61 : decode cX12_readsPart 61 = .ok (.ifCond .eq 25, 3) := by decide +kernel
theorem dX12_readsPart_64 : decode cX12_readsPart 64 = .ok (.aload_n 0, 1) := by decide +kernel
theorem dX12_readsPart_65 : decode cX12_readsPart 65 = .ok (.getfield 13, 3) := by decide +kernel
theorem dX12_readsPart_68 : decode cX12_readsPart 68 = .ok (.iconst 1, 1) := by decide +kernel
theorem dX12_readsPart_69 : decode cX12_readsPart 69 = .ok (.iconst 3, 1) := by decide +kernel
theorem dX12_readsPart_70 : decode cX12_readsPart 70 = .ok (.iload_n 2, 1) := by decide +kernel
theorem dX12_readsPart_71 : decode cX12_readsPart 71 = .ok (.imul, 1) := by decide +kernel
theorem dX12_readsPart_72 : decode cX12_readsPart 72 = .ok (.iadd, 1) := by decide +kernel
theorem dX12_readsPart_73 : decode cX12_readsPart 73 = .ok (.iload_n 3, 1) := by decide +kernel
theorem dX12_readsPart_74 : decode cX12_readsPart 74 = .ok (.iadd, 1) := by decide +kernel
theorem dX12_readsPart_75 : decode cX12_readsPart 75 = .ok (.aload_n 0, 1) := by decide +kernel
theorem dX12_readsPart_76 : decode cX12_readsPart 76 = .ok (.invokevirtual 171, 3) := by decide +kernel
theorem dX12_readsPart_79 : decode cX12_readsPart 79 = .ok (.iastore, 1) := by decide +kernel
theorem dX12_readsPart_80 : decode cX12_readsPart 80 = .ok (.iinc 3 1, 3) := by decide +kernel
theorem dX12_readsPart_83 : decode cX12_readsPart 83 = .ok (.goto (-31), 3) := by decide +kernel
theorem dX12_readsPart_86 : decode cX12_readsPart 86 = .ok (.aload_n 0, 1) := by decide +kernel
theorem dX12_readsPart_87 : decode cX12_readsPart 87 = .ok (.invokevirtual 132, 3) := by decide +kernel
theorem dX12_readsPart_90 : decode cX12_readsPart 90 = .ok (.ifCond .eq 20, 3) := by decide +kernel
theorem dX12_readsPart_93 : decode cX12_readsPart 93 = .ok (.aload_n 0, 1) := by decide +kernel
theorem dX12_readsPart_94 : decode cX12_readsPart 94 = .ok (.iload_n 2, 1) := by decide +kernel
theorem dX12_readsPart_95 : decode cX12_readsPart 95 = .ok (.invokevirtual 174, 3) := by decide +kernel
theorem dX12_readsPart_98 : decode cX12_readsPart 98 = .ok (.ifCond .ne 12, 3) := by decide +kernel
theorem dX12_readsPart_101 : decode cX12_readsPart 101 = .ok (.aload_n 0, 1) := by decide +kernel
theorem dX12_readsPart_102 : decode cX12_readsPart 102 = .ok (.iconst 4, 1) := by decide +kernel
theorem dX12_readsPart_103 : decode cX12_readsPart 103 = .ok (.aload_n 0, 1) := by decide +kernel
theorem dX12_readsPart_104 : decode cX12_readsPart 104 = .ok (.getfield 155, 3) := by decide +kernel
theorem dX12_readsPart_107 : decode cX12_readsPart 107 = .ok (.invokevirtual 151, 3) := by decide +kernel
theorem dX12_readsPart_110 : decode cX12_readsPart 110 = .ok (.aload_n 0, 1) := by decide +kernel
theorem dX12_readsPart_111 : decode cX12_readsPart 111 = .ok (.getfield 13, 3) := by decide +kernel
theorem dX12_readsPart_114 : decode cX12_readsPart 114 = .ok (.iconst 0, 1) := by decide +kernel
theorem dX12_readsPart_115 : decode cX12_readsPart 115 = .ok (.dup2, 1) := by decide +kernel
theorem dX12_readsPart_116 : decode cX12_readsPart 116 = .ok (.iaload, 1) := by decide +kernel
theorem dX12_readsPart_117 : decode cX12_readsPart 117 = .ok (.iconst 1, 1) := by decide +kernel
theorem dX12_readsPart_118 : decode cX12_readsPart 118 = .ok (.iadd, 1) := by decide +kernel
theorem dX12_readsPart_119 : decode cX12_readsPart 119 = .ok (.iastore, 1) := by decide +kernel
theorem dX12_readsPart_120 : decode cX12_readsPart 120 = .ok (.return_, 1) := by decide +kernel
theorem dX12_isSolid_0 : decode cX12_isSolid 0 = .ok (.iconst 0, 1) := by decide +kernel
theorem dX12_isSolid_1 : decode cX12_isSolid 1 = .ok (.istore_n 1, 1) := by decide +kernel
theorem dX12_isSolid_2 : decode cX12_isSolid 2 = .ok (.iload_n 1, 1) := by decide +kernel
theorem dX12_isSolid_3 : decode cX12_isSolid 3 = .ok (.aload_n 0, 1) := by decide +kernel
theorem dX12_isSolid_4 : decode cX12_isSolid 4 = .ok (.getfield 13, 3) := by decide +kernel
theorem dX12_isSolid_7 : decode cX12_isSolid 7 = .ok (.iconst 0, 1) := by decide +kernel
theorem dX12_isSolid_8 : decode cX12_isSolid 8 = .ok (.iaload, 1) := by decide +kernel
theorem dX12_isSolid_9 : decode cX12_isSolid 9 = .ok (.if_icmp .ge 58, 3) := by decide +kernel
theorem dX12_isSolid_12 : decode cX12_isSolid 12 = .ok (.iconst 0, 1) := by decide +kernel
theorem dX12_isSolid_13 : decode cX12_isSolid 13 = .ok (.istore_n 2, 1) := by decide +kernel
theorem dX12_isSolid_14 : decode cX12_isSolid 14 = .ok (.iload_n 2, 1) := by decide +kernel
theorem dX12_isSolid_15 : decode cX12_isSolid 15 = .ok (.iload_n 1, 1) := by decide +kernel
theorem dX12_isSolid_16 : decode cX12_isSolid 16 = .ok (.if_icmp .ge 45, 3) := by decide +kernel
theorem dX12_isSolid_19 : decode cX12_isSolid 19 = .ok (.aload_n 0, 1) := by decide +kernel
theorem dX12_isSolid_20 : decode cX12_isSolid 20 = .ok (.iconst 1, 1) := by decide +kernel
theorem dX12_isSolid_21 : decode cX12_isSolid 21 = .ok (.iconst 3, 1) := by decide +kernel
theorem dX12_isSolid_22 : decode cX12_isSolid 22 = .ok (.iload_n 1, 1) := by decide +kernel
theorem dX12_isSolid_23 : decode cX12_isSolid 23 = .ok (.imul, 1) := by decide +kernel
theorem dX12_isSolid_24 : decode cX12_isSolid 24 = .ok (.iadd, 1) := by decide +kernel
theorem dX12_isSolid_25 : decode cX12_isSolid 25 = .ok (.iconst 1, 1) := by decide +kernel
theorem dX12_isSolid_26 : decode cX12_isSolid 26 = .ok (.iconst 3, 1) := by decide +kernel
theorem dX12_isSolid_27 : decode cX12_isSolid 27 = .ok (.iload_n 2, 1) := by decide +kernel
theorem dX12_isSolid_28 : decode cX12_isSolid 28 = .ok (.imul, 1) := by decide +kernel
theorem dX12_isSolid_29 : decode cX12_isSolid 29 = .ok (.iadd, 1) := by decide +kernel
theorem dX12_isSolid_30 : decode cX12_isSolid 30 = .ok (.invokevirtual 178, 3) := by decide +kernel
theorem dX12_isSolid_33 : decode cX12_isSolid 33 = .ok (.ifCond .eq 22, 3) := by decide +kernel
theorem dX12_isSolid_36 : decode cX12_isSolid 36 = .ok (.aload_n 0, 1) := by decide +kernel
theorem dX12_isSolid_37 : decode cX12_isSolid 37 = .ok (.iconst 1, 1) := by decide +kernel
theorem dX12_isSolid_38 : decode cX12_isSolid 38 = .ok (.iconst 3, 1) := by decide +kernel
theorem dX12_isSolid_39 : decode cX12_isSolid 39 = .ok (.iload_n 1, 1) := by decide +kernel
theorem dX12_isSolid_40 : decode cX12_isSolid 40 = .ok (.imul, 1) := by decide +kernel
theorem dX12_isSolid_41 : decode cX12_isSolid 41 = .ok (.iadd, 1) := by decide +kernel
theorem dX12_isSolid_42 : decode cX12_isSolid 42 = .ok (.iconst 1, 1) := by decide +kernel
theorem dX12_isSolid_43 : decode cX12_isSolid 43 = .ok (.iconst 3, 1) := by decide +kernel
theorem dX12_isSolid_44 : decode cX12_isSolid 44 = .ok (.iload_n 2, 1) := by decide +kernel
theorem dX12_isSolid_45 : decode cX12_isSolid 45 = .ok (.imul, 1) := by decide +kernel
theorem dX12_isSolid_46 : decode cX12_isSolid 46 = .ok (.iadd, 1) := by decide +kernel
theorem dX12_isSolid_47 : decode cX12_isSolid 47 = .ok (.invokevirtual 182, 3) := by decide +kernel
theorem dX12_isSolid_50 : decode cX12_isSolid 50 = .ok (.ifCond .ne 5, 3) := by decide +kernel
theorem dX12_isSolid_53 : decode cX12_isSolid 53 = .ok (.iconst 0, 1) := by decide +kernel
theorem dX12_isSolid_54 : decode cX12_isSolid 54 = .ok (.ireturn, 1) := by decide +kernel
theorem dX12_isSolid_55 : decode cX12_isSolid 55 = .ok (.iinc 2 1, 3) := by decide +kernel
theorem dX12_isSolid_58 : decode cX12_isSolid 58 = .ok (.goto (-44), 3) := by decide +kernel
theorem dX12_isSolid_61 : decode cX12_isSolid 61 = .ok (.iinc 1 1, 3) := by decide +kernel
theorem dX12_isSolid_64 : decode cX12_isSolid 64 = .ok (.goto (-62), 3) := by decide +kernel
theorem dX12_isSolid_67 : decode cX12_isSolid 67 = .ok (.iconst 1, 1) := by decide +kernel
theorem dX12_isSolid_68 : decode cX12_isSolid 68 = .ok (.ireturn, 1) := by decide +kernel
theorem dX12_areAskew_0 : decode cX12_areAskew 0 = .ok (.iconst 0, 1) := by decide +kernel
theorem dX12_areAskew_1 : decode cX12_areAskew 1 = .ok (.istore_n 3, 1) := by decide +kernel
theorem dX12_areAskew_2 : decode cX12_areAskew 2 = .ok (.iconst 0, 1) := by decide +kernel
theorem dX12_areAskew_3 : decode cX12_areAskew 3 = .ok (.istore 4, 2) := by decide +kernel
theorem dX12_areAskew_5 : decode cX12_areAskew 5 = .ok (.iconst 0, 1) := by decide +kernel
theorem dX12_areAskew_6 : decode cX12_areAskew 6 = .ok (.istore 5, 2) := by decide +kernel
theorem dX12_areAskew_8 : decode cX12_areAskew 8 = .ok (.iload 5, 2) := by decide +kernel
theorem dX12_areAskew_10 : decode cX12_areAskew 10 = .ok (.iconst 3, 1) := by decide +kernel
theorem dX12_areAskew_11 : decode cX12_areAskew 11 = .ok (.if_icmp .ge 69, 3) := by decide +kernel
theorem dX12_areAskew_14 : decode cX12_areAskew 14 = .ok (.aload_n 0, 1) := by decide +kernel
theorem dX12_areAskew_15 : decode cX12_areAskew 15 = .ok (.getfield 13, 3) := by decide +kernel
theorem dX12_areAskew_18 : decode cX12_areAskew 18 = .ok (.iload_n 1, 1) := by decide +kernel
theorem dX12_areAskew_19 : decode cX12_areAskew 19 = .ok (.iload 5, 2) := by decide +kernel
theorem dX12_areAskew_21 : decode cX12_areAskew 21 = .ok (.iadd, 1) := by decide +kernel
theorem dX12_areAskew_22 : decode cX12_areAskew 22 = .ok (.iaload, 1) := by decide +kernel
theorem dX12_areAskew_23 : decode cX12_areAskew 23 = .ok (.aload_n 0, 1) := by decide +kernel
theorem dX12_areAskew_24 : decode cX12_areAskew 24 = .ok (.getfield 13, 3) := by decide +kernel
theorem dX12_areAskew_27 : decode cX12_areAskew 27 = .ok (.iload_n 2, 1) := by decide +kernel
theorem dX12_areAskew_28 : decode cX12_areAskew 28 = .ok (.iload 5, 2) := by decide +kernel
theorem dX12_areAskew_30 : decode cX12_areAskew 30 = .ok (.iadd, 1) := by decide +kernel
theorem dX12_areAskew_31 : decode cX12_areAskew 31 = .ok (.iaload, 1) := by decide +kernel
theorem dX12_areAskew_32 : decode cX12_areAskew 32 = .ok (.isub, 1) := by decide +kernel
theorem dX12_areAskew_33 : decode cX12_areAskew 33 = .ok (.invokestatic 164, 3) := by decide +kernel
theorem dX12_areAskew_36 : decode cX12_areAskew 36 = .ok (.istore 6, 2) := by decide +kernel
theorem dX12_areAskew_38 : decode cX12_areAskew 38 = .ok (.iload_n 3, 1) := by decide +kernel
theorem dX12_areAskew_39 : decode cX12_areAskew 39 = .ok (.iload 6, 2) := by decide +kernel
theorem dX12_areAskew_41 : decode cX12_areAskew 41 = .ok (.iconst 1, 1) := by decide +kernel
theorem dX12_areAskew_42 : decode cX12_areAskew 42 = .ok (.if_icmp .ne 7, 3) := by decide +kernel
theorem dX12_areAskew_45 : decode cX12_areAskew 45 = .ok (.iconst 1, 1) := by decide +kernel
theorem dX12_areAskew_46 : decode cX12_areAskew 46 = .ok (.goto 4, 3) := by decide +kernel
theorem dX12_areAskew_49 : decode cX12_areAskew 49 = .ok (.iconst 0, 1) := by decide +kernel
theorem dX12_areAskew_50 : decode cX12_areAskew 50 = .ok (.invokestatic 185, 3) := by decide +kernel
theorem dX12_areAskew_53 : decode cX12_areAskew 53 = .ok (.iadd, 1) := by decide +kernel
theorem dX12_areAskew_54 : decode cX12_areAskew 54 = .ok (.istore_n 3, 1) := by decide +kernel
theorem dX12_areAskew_55 : decode cX12_areAskew 55 = .ok (.iload 4, 2) := by decide +kernel
theorem dX12_areAskew_57 : decode cX12_areAskew 57 = .ok (.iload 6, 2) := by decide +kernel
theorem dX12_areAskew_59 : decode cX12_areAskew 59 = .ok (.iconst 1, 1) := by decide +kernel
theorem dX12_areAskew_60 : decode cX12_areAskew 60 = .ok (.if_icmp .le 7, 3) := by decide +kernel
theorem dX12_areAskew_63 : decode cX12_areAskew 63 = .ok (.iconst 1, 1) := by decide +kernel
theorem dX12_areAskew_64 : decode cX12_areAskew 64 = .ok (.goto 4, 3) := by decide +kernel
theorem dX12_areAskew_67 : decode cX12_areAskew 67 = .ok (.iconst 0, 1) := by decide +kernel
theorem dX12_areAskew_68 : decode cX12_areAskew 68 = .ok (.invokestatic 185, 3) := by decide +kernel
theorem dX12_areAskew_71 : decode cX12_areAskew 71 = .ok (.iadd, 1) := by decide +kernel
theorem dX12_areAskew_72 : decode cX12_areAskew 72 = .ok (.istore 4, 2) := by decide +kernel
theorem dX12_areAskew_74 : decode cX12_areAskew 74 = .ok (.iinc 5 1, 3) := by decide +kernel
theorem dX12_areAskew_77 : decode cX12_areAskew 77 = .ok (.goto (-69), 3) := by decide +kernel
theorem dX12_areAskew_80 : decode cX12_areAskew 80 = .ok (.iload_n 3, 1) := by decide +kernel
theorem dX12_areAskew_81 : decode cX12_areAskew 81 = .ok (.iconst 2, 1) := by decide +kernel
theorem dX12_areAskew_82 : decode cX12_areAskew 82 = .ok (.if_icmp .ne 12, 3) := by decide +kernel
theorem dX12_areAskew_85 : decode cX12_areAskew 85 = .ok (.iload 4, 2) := by decide +kernel
theorem dX12_areAskew_87 : decode cX12_areAskew 87 = .ok (.ifCond .ne 7, 3) := by decide +kernel
theorem dX12_areAskew_90 : decode cX12_areAskew 90 = .ok (.iconst 1, 1) := by decide +kernel
theorem dX12_areAskew_91 : decode cX12_areAskew 91 = .ok (.goto 4, 3) := by decide +kernel
theorem dX12_areAskew_94 : decode cX12_areAskew 94 = .ok (.iconst 0, 1) := by decide +kernel
theorem dX12_areAskew_95 : decode cX12_areAskew 95 = .ok (.ireturn, 1) := by decide +kernel
theorem dX12_hasBetween_0 : decode cX12_hasBetween 0 = .ok (.iconst 0, 1) := by decide +kernel
theorem dX12_hasBetween_1 : decode cX12_hasBetween 1 = .ok (.istore_n 3, 1) := by decide +kernel
theorem dX12_hasBetween_2 : decode cX12_hasBetween 2 = .ok (.iload_n 3, 1) := by decide +kernel
theorem dX12_hasBetween_3 : decode cX12_hasBetween 3 = .ok (.aload_n 0, 1) := by decide +kernel
theorem dX12_hasBetween_4 : decode cX12_hasBetween 4 = .ok (.getfield 13, 3) := by decide +kernel
theorem dX12_hasBetween_7 : decode cX12_hasBetween 7 = .ok (.iconst 0, 1) := by decide +kernel
theorem dX12_hasBetween_8 : decode cX12_hasBetween 8 = .ok (.iaload, 1) := by decide +kernel
theorem dX12_hasBetween_9 : decode cX12_hasBetween 9 = .ok (.if_icmp .ge 106, 3) := by decide +kernel
theorem dX12_hasBetween_12 : decode cX12_hasBetween 12 = .ok (.iconst 0, 1) := by decide +kernel
theorem dX12_hasBetween_13 : decode cX12_hasBetween 13 = .ok (.istore 4, 2) := by decide +kernel
theorem dX12_hasBetween_15 : decode cX12_hasBetween 15 = .ok (.iconst 0, 1) := by decide +kernel
theorem dX12_hasBetween_16 : decode cX12_hasBetween 16 = .ok (.istore 5, 2) := by decide +kernel
theorem dX12_hasBetween_18 : decode cX12_hasBetween 18 = .ok (.iconst 0, 1) := by decide +kernel
theorem dX12_hasBetween_19 : decode cX12_hasBetween 19 = .ok (.istore 6, 2) := by decide +kernel
theorem dX12_hasBetween_21 : decode cX12_hasBetween 21 = .ok (.iload 6, 2) := by decide +kernel
theorem dX12_hasBetween_23 : decode cX12_hasBetween 23 = .ok (.iconst 3, 1) := by decide +kernel
theorem dX12_hasBetween_24 : decode cX12_hasBetween 24 = .ok (.if_icmp .ge 71, 3) := by decide +kernel
theorem dX12_hasBetween_27 : decode cX12_hasBetween 27 = .ok (.iload 4, 2) := by decide +kernel
theorem dX12_hasBetween_29 : decode cX12_hasBetween 29 = .ok (.aload_n 0, 1) := by decide +kernel
theorem dX12_hasBetween_30 : decode cX12_hasBetween 30 = .ok (.getfield 13, 3) := by decide +kernel
theorem dX12_hasBetween_33 : decode cX12_hasBetween 33 = .ok (.iconst 1, 1) := by decide +kernel
theorem dX12_hasBetween_34 : decode cX12_hasBetween 34 = .ok (.iconst 3, 1) := by decide +kernel
theorem dX12_hasBetween_35 : decode cX12_hasBetween 35 = .ok (.iload_n 3, 1) := by decide +kernel
theorem dX12_hasBetween_36 : decode cX12_hasBetween 36 = .ok (.imul, 1) := by decide +kernel
theorem dX12_hasBetween_37 : decode cX12_hasBetween 37 = .ok (.iadd, 1) := by decide +kernel
theorem dX12_hasBetween_38 : decode cX12_hasBetween 38 = .ok (.iload 6, 2) := by decide +kernel
theorem dX12_hasBetween_40 : decode cX12_hasBetween 40 = .ok (.iadd, 1) := by decide +kernel
theorem dX12_hasBetween_41 : decode cX12_hasBetween 41 = .ok (.iaload, 1) := by decide +kernel
theorem dX12_hasBetween_42 : decode cX12_hasBetween 42 = .ok (.aload_n 0, 1) := by decide +kernel
theorem dX12_hasBetween_43 : decode cX12_hasBetween 43 = .ok (.getfield 13, 3) := by decide +kernel
theorem dX12_hasBetween_46 : decode cX12_hasBetween 46 = .ok (.iload_n 1, 1) := by decide +kernel
theorem dX12_hasBetween_47 : decode cX12_hasBetween 47 = .ok (.iload 6, 2) := by decide +kernel
theorem dX12_hasBetween_49 : decode cX12_hasBetween 49 = .ok (.iadd, 1) := by decide +kernel
theorem dX12_hasBetween_50 : decode cX12_hasBetween 50 = .ok (.iaload, 1) := by decide +kernel
theorem dX12_hasBetween_51 : decode cX12_hasBetween 51 = .ok (.isub, 1) := by decide +kernel
theorem dX12_hasBetween_52 : decode cX12_hasBetween 52 = .ok (.invokestatic 164, 3) := by decide +kernel
theorem dX12_hasBetween_55 : decode cX12_hasBetween 55 = .ok (.iadd, 1) := by decide +kernel
theorem dX12_hasBetween_56 : decode cX12_hasBetween 56 = .ok (.istore 4, 2) := by decide +kernel
theorem dX12_hasBetween_58 : decode cX12_hasBetween 58 = .ok (.iload 5, 2) := by decide +kernel
theorem dX12_hasBetween_60 : decode cX12_hasBetween 60 = .ok (.aload_n 0, 1) := by decide +kernel
theorem dX12_hasBetween_61 : decode cX12_hasBetween 61 = .ok (.getfield 13, 3) := by decide +kernel
theorem dX12_hasBetween_64 : decode cX12_hasBetween 64 = .ok (.iconst 1, 1) := by decide +kernel
theorem dX12_hasBetween_65 : decode cX12_hasBetween 65 = .ok (.iconst 3, 1) := by decide +kernel
theorem dX12_hasBetween_66 : decode cX12_hasBetween 66 = .ok (.iload_n 3, 1) := by decide +kernel
theorem dX12_hasBetween_67 : decode cX12_hasBetween 67 = .ok (.imul, 1) := by decide +kernel
theorem dX12_hasBetween_68 : decode cX12_hasBetween 68 = .ok (.iadd, 1) := by decide +kernel
theorem dX12_hasBetween_69 : decode cX12_hasBetween 69 = .ok (.iload 6, 2) := by decide +kernel
theorem dX12_hasBetween_71 : decode cX12_hasBetween 71 = .ok (.iadd, 1) := by decide +kernel
theorem dX12_hasBetween_72 : decode cX12_hasBetween 72 = .ok (.iaload, 1) := by decide +kernel
theorem dX12_hasBetween_73 : decode cX12_hasBetween 73 = .ok (.aload_n 0, 1) := by decide +kernel
theorem dX12_hasBetween_74 : decode cX12_hasBetween 74 = .ok (.getfield 13, 3) := by decide +kernel
theorem dX12_hasBetween_77 : decode cX12_hasBetween 77 = .ok (.iload_n 2, 1) := by decide +kernel
theorem dX12_hasBetween_78 : decode cX12_hasBetween 78 = .ok (.iload 6, 2) := by decide +kernel
theorem dX12_hasBetween_80 : decode cX12_hasBetween 80 = .ok (.iadd, 1) := by decide +kernel
theorem dX12_hasBetween_81 : decode cX12_hasBetween 81 = .ok (.iaload, 1) := by decide +kernel
theorem dX12_hasBetween_82 : decode cX12_hasBetween 82 = .ok (.isub, 1) := by decide +kernel
theorem dX12_hasBetween_83 : decode cX12_hasBetween 83 = .ok (.invokestatic 164, 3) := by decide +kernel
theorem dX12_hasBetween_86 : decode cX12_hasBetween 86 = .ok (.iadd, 1) := by decide +kernel
theorem dX12_hasBetween_87 : decode cX12_hasBetween 87 = .ok (.istore 5, 2) := by decide +kernel
theorem dX12_hasBetween_89 : decode cX12_hasBetween 89 = .ok (.iinc 6 1, 3) := by decide +kernel
theorem dX12_hasBetween_92 : decode cX12_hasBetween 92 = .ok (.goto (-71), 3) := by decide +kernel
theorem dX12_hasBetween_95 : decode cX12_hasBetween 95 = .ok (.iload 4, 2) := by decide +kernel
theorem dX12_hasBetween_97 : decode cX12_hasBetween 97 = .ok (.iconst 1, 1) := by decide +kernel
theorem dX12_hasBetween_98 : decode cX12_hasBetween 98 = .ok (.if_icmp .ne 11, 3) := by decide +kernel
theorem dX12_hasBetween_101 : decode cX12_hasBetween 101 = .ok (.iload 5, 2) := by decide +kernel
theorem dX12_hasBetween_103 : decode cX12_hasBetween 103 = .ok (.iconst 1, 1) := by decide +kernel
theorem dX12_hasBetween_104 : decode cX12_hasBetween 104 = .ok (.if_icmp .ne 5, 3) := by decide +kernel
theorem dX12_hasBetween_107 : decode cX12_hasBetween 107 = .ok (.iconst 1, 1) := by decide +kernel
theorem dX12_hasBetween_108 : decode cX12_hasBetween 108 = .ok (.ireturn, 1) := by decide +kernel
theorem dX12_hasBetween_109 : decode cX12_hasBetween 109 = .ok (.iinc 3 1, 3) := by decide +kernel
theorem dX12_hasBetween_112 : decode cX12_hasBetween 112 = .ok (.goto (-110), 3) := by decide +kernel
theorem dX12_hasBetween_115 : decode cX12_hasBetween 115 = .ok (.iconst 0, 1) := by decide +kernel
theorem dX12_hasBetween_116 : decode cX12_hasBetween 116 = .ok (.ireturn, 1) := by decide +kernel
theorem dX12_solid_0 : decode cX12_solid 0 = .ok (.aload_n 0, 1) := by decide +kernel
theorem dX12_solid_1 : decode cX12_solid 1 = .ok (.iconst 0, 1) := by decide +kernel
theorem dX12_solid_2 : decode cX12_solid 2 = .ok (.putfield 122, 3) := by decide +kernel
theorem dX12_solid_5 : decode cX12_solid 5 = .ok (.aload_n 0, 1) := by decide +kernel
theorem dX12_solid_6 : decode cX12_solid 6 = .ok (.iconst (-1), 1) := by decide +kernel
theorem dX12_solid_7 : decode cX12_solid 7 = .ok (.putfield 129, 3) := by decide +kernel
theorem dX12_solid_10 : decode cX12_solid 10 = .ok (.iconst 0, 1) := by decide +kernel
theorem dX12_solid_11 : decode cX12_solid 11 = .ok (.istore_n 1, 1) := by decide +kernel
theorem dX12_solid_12 : decode cX12_solid 12 = .ok (.iload_n 1, 1) := by decide +kernel
theorem dX12_solid_13 : decode cX12_solid 13 = .ok (.sipush 143, 3) := by decide +kernel
theorem dX12_solid_16 : decode cX12_solid 16 = .ok (.if_icmp .ge 26, 3) := by decide +kernel
theorem dX12_solid_19 : decode cX12_solid 19 = .ok (.aload_n 0, 1) := by decide +kernel
theorem dX12_solid_20 : decode cX12_solid 20 = .ok (.getfield 13, 3) := by decide +kernel
theorem dX12_solid_23 : decode cX12_solid 23 = .ok (.iload_n 1, 1) := by decide +kernel
theorem dX12_solid_24 : decode cX12_solid 24 = .ok (.iload_n 1, 1) := by decide +kernel
theorem dX12_solid_25 : decode cX12_solid 25 = .ok (.bipush 83, 2) := by decide +kernel
theorem dX12_solid_27 : decode cX12_solid 27 = .ok (.if_icmp .lt 7, 3) := by decide +kernel
theorem dX12_solid_30 : decode cX12_solid 30 = .ok (.iconst 1, 1) := by decide +kernel
theorem dX12_solid_31 : decode cX12_solid 31 = .ok (.goto 4, 3) := by decide +kernel
theorem dX12_solid_34 : decode cX12_solid 34 = .ok (.iconst 0, 1) := by decide +kernel
theorem dX12_solid_35 : decode cX12_solid 35 = .ok (.iastore, 1) := by decide +kernel
theorem dX12_solid_36 : decode cX12_solid 36 = .ok (.iinc 1 1, 3) := by decide +kernel
theorem dX12_solid_39 : decode cX12_solid 39 = .ok (.goto (-27), 3) := by decide +kernel
theorem dX12_solid_42 : decode cX12_solid 42 = .ok (.aload_n 0, 1) := by decide +kernel
theorem dX12_solid_43 : decode cX12_solid 43 = .ok (.invokevirtual 189, 3) := by decide +kernel
theorem dX12_solid_46 : decode cX12_solid 46 = .ok (.aload_n 0, 1) := by decide +kernel
theorem dX12_solid_47 : decode cX12_solid 47 = .ok (.invokevirtual 132, 3) := by decide +kernel
theorem dX12_solid_50 : decode cX12_solid 50 = .ok (.ifCond .eq 29, 3) := by decide +kernel
theorem dX12_solid_53 : decode cX12_solid 53 = .ok (.aload_n 0, 1) := by decide +kernel
theorem dX12_solid_54 : decode cX12_solid 54 = .ok (.invokevirtual 136, 3) := by decide +kernel
theorem dX12_solid_57 : decode cX12_solid 57 = .ok (.bipush 59, 2) := by decide +kernel
theorem dX12_solid_59 : decode cX12_solid 59 = .ok (.if_icmp .ne 20, 3) := by decide +kernel
theorem dX12_solid_62 : decode cX12_solid 62 = .ok (.aload_n 0, 1) := by decide +kernel
theorem dX12_solid_63 : decode cX12_solid 63 = .ok (.dup, 1) := by decide +kernel
theorem dX12_solid_64 : decode cX12_solid 64 = .ok (.getfield 122, 3) := by decide +kernel
theorem dX12_solid_67 : decode cX12_solid 67 = .ok (.iconst 1, 1) := by decide +kernel
theorem dX12_solid_68 : decode cX12_solid 68 = .ok (.iadd, 1) := by decide +kernel
theorem dX12_solid_69 : decode cX12_solid 69 = .ok (.putfield 122, 3) := by decide +kernel
theorem dX12_solid_72 : decode cX12_solid 72 = .ok (.aload_n 0, 1) := by decide +kernel
theorem dX12_solid_73 : decode cX12_solid 73 = .ok (.invokevirtual 189, 3) := by decide +kernel
theorem dX12_solid_76 : decode cX12_solid 76 = .ok (.goto (-30), 3) := by decide +kernel
theorem dX12_solid_79 : decode cX12_solid 79 = .ok (.aload_n 0, 1) := by decide +kernel
theorem dX12_solid_80 : decode cX12_solid 80 = .ok (.invokevirtual 132, 3) := by decide +kernel
theorem dX12_solid_83 : decode cX12_solid 83 = .ok (.ifCond .eq 20, 3) := by decide +kernel
theorem dX12_solid_86 : decode cX12_solid 86 = .ok (.aload_n 0, 1) := by decide +kernel
theorem dX12_solid_87 : decode cX12_solid 87 = .ok (.invokevirtual 136, 3) := by decide +kernel
theorem dX12_solid_90 : decode cX12_solid 90 = .ok (.iconst (-1), 1) := by decide +kernel
theorem dX12_solid_91 : decode cX12_solid 91 = .ok (.if_icmp .eq 12, 3) := by decide +kernel
theorem dX12_solid_94 : decode cX12_solid 94 = .ok (.aload_n 0, 1) := by decide +kernel
theorem dX12_solid_95 : decode cX12_solid 95 = .ok (.iconst 1, 1) := by decide +kernel
theorem dX12_solid_96 : decode cX12_solid 96 = .ok (.aload_n 0, 1) := by decide +kernel
theorem dX12_solid_97 : decode cX12_solid 97 = .ok (.getfield 122, 3) := by decide +kernel
theorem dX12_solid_100 : decode cX12_solid 100 = .ok (.invokevirtual 151, 3) := by decide +kernel
theorem dX12_solid_103 : decode cX12_solid 103 = .ok (.aload_n 0, 1) := by decide +kernel
theorem dX12_solid_104 : decode cX12_solid 104 = .ok (.invokevirtual 132, 3) := by decide +kernel
theorem dX12_solid_107 : decode cX12_solid 107 = .ok (.ifCond .eq 19, 3) := by decide +kernel
theorem dX12_solid_110 : decode cX12_solid 110 = .ok (.aload_n 0, 1) := by decide +kernel
theorem dX12_solid_111 : decode cX12_solid 111 = .ok (.invokevirtual 192, 3) := by decide +kernel
theorem dX12_solid_114 : decode cX12_solid 114 = .ok (.ifCond .ne 12, 3) := by decide +kernel
theorem dX12_solid_117 : decode cX12_solid 117 = .ok (.aload_n 0, 1) := by decide +kernel
theorem dX12_solid_118 : decode cX12_solid 118 = .ok (.iconst 5, 1) := by decide +kernel
theorem dX12_solid_119 : decode cX12_solid 119 = .ok (.aload_n 0, 1) := by decide +kernel
theorem dX12_solid_120 : decode cX12_solid 120 = .ok (.getfield 114, 3) := by decide +kernel
theorem dX12_solid_123 : decode cX12_solid 123 = .ok (.invokevirtual 151, 3) := by decide +kernel
theorem dX12_solid_126 : decode cX12_solid 126 = .ok (.aload_n 0, 1) := by decide +kernel
theorem dX12_solid_127 : decode cX12_solid 127 = .ok (.iconst 0, 1) := by decide +kernel
theorem dX12_solid_128 : decode cX12_solid 128 = .ok (.putfield 114, 3) := by decide +kernel
theorem dX12_solid_131 : decode cX12_solid 131 = .ok (.aload_n 0, 1) := by decide +kernel
theorem dX12_solid_132 : decode cX12_solid 132 = .ok (.invokevirtual 132, 3) := by decide +kernel
theorem dX12_solid_135 : decode cX12_solid 135 = .ok (.ifCond .ne 11, 3) := by decide +kernel
theorem dX12_solid_138 : decode cX12_solid 138 = .ok (.bipush (-2), 2) := by decide +kernel
theorem dX12_solid_140 : decode cX12_solid 140 = .ok (.aload_n 0, 1) := by decide +kernel
theorem dX12_solid_141 : decode cX12_solid 141 = .ok (.getfield 129, 3) := by decide +kernel
theorem dX12_solid_144 : decode cX12_solid 144 = .ok (.isub, 1) := by decide +kernel
theorem dX12_solid_145 : decode cX12_solid 145 = .ok (.ireturn, 1) := by decide +kernel
theorem dX12_solid_146 : decode cX12_solid 146 = .ok (.aload_n 0, 1) := by decide +kernel
theorem dX12_solid_147 : decode cX12_solid 147 = .ok (.getfield 13, 3) := by decide +kernel
theorem dX12_solid_150 : decode cX12_solid 150 = .ok (.iconst 0, 1) := by decide +kernel
theorem dX12_solid_151 : decode cX12_solid 151 = .ok (.aload_n 0, 1) := by decide +kernel
theorem dX12_solid_152 : decode cX12_solid 152 = .ok (.getfield 9, 3) := by decide +kernel
theorem dX12_solid_155 : decode cX12_solid 155 = .ok (.iconst 0, 1) := by decide +kernel
theorem dX12_solid_156 : decode cX12_solid 156 = .ok (.invokestatic 195, 3) := by decide +kernel
theorem dX12_solid_159 : decode cX12_solid 159 = .ok (.aload_n 0, 1) := by decide +kernel
theorem dX12_solid_160 : decode cX12_solid 160 = .ok (.iconst 0, 1) := by decide +kernel
theorem dX12_solid_161 : decode cX12_solid 161 = .ok (.putfield 199, 3) := by decide +kernel
theorem dX12_solid_164 : decode cX12_solid 164 = .ok (.aload_n 0, 1) := by decide +kernel
theorem dX12_solid_165 : decode cX12_solid 165 = .ok (.invokevirtual 202, 3) := by decide +kernel
theorem dX12_solid_168 : decode cX12_solid 168 = .ok (.aload_n 0, 1) := by decide +kernel
theorem dX12_solid_169 : decode cX12_solid 169 = .ok (.getfield 205, 3) := by decide +kernel
theorem dX12_solid_172 : decode cX12_solid 172 = .ok (.ireturn, 1) := by decide +kernel
theorem dX12_wayOf_0 : decode cX12_wayOf 0 = .ok (.iload_n 1, 1) := by decide +kernel
theorem dX12_wayOf_1 : decode cX12_wayOf 1 = .ok (.iconst 2, 1) := by decide +kernel
theorem dX12_wayOf_2 : decode cX12_wayOf 2 = .ok (.irem, 1) := by decide +kernel
theorem dX12_wayOf_3 : decode cX12_wayOf 3 = .ok (.ifCond .ne 11, 3) := by decide +kernel
theorem dX12_wayOf_6 : decode cX12_wayOf 6 = .ok (.getstatic 208, 3) := by decide +kernel
theorem dX12_wayOf_9 : decode cX12_wayOf 9 = .ok (.iload_n 0, 1) := by decide +kernel
theorem dX12_wayOf_10 : decode cX12_wayOf 10 = .ok (.iaload, 1) := by decide +kernel
theorem dX12_wayOf_11 : decode cX12_wayOf 11 = .ok (.goto 8, 3) := by decide +kernel
theorem dX12_wayOf_14 : decode cX12_wayOf 14 = .ok (.getstatic 211, 3) := by decide +kernel
theorem dX12_wayOf_17 : decode cX12_wayOf 17 = .ok (.iload_n 0, 1) := by decide +kernel
theorem dX12_wayOf_18 : decode cX12_wayOf 18 = .ok (.iaload, 1) := by decide +kernel
theorem dX12_wayOf_19 : decode cX12_wayOf 19 = .ok (.istore_n 2, 1) := by decide +kernel
theorem dX12_wayOf_20 : decode cX12_wayOf 20 = .ok (.iload_n 1, 1) := by decide +kernel
theorem dX12_wayOf_21 : decode cX12_wayOf 21 = .ok (.iconst 2, 1) := by decide +kernel
theorem dX12_wayOf_22 : decode cX12_wayOf 22 = .ok (.if_icmp .ge 7, 3) := by decide +kernel
theorem dX12_wayOf_25 : decode cX12_wayOf 25 = .ok (.iload_n 2, 1) := by decide +kernel
theorem dX12_wayOf_26 : decode cX12_wayOf 26 = .ok (.goto 6, 3) := by decide +kernel
theorem dX12_wayOf_29 : decode cX12_wayOf 29 = .ok (.iload_n 2, 1) := by decide +kernel
theorem dX12_wayOf_30 : decode cX12_wayOf 30 = .ok (.iconst 1, 1) := by decide +kernel
theorem dX12_wayOf_31 : decode cX12_wayOf 31 = .ok (.ixor, 1) := by decide +kernel
theorem dX12_wayOf_32 : decode cX12_wayOf 32 = .ok (.ireturn, 1) := by decide +kernel
theorem dX12_cubeAt_0 : decode cX12_cubeAt 0 = .ok (.aload_n 0, 1) := by decide +kernel
theorem dX12_cubeAt_1 : decode cX12_cubeAt 1 = .ok (.getfield 9, 3) := by decide +kernel
theorem dX12_cubeAt_4 : decode cX12_cubeAt 4 = .ok (.iconst 1, 1) := by decide +kernel
theorem dX12_cubeAt_5 : decode cX12_cubeAt 5 = .ok (.iconst 3, 1) := by decide +kernel
theorem dX12_cubeAt_6 : decode cX12_cubeAt 6 = .ok (.iload_n 1, 1) := by decide +kernel
theorem dX12_cubeAt_7 : decode cX12_cubeAt 7 = .ok (.imul, 1) := by decide +kernel
theorem dX12_cubeAt_8 : decode cX12_cubeAt 8 = .ok (.iadd, 1) := by decide +kernel
theorem dX12_cubeAt_9 : decode cX12_cubeAt 9 = .ok (.iaload, 1) := by decide +kernel
theorem dX12_cubeAt_10 : decode cX12_cubeAt 10 = .ok (.iload_n 2, 1) := by decide +kernel
theorem dX12_cubeAt_11 : decode cX12_cubeAt 11 = .ok (.iconst (-1), 1) := by decide +kernel
theorem dX12_cubeAt_12 : decode cX12_cubeAt 12 = .ok (.if_icmp .ne 7, 3) := by decide +kernel
theorem dX12_cubeAt_15 : decode cX12_cubeAt 15 = .ok (.iconst 0, 1) := by decide +kernel
theorem dX12_cubeAt_16 : decode cX12_cubeAt 16 = .ok (.goto 8, 3) := by decide +kernel
theorem dX12_cubeAt_19 : decode cX12_cubeAt 19 = .ok (.getstatic 214, 3) := by decide +kernel
theorem dX12_cubeAt_22 : decode cX12_cubeAt 22 = .ok (.iload_n 2, 1) := by decide +kernel
theorem dX12_cubeAt_23 : decode cX12_cubeAt 23 = .ok (.iaload, 1) := by decide +kernel
theorem dX12_cubeAt_24 : decode cX12_cubeAt 24 = .ok (.iadd, 1) := by decide +kernel
theorem dX12_cubeAt_25 : decode cX12_cubeAt 25 = .ok (.iload_n 3, 1) := by decide +kernel
theorem dX12_cubeAt_26 : decode cX12_cubeAt 26 = .ok (.iconst (-1), 1) := by decide +kernel
theorem dX12_cubeAt_27 : decode cX12_cubeAt 27 = .ok (.if_icmp .ne 7, 3) := by decide +kernel
theorem dX12_cubeAt_30 : decode cX12_cubeAt 30 = .ok (.iconst 0, 1) := by decide +kernel
theorem dX12_cubeAt_31 : decode cX12_cubeAt 31 = .ok (.goto 8, 3) := by decide +kernel
theorem dX12_cubeAt_34 : decode cX12_cubeAt 34 = .ok (.getstatic 214, 3) := by decide +kernel
theorem dX12_cubeAt_37 : decode cX12_cubeAt 37 = .ok (.iload_n 3, 1) := by decide +kernel
theorem dX12_cubeAt_38 : decode cX12_cubeAt 38 = .ok (.iaload, 1) := by decide +kernel
theorem dX12_cubeAt_39 : decode cX12_cubeAt 39 = .ok (.iadd, 1) := by decide +kernel
theorem dX12_cubeAt_40 : decode cX12_cubeAt 40 = .ok (.istore 4, 2) := by decide +kernel
theorem dX12_cubeAt_42 : decode cX12_cubeAt 42 = .ok (.aload_n 0, 1) := by decide +kernel
theorem dX12_cubeAt_43 : decode cX12_cubeAt 43 = .ok (.getfield 9, 3) := by decide +kernel
theorem dX12_cubeAt_46 : decode cX12_cubeAt 46 = .ok (.iconst 1, 1) := by decide +kernel
theorem dX12_cubeAt_47 : decode cX12_cubeAt 47 = .ok (.iconst 3, 1) := by decide +kernel
theorem dX12_cubeAt_48 : decode cX12_cubeAt 48 = .ok (.iload_n 1, 1) := by decide +kernel
theorem dX12_cubeAt_49 : decode cX12_cubeAt 49 = .ok (.imul, 1) := by decide +kernel
theorem dX12_cubeAt_50 : decode cX12_cubeAt 50 = .ok (.iadd, 1) := by decide +kernel
theorem dX12_cubeAt_51 : decode cX12_cubeAt 51 = .ok (.iconst 1, 1) := by decide +kernel
theorem dX12_cubeAt_52 : decode cX12_cubeAt 52 = .ok (.iadd, 1) := by decide +kernel
theorem dX12_cubeAt_53 : decode cX12_cubeAt 53 = .ok (.iaload, 1) := by decide +kernel
theorem dX12_cubeAt_54 : decode cX12_cubeAt 54 = .ok (.iload_n 2, 1) := by decide +kernel
theorem dX12_cubeAt_55 : decode cX12_cubeAt 55 = .ok (.iconst (-1), 1) := by decide +kernel
theorem dX12_cubeAt_56 : decode cX12_cubeAt 56 = .ok (.if_icmp .ne 7, 3) := by decide +kernel
theorem dX12_cubeAt_59 : decode cX12_cubeAt 59 = .ok (.iconst 0, 1) := by decide +kernel
theorem dX12_cubeAt_60 : decode cX12_cubeAt 60 = .ok (.goto 8, 3) := by decide +kernel
theorem dX12_cubeAt_63 : decode cX12_cubeAt 63 = .ok (.getstatic 217, 3) := by decide +kernel
theorem dX12_cubeAt_66 : decode cX12_cubeAt 66 = .ok (.iload_n 2, 1) := by decide +kernel
theorem dX12_cubeAt_67 : decode cX12_cubeAt 67 = .ok (.iaload, 1) := by decide +kernel
theorem dX12_cubeAt_68 : decode cX12_cubeAt 68 = .ok (.iadd, 1) := by decide +kernel
theorem dX12_cubeAt_69 : decode cX12_cubeAt 69 = .ok (.iload_n 3, 1) := by decide +kernel
theorem dX12_cubeAt_70 : decode cX12_cubeAt 70 = .ok (.iconst (-1), 1) := by decide +kernel
theorem dX12_cubeAt_71 : decode cX12_cubeAt 71 = .ok (.if_icmp .ne 7, 3) := by decide +kernel
theorem dX12_cubeAt_74 : decode cX12_cubeAt 74 = .ok (.iconst 0, 1) := by decide +kernel
theorem dX12_cubeAt_75 : decode cX12_cubeAt 75 = .ok (.goto 8, 3) := by decide +kernel
theorem dX12_cubeAt_78 : decode cX12_cubeAt 78 = .ok (.getstatic 217, 3) := by decide +kernel
theorem dX12_cubeAt_81 : decode cX12_cubeAt 81 = .ok (.iload_n 3, 1) := by decide +kernel
theorem dX12_cubeAt_82 : decode cX12_cubeAt 82 = .ok (.iaload, 1) := by decide +kernel
theorem dX12_cubeAt_83 : decode cX12_cubeAt 83 = .ok (.iadd, 1) := by decide +kernel
theorem dX12_cubeAt_84 : decode cX12_cubeAt 84 = .ok (.istore 5, 2) := by decide +kernel
theorem dX12_cubeAt_86 : decode cX12_cubeAt 86 = .ok (.aload_n 0, 1) := by decide +kernel
theorem dX12_cubeAt_87 : decode cX12_cubeAt 87 = .ok (.getfield 9, 3) := by decide +kernel
theorem dX12_cubeAt_90 : decode cX12_cubeAt 90 = .ok (.iconst 1, 1) := by decide +kernel
theorem dX12_cubeAt_91 : decode cX12_cubeAt 91 = .ok (.iconst 3, 1) := by decide +kernel
theorem dX12_cubeAt_92 : decode cX12_cubeAt 92 = .ok (.iload_n 1, 1) := by decide +kernel
theorem dX12_cubeAt_93 : decode cX12_cubeAt 93 = .ok (.imul, 1) := by decide +kernel
theorem dX12_cubeAt_94 : decode cX12_cubeAt 94 = .ok (.iadd, 1) := by decide +kernel
theorem dX12_cubeAt_95 : decode cX12_cubeAt 95 = .ok (.iconst 2, 1) := by decide +kernel
theorem dX12_cubeAt_96 : decode cX12_cubeAt 96 = .ok (.iadd, 1) := by decide +kernel
theorem dX12_cubeAt_97 : decode cX12_cubeAt 97 = .ok (.iaload, 1) := by decide +kernel
theorem dX12_cubeAt_98 : decode cX12_cubeAt 98 = .ok (.iload_n 2, 1) := by decide +kernel
theorem dX12_cubeAt_99 : decode cX12_cubeAt 99 = .ok (.iconst (-1), 1) := by decide +kernel
theorem dX12_cubeAt_100 : decode cX12_cubeAt 100 = .ok (.if_icmp .ne 7, 3) := by decide +kernel
theorem dX12_cubeAt_103 : decode cX12_cubeAt 103 = .ok (.iconst 0, 1) := by decide +kernel
theorem dX12_cubeAt_104 : decode cX12_cubeAt 104 = .ok (.goto 8, 3) := by decide +kernel
theorem dX12_cubeAt_107 : decode cX12_cubeAt 107 = .ok (.getstatic 220, 3) := by decide +kernel
theorem dX12_cubeAt_110 : decode cX12_cubeAt 110 = .ok (.iload_n 2, 1) := by decide +kernel
theorem dX12_cubeAt_111 : decode cX12_cubeAt 111 = .ok (.iaload, 1) := by decide +kernel
theorem dX12_cubeAt_112 : decode cX12_cubeAt 112 = .ok (.iadd, 1) := by decide +kernel
theorem dX12_cubeAt_113 : decode cX12_cubeAt 113 = .ok (.iload_n 3, 1) := by decide +kernel
theorem dX12_cubeAt_114 : decode cX12_cubeAt 114 = .ok (.iconst (-1), 1) := by decide +kernel
theorem dX12_cubeAt_115 : decode cX12_cubeAt 115 = .ok (.if_icmp .ne 7, 3) := by decide +kernel
theorem dX12_cubeAt_118 : decode cX12_cubeAt 118 = .ok (.iconst 0, 1) := by decide +kernel
theorem dX12_cubeAt_119 : decode cX12_cubeAt 119 = .ok (.goto 8, 3) := by decide +kernel
theorem dX12_cubeAt_122 : decode cX12_cubeAt 122 = .ok (.getstatic 220, 3) := by decide +kernel
theorem dX12_cubeAt_125 : decode cX12_cubeAt 125 = .ok (.iload_n 3, 1) := by decide +kernel
theorem dX12_cubeAt_126 : decode cX12_cubeAt 126 = .ok (.iaload, 1) := by decide +kernel
theorem dX12_cubeAt_127 : decode cX12_cubeAt 127 = .ok (.iadd, 1) := by decide +kernel
theorem dX12_cubeAt_128 : decode cX12_cubeAt 128 = .ok (.istore 6, 2) := by decide +kernel
theorem dX12_cubeAt_130 : decode cX12_cubeAt 130 = .ok (.iconst 0, 1) := by decide +kernel
theorem dX12_cubeAt_131 : decode cX12_cubeAt 131 = .ok (.istore 7, 2) := by decide +kernel
theorem dX12_cubeAt_133 : decode cX12_cubeAt 133 = .ok (.iload 7, 2) := by decide +kernel
theorem dX12_cubeAt_135 : decode cX12_cubeAt 135 = .ok (.aload_n 0, 1) := by decide +kernel
theorem dX12_cubeAt_136 : decode cX12_cubeAt 136 = .ok (.getfield 9, 3) := by decide +kernel
theorem dX12_cubeAt_139 : decode cX12_cubeAt 139 = .ok (.iconst 0, 1) := by decide +kernel
theorem dX12_cubeAt_140 : decode cX12_cubeAt 140 = .ok (.iaload, 1) := by decide +kernel
theorem dX12_cubeAt_141 : decode cX12_cubeAt 141 = .ok (.if_icmp .ge 64, 3) := by decide +kernel
theorem dX12_cubeAt_144 : decode cX12_cubeAt 144 = .ok (.aload_n 0, 1) := by decide +kernel
theorem dX12_cubeAt_145 : decode cX12_cubeAt 145 = .ok (.getfield 9, 3) := by decide +kernel
theorem dX12_cubeAt_148 : decode cX12_cubeAt 148 = .ok (.iconst 1, 1) := by decide +kernel
theorem dX12_cubeAt_149 : decode cX12_cubeAt 149 = .ok (.iconst 3, 1) := by decide +kernel
theorem dX12_cubeAt_150 : decode cX12_cubeAt 150 = .ok (.iload 7, 2) := by decide +kernel
theorem dX12_cubeAt_152 : decode cX12_cubeAt 152 = .ok (.imul, 1) := by decide +kernel
theorem dX12_cubeAt_153 : decode cX12_cubeAt 153 = .ok (.iadd, 1) := by decide +kernel
theorem dX12_cubeAt_154 : decode cX12_cubeAt 154 = .ok (.iaload, 1) := by decide +kernel
theorem dX12_cubeAt_155 : decode cX12_cubeAt 155 = .ok (.iload 4, 2) := by decide +kernel
theorem dX12_cubeAt_157 : decode cX12_cubeAt 157 = .ok (.if_icmp .ne 42, 3) := by decide +kernel
theorem dX12_cubeAt_160 : decode cX12_cubeAt 160 = .ok (.aload_n 0, 1) := by decide +kernel
theorem dX12_cubeAt_161 : decode cX12_cubeAt 161 = .ok (.getfield 9, 3) := by decide +kernel
theorem dX12_cubeAt_164 : decode cX12_cubeAt 164 = .ok (.iconst 1, 1) := by decide +kernel
theorem dX12_cubeAt_165 : decode cX12_cubeAt 165 = .ok (.iconst 3, 1) := by decide +kernel
theorem dX12_cubeAt_166 : decode cX12_cubeAt 166 = .ok (.iload 7, 2) := by decide +kernel
theorem dX12_cubeAt_168 : decode cX12_cubeAt 168 = .ok (.imul, 1) := by decide +kernel
theorem dX12_cubeAt_169 : decode cX12_cubeAt 169 = .ok (.iadd, 1) := by decide +kernel
theorem dX12_cubeAt_170 : decode cX12_cubeAt 170 = .ok (.iconst 1, 1) := by decide +kernel
theorem dX12_cubeAt_171 : decode cX12_cubeAt 171 = .ok (.iadd, 1) := by decide +kernel
theorem dX12_cubeAt_172 : decode cX12_cubeAt 172 = .ok (.iaload, 1) := by decide +kernel
theorem dX12_cubeAt_173 : decode cX12_cubeAt 173 = .ok (.iload 5, 2) := by decide +kernel
theorem dX12_cubeAt_175 : decode cX12_cubeAt 175 = .ok (.if_icmp .ne 24, 3) := by decide +kernel
theorem dX12_cubeAt_178 : decode cX12_cubeAt 178 = .ok (.aload_n 0, 1) := by decide +kernel
theorem dX12_cubeAt_179 : decode cX12_cubeAt 179 = .ok (.getfield 9, 3) := by decide +kernel
theorem dX12_cubeAt_182 : decode cX12_cubeAt 182 = .ok (.iconst 1, 1) := by decide +kernel
theorem dX12_cubeAt_183 : decode cX12_cubeAt 183 = .ok (.iconst 3, 1) := by decide +kernel
theorem dX12_cubeAt_184 : decode cX12_cubeAt 184 = .ok (.iload 7, 2) := by decide +kernel
theorem dX12_cubeAt_186 : decode cX12_cubeAt 186 = .ok (.imul, 1) := by decide +kernel
theorem dX12_cubeAt_187 : decode cX12_cubeAt 187 = .ok (.iadd, 1) := by decide +kernel
theorem dX12_cubeAt_188 : decode cX12_cubeAt 188 = .ok (.iconst 2, 1) := by decide +kernel
theorem dX12_cubeAt_189 : decode cX12_cubeAt 189 = .ok (.iadd, 1) := by decide +kernel
theorem dX12_cubeAt_190 : decode cX12_cubeAt 190 = .ok (.iaload, 1) := by decide +kernel
theorem dX12_cubeAt_191 : decode cX12_cubeAt 191 = .ok (.iload 6, 2) := by decide +kernel
theorem dX12_cubeAt_193 : decode cX12_cubeAt 193 = .ok (.if_icmp .ne 6, 3) := by decide +kernel
theorem dX12_cubeAt_196 : decode cX12_cubeAt 196 = .ok (.iload 7, 2) := by decide +kernel
theorem dX12_cubeAt_198 : decode cX12_cubeAt 198 = .ok (.ireturn, 1) := by decide +kernel
theorem dX12_cubeAt_199 : decode cX12_cubeAt 199 = .ok (.iinc 7 1, 3) := by decide +kernel
theorem dX12_cubeAt_202 : decode cX12_cubeAt 202 = .ok (.goto (-69), 3) := by decide +kernel
theorem dX12_cubeAt_205 : decode cX12_cubeAt 205 = .ok (.iconst (-1), 1) := by decide +kernel
theorem dX12_cubeAt_206 : decode cX12_cubeAt 206 = .ok (.ireturn, 1) := by decide +kernel
theorem dX12_faceOf_0 : decode cX12_faceOf 0 = .ok (.iconst 0, 1) := by decide +kernel
theorem dX12_faceOf_1 : decode cX12_faceOf 1 = .ok (.istore_n 3, 1) := by decide +kernel
theorem dX12_faceOf_2 : decode cX12_faceOf 2 = .ok (.iload_n 3, 1) := by decide +kernel
theorem dX12_faceOf_3 : decode cX12_faceOf 3 = .ok (.aload_n 0, 1) := by decide +kernel
theorem dX12_faceOf_4 : decode cX12_faceOf 4 = .ok (.getfield 205, 3) := by decide +kernel
theorem dX12_faceOf_7 : decode cX12_faceOf 7 = .ok (.if_icmp .ge 31, 3) := by decide +kernel
theorem dX12_faceOf_10 : decode cX12_faceOf 10 = .ok (.aload_n 0, 1) := by decide +kernel
theorem dX12_faceOf_11 : decode cX12_faceOf 11 = .ok (.getfield 33, 3) := by decide +kernel
theorem dX12_faceOf_14 : decode cX12_faceOf 14 = .ok (.iload_n 3, 1) := by decide +kernel
theorem dX12_faceOf_15 : decode cX12_faceOf 15 = .ok (.iaload, 1) := by decide +kernel
theorem dX12_faceOf_16 : decode cX12_faceOf 16 = .ok (.iload_n 1, 1) := by decide +kernel
theorem dX12_faceOf_17 : decode cX12_faceOf 17 = .ok (.if_icmp .ne 15, 3) := by decide +kernel
theorem dX12_faceOf_20 : decode cX12_faceOf 20 = .ok (.aload_n 0, 1) := by decide +kernel
theorem dX12_faceOf_21 : decode cX12_faceOf 21 = .ok (.getfield 36, 3) := by decide +kernel
theorem dX12_faceOf_24 : decode cX12_faceOf 24 = .ok (.iload_n 3, 1) := by decide +kernel
theorem dX12_faceOf_25 : decode cX12_faceOf 25 = .ok (.iaload, 1) := by decide +kernel
theorem dX12_faceOf_26 : decode cX12_faceOf 26 = .ok (.iload_n 2, 1) := by decide +kernel
theorem dX12_faceOf_27 : decode cX12_faceOf 27 = .ok (.if_icmp .ne 5, 3) := by decide +kernel
theorem dX12_faceOf_30 : decode cX12_faceOf 30 = .ok (.iload_n 3, 1) := by decide +kernel
theorem dX12_faceOf_31 : decode cX12_faceOf 31 = .ok (.ireturn, 1) := by decide +kernel
theorem dX12_faceOf_32 : decode cX12_faceOf 32 = .ok (.iinc 3 1, 3) := by decide +kernel
theorem dX12_faceOf_35 : decode cX12_faceOf 35 = .ok (.goto (-33), 3) := by decide +kernel
theorem dX12_faceOf_38 : decode cX12_faceOf 38 = .ok (.iconst (-1), 1) := by decide +kernel
theorem dX12_faceOf_39 : decode cX12_faceOf 39 = .ok (.ireturn, 1) := by decide +kernel
theorem dX12_sideTo_0 : decode cX12_sideTo 0 = .ok (.iconst 0, 1) := by decide +kernel
theorem dX12_sideTo_1 : decode cX12_sideTo 1 = .ok (.istore_n 2, 1) := by decide +kernel
theorem dX12_sideTo_2 : decode cX12_sideTo 2 = .ok (.iload_n 2, 1) := by decide +kernel
theorem dX12_sideTo_3 : decode cX12_sideTo 3 = .ok (.iconst 4, 1) := by decide +kernel
theorem dX12_sideTo_4 : decode cX12_sideTo 4 = .ok (.if_icmp .ge 20, 3) := by decide +kernel
theorem dX12_sideTo_7 : decode cX12_sideTo 7 = .ok (.iload_n 0, 1) := by decide +kernel
theorem dX12_sideTo_8 : decode cX12_sideTo 8 = .ok (.iload_n 2, 1) := by decide +kernel
theorem dX12_sideTo_9 : decode cX12_sideTo 9 = .ok (.invokestatic 223, 3) := by decide +kernel
theorem dX12_sideTo_12 : decode cX12_sideTo 12 = .ok (.iload_n 1, 1) := by decide +kernel
theorem dX12_sideTo_13 : decode cX12_sideTo 13 = .ok (.if_icmp .ne 5, 3) := by decide +kernel
theorem dX12_sideTo_16 : decode cX12_sideTo 16 = .ok (.iload_n 2, 1) := by decide +kernel
theorem dX12_sideTo_17 : decode cX12_sideTo 17 = .ok (.ireturn, 1) := by decide +kernel
theorem dX12_sideTo_18 : decode cX12_sideTo 18 = .ok (.iinc 2 1, 3) := by decide +kernel
theorem dX12_sideTo_21 : decode cX12_sideTo 21 = .ok (.goto (-19), 3) := by decide +kernel
theorem dX12_sideTo_24 : decode cX12_sideTo 24 = .ok (.iconst (-1), 1) := by decide +kernel
theorem dX12_sideTo_25 : decode cX12_sideTo 25 = .ok (.ireturn, 1) := by decide +kernel
theorem dX12_laysBehind_0 : decode cX12_laysBehind 0 = .ok (.aload_n 0, 1) := by decide +kernel
theorem dX12_laysBehind_1 : decode cX12_laysBehind 1 = .ok (.getfield 36, 3) := by decide +kernel
theorem dX12_laysBehind_4 : decode cX12_laysBehind 4 = .ok (.iload_n 1, 1) := by decide +kernel
theorem dX12_laysBehind_5 : decode cX12_laysBehind 5 = .ok (.iaload, 1) := by decide +kernel
theorem dX12_laysBehind_6 : decode cX12_laysBehind 6 = .ok (.istore_n 3, 1) := by decide +kernel
theorem dX12_laysBehind_7 : decode cX12_laysBehind 7 = .ok (.iload_n 3, 1) := by decide +kernel
theorem dX12_laysBehind_8 : decode cX12_laysBehind 8 = .ok (.iload_n 2, 1) := by decide +kernel
theorem dX12_laysBehind_9 : decode cX12_laysBehind 9 = .ok (.invokestatic 223, 3) := by decide +kernel
theorem dX12_laysBehind_12 : decode cX12_laysBehind 12 = .ok (.istore 4, 2) := by decide +kernel
theorem dX12_laysBehind_14 : decode cX12_laysBehind 14 = .ok (.aload_n 0, 1) := by decide +kernel
theorem dX12_laysBehind_15 : decode cX12_laysBehind 15 = .ok (.aload_n 0, 1) := by decide +kernel
theorem dX12_laysBehind_16 : decode cX12_laysBehind 16 = .ok (.getfield 33, 3) := by decide +kernel
theorem dX12_laysBehind_19 : decode cX12_laysBehind 19 = .ok (.iload_n 1, 1) := by decide +kernel
theorem dX12_laysBehind_20 : decode cX12_laysBehind 20 = .ok (.iaload, 1) := by decide +kernel
theorem dX12_laysBehind_21 : decode cX12_laysBehind 21 = .ok (.iload 4, 2) := by decide +kernel
theorem dX12_laysBehind_23 : decode cX12_laysBehind 23 = .ok (.iload_n 3, 1) := by decide +kernel
theorem dX12_laysBehind_24 : decode cX12_laysBehind 24 = .ok (.invokevirtual 226, 3) := by decide +kernel
theorem dX12_laysBehind_27 : decode cX12_laysBehind 27 = .ok (.istore 5, 2) := by decide +kernel
theorem dX12_laysBehind_29 : decode cX12_laysBehind 29 = .ok (.aload_n 0, 1) := by decide +kernel
theorem dX12_laysBehind_30 : decode cX12_laysBehind 30 = .ok (.aload_n 0, 1) := by decide +kernel
theorem dX12_laysBehind_31 : decode cX12_laysBehind 31 = .ok (.getfield 33, 3) := by decide +kernel
theorem dX12_laysBehind_34 : decode cX12_laysBehind 34 = .ok (.iload_n 1, 1) := by decide +kernel
theorem dX12_laysBehind_35 : decode cX12_laysBehind 35 = .ok (.iaload, 1) := by decide +kernel
theorem dX12_laysBehind_36 : decode cX12_laysBehind 36 = .ok (.iload 4, 2) := by decide +kernel
theorem dX12_laysBehind_38 : decode cX12_laysBehind 38 = .ok (.iconst (-1), 1) := by decide +kernel
theorem dX12_laysBehind_39 : decode cX12_laysBehind 39 = .ok (.invokevirtual 226, 3) := by decide +kernel
theorem dX12_laysBehind_42 : decode cX12_laysBehind 42 = .ok (.istore 6, 2) := by decide +kernel
theorem dX12_laysBehind_44 : decode cX12_laysBehind 44 = .ok (.iconst 4, 1) := by decide +kernel
theorem dX12_laysBehind_45 : decode cX12_laysBehind 45 = .ok (.iload_n 1, 1) := by decide +kernel
theorem dX12_laysBehind_46 : decode cX12_laysBehind 46 = .ok (.imul, 1) := by decide +kernel
theorem dX12_laysBehind_47 : decode cX12_laysBehind 47 = .ok (.iload_n 2, 1) := by decide +kernel
theorem dX12_laysBehind_48 : decode cX12_laysBehind 48 = .ok (.iadd, 1) := by decide +kernel
theorem dX12_laysBehind_49 : decode cX12_laysBehind 49 = .ok (.istore 7, 2) := by decide +kernel
theorem dX12_laysBehind_51 : decode cX12_laysBehind 51 = .ok (.iload 5, 2) := by decide +kernel
theorem dX12_laysBehind_53 : decode cX12_laysBehind 53 = .ok (.iconst (-1), 1) := by decide +kernel
theorem dX12_laysBehind_54 : decode cX12_laysBehind 54 = .ok (.if_icmp .eq 31, 3) := by decide +kernel
theorem dX12_laysBehind_57 : decode cX12_laysBehind 57 = .ok (.aload_n 0, 1) := by decide +kernel
theorem dX12_laysBehind_58 : decode cX12_laysBehind 58 = .ok (.getfield 45, 3) := by decide +kernel
theorem dX12_laysBehind_61 : decode cX12_laysBehind 61 = .ok (.iload 7, 2) := by decide +kernel
theorem dX12_laysBehind_63 : decode cX12_laysBehind 63 = .ok (.iconst 2, 1) := by decide +kernel
theorem dX12_laysBehind_64 : decode cX12_laysBehind 64 = .ok (.iastore, 1) := by decide +kernel
theorem dX12_laysBehind_65 : decode cX12_laysBehind 65 = .ok (.aload_n 0, 1) := by decide +kernel
theorem dX12_laysBehind_66 : decode cX12_laysBehind 66 = .ok (.iload 5, 2) := by decide +kernel
theorem dX12_laysBehind_68 : decode cX12_laysBehind 68 = .ok (.iload 4, 2) := by decide +kernel
theorem dX12_laysBehind_70 : decode cX12_laysBehind 70 = .ok (.iconst 1, 1) := by decide +kernel
theorem dX12_laysBehind_71 : decode cX12_laysBehind 71 = .ok (.ixor, 1) := by decide +kernel
theorem dX12_laysBehind_72 : decode cX12_laysBehind 72 = .ok (.invokevirtual 230, 3) := by decide +kernel
theorem dX12_laysBehind_75 : decode cX12_laysBehind 75 = .ok (.istore 8, 2) := by decide +kernel
theorem dX12_laysBehind_77 : decode cX12_laysBehind 77 = .ok (.iload_n 3, 1) := by decide +kernel
theorem dX12_laysBehind_78 : decode cX12_laysBehind 78 = .ok (.iconst 1, 1) := by decide +kernel
theorem dX12_laysBehind_79 : decode cX12_laysBehind 79 = .ok (.ixor, 1) := by decide +kernel
theorem dX12_laysBehind_80 : decode cX12_laysBehind 80 = .ok (.istore 9, 2) := by decide +kernel
theorem dX12_laysBehind_82 : decode cX12_laysBehind 82 = .ok (.goto 60, 3) := by decide +kernel
theorem dX12_laysBehind_85 : decode cX12_laysBehind 85 = .ok (.iload 6, 2) := by decide +kernel
theorem dX12_laysBehind_87 : decode cX12_laysBehind 87 = .ok (.iconst (-1), 1) := by decide +kernel
theorem dX12_laysBehind_88 : decode cX12_laysBehind 88 = .ok (.if_icmp .eq 29, 3) := by decide +kernel
theorem dX12_laysBehind_91 : decode cX12_laysBehind 91 = .ok (.aload_n 0, 1) := by decide +kernel
theorem dX12_laysBehind_92 : decode cX12_laysBehind 92 = .ok (.getfield 45, 3) := by decide +kernel
theorem dX12_laysBehind_95 : decode cX12_laysBehind 95 = .ok (.iload 7, 2) := by decide +kernel
theorem dX12_laysBehind_97 : decode cX12_laysBehind 97 = .ok (.iconst 1, 1) := by decide +kernel
theorem dX12_laysBehind_98 : decode cX12_laysBehind 98 = .ok (.iastore, 1) := by decide +kernel
theorem dX12_laysBehind_99 : decode cX12_laysBehind 99 = .ok (.aload_n 0, 1) := by decide +kernel
theorem dX12_laysBehind_100 : decode cX12_laysBehind 100 = .ok (.iload 6, 2) := by decide +kernel
theorem dX12_laysBehind_102 : decode cX12_laysBehind 102 = .ok (.iload_n 3, 1) := by decide +kernel
theorem dX12_laysBehind_103 : decode cX12_laysBehind 103 = .ok (.invokevirtual 230, 3) := by decide +kernel
theorem dX12_laysBehind_106 : decode cX12_laysBehind 106 = .ok (.istore 8, 2) := by decide +kernel
theorem dX12_laysBehind_108 : decode cX12_laysBehind 108 = .ok (.iload 4, 2) := by decide +kernel
theorem dX12_laysBehind_110 : decode cX12_laysBehind 110 = .ok (.iconst 1, 1) := by decide +kernel
theorem dX12_laysBehind_111 : decode cX12_laysBehind 111 = .ok (.ixor, 1) := by decide +kernel
theorem dX12_laysBehind_112 : decode cX12_laysBehind 112 = .ok (.istore 9, 2) := by decide +kernel
theorem dX12_laysBehind_114 : decode cX12_laysBehind 114 = .ok (.goto 28, 3) := by decide +kernel
theorem dX12_laysBehind_117 : decode cX12_laysBehind 117 = .ok (.aload_n 0, 1) := by decide +kernel
theorem dX12_laysBehind_118 : decode cX12_laysBehind 118 = .ok (.getfield 45, 3) := by decide +kernel
theorem dX12_laysBehind_121 : decode cX12_laysBehind 121 = .ok (.iload 7, 2) := by decide +kernel
theorem dX12_laysBehind_123 : decode cX12_laysBehind 123 = .ok (.iconst 0, 1) := by decide +kernel
theorem dX12_laysBehind_124 : decode cX12_laysBehind 124 = .ok (.iastore, 1) := by decide +kernel
theorem dX12_laysBehind_125 : decode cX12_laysBehind 125 = .ok (.aload_n 0, 1) := by decide +kernel
theorem dX12_laysBehind_126 : decode cX12_laysBehind 126 = .ok (.aload_n 0, 1) := by decide +kernel
theorem dX12_laysBehind_127 : decode cX12_laysBehind 127 = .ok (.getfield 33, 3) := by decide +kernel
theorem dX12_laysBehind_130 : decode cX12_laysBehind 130 = .ok (.iload_n 1, 1) := by decide +kernel
theorem dX12_laysBehind_131 : decode cX12_laysBehind 131 = .ok (.iaload, 1) := by decide +kernel
theorem dX12_laysBehind_132 : decode cX12_laysBehind 132 = .ok (.iload 4, 2) := by decide +kernel
theorem dX12_laysBehind_134 : decode cX12_laysBehind 134 = .ok (.invokevirtual 230, 3) := by decide +kernel
theorem dX12_laysBehind_137 : decode cX12_laysBehind 137 = .ok (.istore 8, 2) := by decide +kernel
theorem dX12_laysBehind_139 : decode cX12_laysBehind 139 = .ok (.iload_n 3, 1) := by decide +kernel
theorem dX12_laysBehind_140 : decode cX12_laysBehind 140 = .ok (.istore 9, 2) := by decide +kernel
theorem dX12_laysBehind_142 : decode cX12_laysBehind 142 = .ok (.aload_n 0, 1) := by decide +kernel
theorem dX12_laysBehind_143 : decode cX12_laysBehind 143 = .ok (.getfield 39, 3) := by decide +kernel
theorem dX12_laysBehind_146 : decode cX12_laysBehind 146 = .ok (.iload 7, 2) := by decide +kernel
theorem dX12_laysBehind_148 : decode cX12_laysBehind 148 = .ok (.iload 8, 2) := by decide +kernel
theorem dX12_laysBehind_150 : decode cX12_laysBehind 150 = .ok (.iastore, 1) := by decide +kernel
theorem dX12_laysBehind_151 : decode cX12_laysBehind 151 = .ok (.aload_n 0, 1) := by decide +kernel
theorem dX12_laysBehind_152 : decode cX12_laysBehind 152 = .ok (.getfield 42, 3) := by decide +kernel
theorem dX12_laysBehind_155 : decode cX12_laysBehind 155 = .ok (.iload 7, 2) := by decide +kernel
theorem dX12_laysBehind_157 : decode cX12_laysBehind 157 = .ok (.aload_n 0, 1) := by decide +kernel
theorem dX12_laysBehind_158 : decode cX12_laysBehind 158 = .ok (.getfield 36, 3) := by decide +kernel
theorem dX12_laysBehind_161 : decode cX12_laysBehind 161 = .ok (.iload 8, 2) := by decide +kernel
theorem dX12_laysBehind_163 : decode cX12_laysBehind 163 = .ok (.iaload, 1) := by decide +kernel
theorem dX12_laysBehind_164 : decode cX12_laysBehind 164 = .ok (.iload 9, 2) := by decide +kernel
theorem dX12_laysBehind_166 : decode cX12_laysBehind 166 = .ok (.invokestatic 233, 3) := by decide +kernel
theorem dX12_laysBehind_169 : decode cX12_laysBehind 169 = .ok (.iastore, 1) := by decide +kernel
theorem dX12_laysBehind_170 : decode cX12_laysBehind 170 = .ok (.return_, 1) := by decide +kernel
theorem dX12_laysSkin_0 : decode cX12_laysSkin 0 = .ok (.aload_n 0, 1) := by decide +kernel
theorem dX12_laysSkin_1 : decode cX12_laysSkin 1 = .ok (.iconst 0, 1) := by decide +kernel
theorem dX12_laysSkin_2 : decode cX12_laysSkin 2 = .ok (.putfield 205, 3) := by decide +kernel
theorem dX12_laysSkin_5 : decode cX12_laysSkin 5 = .ok (.iconst 0, 1) := by decide +kernel
theorem dX12_laysSkin_6 : decode cX12_laysSkin 6 = .ok (.istore_n 1, 1) := by decide +kernel
theorem dX12_laysSkin_7 : decode cX12_laysSkin 7 = .ok (.iload_n 1, 1) := by decide +kernel
theorem dX12_laysSkin_8 : decode cX12_laysSkin 8 = .ok (.aload_n 0, 1) := by decide +kernel
theorem dX12_laysSkin_9 : decode cX12_laysSkin 9 = .ok (.getfield 9, 3) := by decide +kernel
theorem dX12_laysSkin_12 : decode cX12_laysSkin 12 = .ok (.iconst 0, 1) := by decide +kernel
theorem dX12_laysSkin_13 : decode cX12_laysSkin 13 = .ok (.iaload, 1) := by decide +kernel
theorem dX12_laysSkin_14 : decode cX12_laysSkin 14 = .ok (.if_icmp .ge 64, 3) := by decide +kernel
theorem dX12_laysSkin_17 : decode cX12_laysSkin 17 = .ok (.iconst 0, 1) := by decide +kernel
theorem dX12_laysSkin_18 : decode cX12_laysSkin 18 = .ok (.istore_n 2, 1) := by decide +kernel
theorem dX12_laysSkin_19 : decode cX12_laysSkin 19 = .ok (.iload_n 2, 1) := by decide +kernel
theorem dX12_laysSkin_20 : decode cX12_laysSkin 20 = .ok (.bipush 6, 2) := by decide +kernel
theorem dX12_laysSkin_22 : decode cX12_laysSkin 22 = .ok (.if_icmp .ge 50, 3) := by decide +kernel
theorem dX12_laysSkin_25 : decode cX12_laysSkin 25 = .ok (.aload_n 0, 1) := by decide +kernel
theorem dX12_laysSkin_26 : decode cX12_laysSkin 26 = .ok (.iload_n 1, 1) := by decide +kernel
theorem dX12_laysSkin_27 : decode cX12_laysSkin 27 = .ok (.iload_n 2, 1) := by decide +kernel
theorem dX12_laysSkin_28 : decode cX12_laysSkin 28 = .ok (.iconst (-1), 1) := by decide +kernel
theorem dX12_laysSkin_29 : decode cX12_laysSkin 29 = .ok (.invokevirtual 226, 3) := by decide +kernel
theorem dX12_laysSkin_32 : decode cX12_laysSkin 32 = .ok (.iconst (-1), 1) := by decide +kernel
theorem dX12_laysSkin_33 : decode cX12_laysSkin 33 = .ok (.if_icmp .ne 33, 3) := by decide +kernel
theorem dX12_laysSkin_36 : decode cX12_laysSkin 36 = .ok (.aload_n 0, 1) := by decide +kernel
theorem dX12_laysSkin_37 : decode cX12_laysSkin 37 = .ok (.getfield 33, 3) := by decide +kernel
theorem dX12_laysSkin_40 : decode cX12_laysSkin 40 = .ok (.aload_n 0, 1) := by decide +kernel
theorem dX12_laysSkin_41 : decode cX12_laysSkin 41 = .ok (.getfield 205, 3) := by decide +kernel
theorem dX12_laysSkin_44 : decode cX12_laysSkin 44 = .ok (.iload_n 1, 1) := by decide +kernel
theorem dX12_laysSkin_45 : decode cX12_laysSkin 45 = .ok (.iastore, 1) := by decide +kernel
theorem dX12_laysSkin_46 : decode cX12_laysSkin 46 = .ok (.aload_n 0, 1) := by decide +kernel
theorem dX12_laysSkin_47 : decode cX12_laysSkin 47 = .ok (.getfield 36, 3) := by decide +kernel
theorem dX12_laysSkin_50 : decode cX12_laysSkin 50 = .ok (.aload_n 0, 1) := by decide +kernel
theorem dX12_laysSkin_51 : decode cX12_laysSkin 51 = .ok (.getfield 205, 3) := by decide +kernel
theorem dX12_laysSkin_54 : decode cX12_laysSkin 54 = .ok (.iload_n 2, 1) := by decide +kernel
theorem dX12_laysSkin_55 : decode cX12_laysSkin 55 = .ok (.iastore, 1) := by decide +kernel
theorem dX12_laysSkin_56 : decode cX12_laysSkin 56 = .ok (.aload_n 0, 1) := by decide +kernel
theorem dX12_laysSkin_57 : decode cX12_laysSkin 57 = .ok (.dup, 1) := by decide +kernel
theorem dX12_laysSkin_58 : decode cX12_laysSkin 58 = .ok (.getfield 205, 3) := by decide +kernel
theorem dX12_laysSkin_61 : decode cX12_laysSkin 61 = .ok (.iconst 1, 1) := by decide +kernel
theorem dX12_laysSkin_62 : decode cX12_laysSkin 62 = .ok (.iadd, 1) := by decide +kernel
theorem dX12_laysSkin_63 : decode cX12_laysSkin 63 = .ok (.putfield 205, 3) := by decide +kernel
theorem dX12_laysSkin_66 : decode cX12_laysSkin 66 = .ok (.iinc 2 1, 3) := by decide +kernel
theorem dX12_laysSkin_69 : decode cX12_laysSkin 69 = .ok (.goto (-50), 3) := by decide +kernel
theorem dX12_laysSkin_72 : decode cX12_laysSkin 72 = .ok (.iinc 1 1, 3) := by decide +kernel
theorem dX12_laysSkin_75 : decode cX12_laysSkin 75 = .ok (.goto (-68), 3) := by decide +kernel
theorem dX12_laysSkin_78 : decode cX12_laysSkin 78 = .ok (.iconst 0, 1) := by decide +kernel
theorem dX12_laysSkin_79 : decode cX12_laysSkin 79 = .ok (.istore_n 1, 1) := by decide +kernel
theorem dX12_laysSkin_80 : decode cX12_laysSkin 80 = .ok (.iload_n 1, 1) := by decide +kernel
theorem dX12_laysSkin_81 : decode cX12_laysSkin 81 = .ok (.aload_n 0, 1) := by decide +kernel
theorem dX12_laysSkin_82 : decode cX12_laysSkin 82 = .ok (.getfield 205, 3) := by decide +kernel
theorem dX12_laysSkin_85 : decode cX12_laysSkin 85 = .ok (.if_icmp .ge 50, 3) := by decide +kernel
theorem dX12_laysSkin_88 : decode cX12_laysSkin 88 = .ok (.iconst 0, 1) := by decide +kernel
theorem dX12_laysSkin_89 : decode cX12_laysSkin 89 = .ok (.istore_n 2, 1) := by decide +kernel
theorem dX12_laysSkin_90 : decode cX12_laysSkin 90 = .ok (.iload_n 2, 1) := by decide +kernel
theorem dX12_laysSkin_91 : decode cX12_laysSkin 91 = .ok (.iconst 4, 1) := by decide +kernel
theorem dX12_laysSkin_92 : decode cX12_laysSkin 92 = .ok (.if_icmp .ge 37, 3) := by decide +kernel
theorem dX12_laysSkin_95 : decode cX12_laysSkin 95 = .ok (.aload_n 0, 1) := by decide +kernel
theorem dX12_laysSkin_96 : decode cX12_laysSkin 96 = .ok (.iload_n 1, 1) := by decide +kernel
theorem dX12_laysSkin_97 : decode cX12_laysSkin 97 = .ok (.iload_n 2, 1) := by decide +kernel
theorem dX12_laysSkin_98 : decode cX12_laysSkin 98 = .ok (.invokevirtual 236, 3) := by decide +kernel
theorem dX12_laysSkin_101 : decode cX12_laysSkin 101 = .ok (.aload_n 0, 1) := by decide +kernel
theorem dX12_laysSkin_102 : decode cX12_laysSkin 102 = .ok (.getfield 48, 3) := by decide +kernel
theorem dX12_laysSkin_105 : decode cX12_laysSkin 105 = .ok (.iconst 4, 1) := by decide +kernel
theorem dX12_laysSkin_106 : decode cX12_laysSkin 106 = .ok (.iload_n 1, 1) := by decide +kernel
theorem dX12_laysSkin_107 : decode cX12_laysSkin 107 = .ok (.imul, 1) := by decide +kernel
theorem dX12_laysSkin_108 : decode cX12_laysSkin 108 = .ok (.iload_n 2, 1) := by decide +kernel
theorem dX12_laysSkin_109 : decode cX12_laysSkin 109 = .ok (.iadd, 1) := by decide +kernel
theorem dX12_laysSkin_110 : decode cX12_laysSkin 110 = .ok (.iconst (-1), 1) := by decide +kernel
theorem dX12_laysSkin_111 : decode cX12_laysSkin 111 = .ok (.iastore, 1) := by decide +kernel
theorem dX12_laysSkin_112 : decode cX12_laysSkin 112 = .ok (.aload_n 0, 1) := by decide +kernel
theorem dX12_laysSkin_113 : decode cX12_laysSkin 113 = .ok (.getfield 54, 3) := by decide +kernel
theorem dX12_laysSkin_116 : decode cX12_laysSkin 116 = .ok (.iconst 4, 1) := by decide +kernel
theorem dX12_laysSkin_117 : decode cX12_laysSkin 117 = .ok (.iload_n 1, 1) := by decide +kernel
theorem dX12_laysSkin_118 : decode cX12_laysSkin 118 = .ok (.imul, 1) := by decide +kernel
theorem dX12_laysSkin_119 : decode cX12_laysSkin 119 = .ok (.iload_n 2, 1) := by decide +kernel
theorem dX12_laysSkin_120 : decode cX12_laysSkin 120 = .ok (.iadd, 1) := by decide +kernel
theorem dX12_laysSkin_121 : decode cX12_laysSkin 121 = .ok (.iconst (-1), 1) := by decide +kernel
theorem dX12_laysSkin_122 : decode cX12_laysSkin 122 = .ok (.iastore, 1) := by decide +kernel
theorem dX12_laysSkin_123 : decode cX12_laysSkin 123 = .ok (.iinc 2 1, 3) := by decide +kernel
theorem dX12_laysSkin_126 : decode cX12_laysSkin 126 = .ok (.goto (-36), 3) := by decide +kernel
theorem dX12_laysSkin_129 : decode cX12_laysSkin 129 = .ok (.iinc 1 1, 3) := by decide +kernel
theorem dX12_laysSkin_132 : decode cX12_laysSkin 132 = .ok (.goto (-52), 3) := by decide +kernel
theorem dX12_laysSkin_135 : decode cX12_laysSkin 135 = .ok (.aload_n 0, 1) := by decide +kernel
theorem dX12_laysSkin_136 : decode cX12_laysSkin 136 = .ok (.invokevirtual 239, 3) := by decide +kernel
theorem dX12_laysSkin_139 : decode cX12_laysSkin 139 = .ok (.aload_n 0, 1) := by decide +kernel
theorem dX12_laysSkin_140 : decode cX12_laysSkin 140 = .ok (.invokevirtual 242, 3) := by decide +kernel
theorem dX12_laysSkin_143 : decode cX12_laysSkin 143 = .ok (.return_, 1) := by decide +kernel
theorem dX12_mate_0 : decode cX12_mate 0 = .ok (.iconst 4, 1) := by decide +kernel
theorem dX12_mate_1 : decode cX12_mate 1 = .ok (.aload_n 0, 1) := by decide +kernel
theorem dX12_mate_2 : decode cX12_mate 2 = .ok (.getfield 39, 3) := by decide +kernel
theorem dX12_mate_5 : decode cX12_mate 5 = .ok (.iload_n 1, 1) := by decide +kernel
theorem dX12_mate_6 : decode cX12_mate 6 = .ok (.iaload, 1) := by decide +kernel
theorem dX12_mate_7 : decode cX12_mate 7 = .ok (.imul, 1) := by decide +kernel
theorem dX12_mate_8 : decode cX12_mate 8 = .ok (.aload_n 0, 1) := by decide +kernel
theorem dX12_mate_9 : decode cX12_mate 9 = .ok (.getfield 42, 3) := by decide +kernel
theorem dX12_mate_12 : decode cX12_mate 12 = .ok (.iload_n 1, 1) := by decide +kernel
theorem dX12_mate_13 : decode cX12_mate 13 = .ok (.iaload, 1) := by decide +kernel
theorem dX12_mate_14 : decode cX12_mate 14 = .ok (.iadd, 1) := by decide +kernel
theorem dX12_mate_15 : decode cX12_mate 15 = .ok (.ireturn, 1) := by decide +kernel
theorem dX12_laysEdges_0 : decode cX12_laysEdges 0 = .ok (.aload_n 0, 1) := by decide +kernel
theorem dX12_laysEdges_1 : decode cX12_laysEdges 1 = .ok (.iconst 0, 1) := by decide +kernel
theorem dX12_laysEdges_2 : decode cX12_laysEdges 2 = .ok (.putfield 245, 3) := by decide +kernel
theorem dX12_laysEdges_5 : decode cX12_laysEdges 5 = .ok (.iconst 0, 1) := by decide +kernel
theorem dX12_laysEdges_6 : decode cX12_laysEdges 6 = .ok (.istore_n 1, 1) := by decide +kernel
theorem dX12_laysEdges_7 : decode cX12_laysEdges 7 = .ok (.iload_n 1, 1) := by decide +kernel
theorem dX12_laysEdges_8 : decode cX12_laysEdges 8 = .ok (.iconst 4, 1) := by decide +kernel
theorem dX12_laysEdges_9 : decode cX12_laysEdges 9 = .ok (.aload_n 0, 1) := by decide +kernel
theorem dX12_laysEdges_10 : decode cX12_laysEdges 10 = .ok (.getfield 205, 3) := by decide +kernel
theorem dX12_laysEdges_13 : decode cX12_laysEdges 13 = .ok (.imul, 1) := by decide +kernel
theorem dX12_laysEdges_14 : decode cX12_laysEdges 14 = .ok (.if_icmp .ge 63, 3) := by decide +kernel
theorem dX12_laysEdges_17 : decode cX12_laysEdges 17 = .ok (.aload_n 0, 1) := by decide +kernel
theorem dX12_laysEdges_18 : decode cX12_laysEdges 18 = .ok (.getfield 48, 3) := by decide +kernel
theorem dX12_laysEdges_21 : decode cX12_laysEdges 21 = .ok (.iload_n 1, 1) := by decide +kernel
theorem dX12_laysEdges_22 : decode cX12_laysEdges 22 = .ok (.iaload, 1) := by decide +kernel
theorem dX12_laysEdges_23 : decode cX12_laysEdges 23 = .ok (.iconst (-1), 1) := by decide +kernel
theorem dX12_laysEdges_24 : decode cX12_laysEdges 24 = .ok (.if_icmp .ne 47, 3) := by decide +kernel
theorem dX12_laysEdges_27 : decode cX12_laysEdges 27 = .ok (.aload_n 0, 1) := by decide +kernel
theorem dX12_laysEdges_28 : decode cX12_laysEdges 28 = .ok (.getfield 48, 3) := by decide +kernel
theorem dX12_laysEdges_31 : decode cX12_laysEdges 31 = .ok (.iload_n 1, 1) := by decide +kernel
theorem dX12_laysEdges_32 : decode cX12_laysEdges 32 = .ok (.aload_n 0, 1) := by decide +kernel
theorem dX12_laysEdges_33 : decode cX12_laysEdges 33 = .ok (.getfield 245, 3) := by decide +kernel
theorem dX12_laysEdges_36 : decode cX12_laysEdges 36 = .ok (.iastore, 1) := by decide +kernel
theorem dX12_laysEdges_37 : decode cX12_laysEdges 37 = .ok (.aload_n 0, 1) := by decide +kernel
theorem dX12_laysEdges_38 : decode cX12_laysEdges 38 = .ok (.getfield 48, 3) := by decide +kernel
theorem dX12_laysEdges_41 : decode cX12_laysEdges 41 = .ok (.aload_n 0, 1) := by decide +kernel
theorem dX12_laysEdges_42 : decode cX12_laysEdges 42 = .ok (.iload_n 1, 1) := by decide +kernel
theorem dX12_laysEdges_43 : decode cX12_laysEdges 43 = .ok (.invokevirtual 248, 3) := by decide +kernel
theorem dX12_laysEdges_46 : decode cX12_laysEdges 46 = .ok (.aload_n 0, 1) := by decide +kernel
theorem dX12_laysEdges_47 : decode cX12_laysEdges 47 = .ok (.getfield 245, 3) := by decide +kernel
theorem dX12_laysEdges_50 : decode cX12_laysEdges 50 = .ok (.iastore, 1) := by decide +kernel
theorem dX12_laysEdges_51 : decode cX12_laysEdges 51 = .ok (.aload_n 0, 1) := by decide +kernel
theorem dX12_laysEdges_52 : decode cX12_laysEdges 52 = .ok (.getfield 51, 3) := by decide +kernel
theorem dX12_laysEdges_55 : decode cX12_laysEdges 55 = .ok (.aload_n 0, 1) := by decide +kernel
theorem dX12_laysEdges_56 : decode cX12_laysEdges 56 = .ok (.getfield 245, 3) := by decide +kernel
theorem dX12_laysEdges_59 : decode cX12_laysEdges 59 = .ok (.iload_n 1, 1) := by decide +kernel
theorem dX12_laysEdges_60 : decode cX12_laysEdges 60 = .ok (.iastore, 1) := by decide +kernel
theorem dX12_laysEdges_61 : decode cX12_laysEdges 61 = .ok (.aload_n 0, 1) := by decide +kernel
theorem dX12_laysEdges_62 : decode cX12_laysEdges 62 = .ok (.dup, 1) := by decide +kernel
theorem dX12_laysEdges_63 : decode cX12_laysEdges 63 = .ok (.getfield 245, 3) := by decide +kernel
theorem dX12_laysEdges_66 : decode cX12_laysEdges 66 = .ok (.iconst 1, 1) := by decide +kernel
theorem dX12_laysEdges_67 : decode cX12_laysEdges 67 = .ok (.iadd, 1) := by decide +kernel
theorem dX12_laysEdges_68 : decode cX12_laysEdges 68 = .ok (.putfield 245, 3) := by decide +kernel
theorem dX12_laysEdges_71 : decode cX12_laysEdges 71 = .ok (.iinc 1 1, 3) := by decide +kernel
theorem dX12_laysEdges_74 : decode cX12_laysEdges 74 = .ok (.goto (-67), 3) := by decide +kernel
theorem dX12_laysEdges_77 : decode cX12_laysEdges 77 = .ok (.return_, 1) := by decide +kernel
theorem dX12_laysVertices_0 : decode cX12_laysVertices 0 = .ok (.aload_n 0, 1) := by decide +kernel
theorem dX12_laysVertices_1 : decode cX12_laysVertices 1 = .ok (.iconst 0, 1) := by decide +kernel
theorem dX12_laysVertices_2 : decode cX12_laysVertices 2 = .ok (.putfield 251, 3) := by decide +kernel
theorem dX12_laysVertices_5 : decode cX12_laysVertices 5 = .ok (.iconst 0, 1) := by decide +kernel
theorem dX12_laysVertices_6 : decode cX12_laysVertices 6 = .ok (.istore_n 1, 1) := by decide +kernel
theorem dX12_laysVertices_7 : decode cX12_laysVertices 7 = .ok (.iload_n 1, 1) := by decide +kernel
theorem dX12_laysVertices_8 : decode cX12_laysVertices 8 = .ok (.iconst 4, 1) := by decide +kernel
theorem dX12_laysVertices_9 : decode cX12_laysVertices 9 = .ok (.aload_n 0, 1) := by decide +kernel
theorem dX12_laysVertices_10 : decode cX12_laysVertices 10 = .ok (.getfield 205, 3) := by decide +kernel
theorem dX12_laysVertices_13 : decode cX12_laysVertices 13 = .ok (.imul, 1) := by decide +kernel
theorem dX12_laysVertices_14 : decode cX12_laysVertices 14 = .ok (.if_icmp .ge 98, 3) := by decide +kernel
theorem dX12_laysVertices_17 : decode cX12_laysVertices 17 = .ok (.aload_n 0, 1) := by decide +kernel
theorem dX12_laysVertices_18 : decode cX12_laysVertices 18 = .ok (.getfield 54, 3) := by decide +kernel
theorem dX12_laysVertices_21 : decode cX12_laysVertices 21 = .ok (.iload_n 1, 1) := by decide +kernel
theorem dX12_laysVertices_22 : decode cX12_laysVertices 22 = .ok (.iaload, 1) := by decide +kernel
theorem dX12_laysVertices_23 : decode cX12_laysVertices 23 = .ok (.iconst (-1), 1) := by decide +kernel
theorem dX12_laysVertices_24 : decode cX12_laysVertices 24 = .ok (.if_icmp .eq 6, 3) := by decide +kernel
theorem dX12_laysVertices_27 : decode cX12_laysVertices 27 = .ok (.goto 79, 3) := by decide +kernel
theorem dX12_laysVertices_30 : decode cX12_laysVertices 30 = .ok (.aload_n 0, 1) := by decide +kernel
theorem dX12_laysVertices_31 : decode cX12_laysVertices 31 = .ok (.getfield 57, 3) := by decide +kernel
theorem dX12_laysVertices_34 : decode cX12_laysVertices 34 = .ok (.aload_n 0, 1) := by decide +kernel
theorem dX12_laysVertices_35 : decode cX12_laysVertices 35 = .ok (.getfield 251, 3) := by decide +kernel
theorem dX12_laysVertices_38 : decode cX12_laysVertices 38 = .ok (.iconst 0, 1) := by decide +kernel
theorem dX12_laysVertices_39 : decode cX12_laysVertices 39 = .ok (.iastore, 1) := by decide +kernel
theorem dX12_laysVertices_40 : decode cX12_laysVertices 40 = .ok (.iload_n 1, 1) := by decide +kernel
theorem dX12_laysVertices_41 : decode cX12_laysVertices 41 = .ok (.istore_n 2, 1) := by decide +kernel
theorem dX12_laysVertices_42 : decode cX12_laysVertices 42 = .ok (.aload_n 0, 1) := by decide +kernel
theorem dX12_laysVertices_43 : decode cX12_laysVertices 43 = .ok (.getfield 54, 3) := by decide +kernel
theorem dX12_laysVertices_46 : decode cX12_laysVertices 46 = .ok (.iload_n 2, 1) := by decide +kernel
theorem dX12_laysVertices_47 : decode cX12_laysVertices 47 = .ok (.iaload, 1) := by decide +kernel
theorem dX12_laysVertices_48 : decode cX12_laysVertices 48 = .ok (.iconst (-1), 1) := by decide +kernel
theorem dX12_laysVertices_49 : decode cX12_laysVertices 49 = .ok (.if_icmp .ne 47, 3) := by decide +kernel
theorem dX12_laysVertices_52 : decode cX12_laysVertices 52 = .ok (.aload_n 0, 1) := by decide +kernel
theorem dX12_laysVertices_53 : decode cX12_laysVertices 53 = .ok (.getfield 54, 3) := by decide +kernel
theorem dX12_laysVertices_56 : decode cX12_laysVertices 56 = .ok (.iload_n 2, 1) := by decide +kernel
theorem dX12_laysVertices_57 : decode cX12_laysVertices 57 = .ok (.aload_n 0, 1) := by decide +kernel
theorem dX12_laysVertices_58 : decode cX12_laysVertices 58 = .ok (.getfield 251, 3) := by decide +kernel
theorem dX12_laysVertices_61 : decode cX12_laysVertices 61 = .ok (.iastore, 1) := by decide +kernel
theorem dX12_laysVertices_62 : decode cX12_laysVertices 62 = .ok (.aload_n 0, 1) := by decide +kernel
theorem dX12_laysVertices_63 : decode cX12_laysVertices 63 = .ok (.getfield 57, 3) := by decide +kernel
theorem dX12_laysVertices_66 : decode cX12_laysVertices 66 = .ok (.aload_n 0, 1) := by decide +kernel
theorem dX12_laysVertices_67 : decode cX12_laysVertices 67 = .ok (.getfield 251, 3) := by decide +kernel
theorem dX12_laysVertices_70 : decode cX12_laysVertices 70 = .ok (.dup2, 1) := by decide +kernel
theorem dX12_laysVertices_71 : decode cX12_laysVertices 71 = .ok (.iaload, 1) := by decide +kernel
theorem dX12_laysVertices_72 : decode cX12_laysVertices 72 = .ok (.iconst 1, 1) := by decide +kernel
theorem dX12_laysVertices_73 : decode cX12_laysVertices 73 = .ok (.iadd, 1) := by decide +kernel
theorem dX12_laysVertices_74 : decode cX12_laysVertices 74 = .ok (.iastore, 1) := by decide +kernel
theorem dX12_laysVertices_75 : decode cX12_laysVertices 75 = .ok (.aload_n 0, 1) := by decide +kernel
theorem dX12_laysVertices_76 : decode cX12_laysVertices 76 = .ok (.iload_n 2, 1) := by decide +kernel
theorem dX12_laysVertices_77 : decode cX12_laysVertices 77 = .ok (.invokevirtual 248, 3) := by decide +kernel
theorem dX12_laysVertices_80 : decode cX12_laysVertices 80 = .ok (.istore_n 3, 1) := by decide +kernel
theorem dX12_laysVertices_81 : decode cX12_laysVertices 81 = .ok (.iload_n 3, 1) := by decide +kernel
theorem dX12_laysVertices_82 : decode cX12_laysVertices 82 = .ok (.iconst 4, 1) := by decide +kernel
theorem dX12_laysVertices_83 : decode cX12_laysVertices 83 = .ok (.idiv, 1) := by decide +kernel
theorem dX12_laysVertices_84 : decode cX12_laysVertices 84 = .ok (.iconst 4, 1) := by decide +kernel
theorem dX12_laysVertices_85 : decode cX12_laysVertices 85 = .ok (.imul, 1) := by decide +kernel
theorem dX12_laysVertices_86 : decode cX12_laysVertices 86 = .ok (.iload_n 3, 1) := by decide +kernel
theorem dX12_laysVertices_87 : decode cX12_laysVertices 87 = .ok (.iconst 3, 1) := by decide +kernel
theorem dX12_laysVertices_88 : decode cX12_laysVertices 88 = .ok (.iadd, 1) := by decide +kernel
theorem dX12_laysVertices_89 : decode cX12_laysVertices 89 = .ok (.iconst 4, 1) := by decide +kernel
theorem dX12_laysVertices_90 : decode cX12_laysVertices 90 = .ok (.irem, 1) := by decide +kernel
theorem dX12_laysVertices_91 : decode cX12_laysVertices 91 = .ok (.iadd, 1) := by decide +kernel
theorem dX12_laysVertices_92 : decode cX12_laysVertices 92 = .ok (.istore_n 2, 1) := by decide +kernel
theorem dX12_laysVertices_93 : decode cX12_laysVertices 93 = .ok (.goto (-51), 3) := by decide +kernel
theorem dX12_laysVertices_96 : decode cX12_laysVertices 96 = .ok (.aload_n 0, 1) := by decide +kernel
theorem dX12_laysVertices_97 : decode cX12_laysVertices 97 = .ok (.dup, 1) := by decide +kernel
theorem dX12_laysVertices_98 : decode cX12_laysVertices 98 = .ok (.getfield 251, 3) := by decide +kernel
theorem dX12_laysVertices_101 : decode cX12_laysVertices 101 = .ok (.iconst 1, 1) := by decide +kernel
theorem dX12_laysVertices_102 : decode cX12_laysVertices 102 = .ok (.iadd, 1) := by decide +kernel
theorem dX12_laysVertices_103 : decode cX12_laysVertices 103 = .ok (.putfield 251, 3) := by decide +kernel
theorem dX12_laysVertices_106 : decode cX12_laysVertices 106 = .ok (.iinc 1 1, 3) := by decide +kernel
theorem dX12_laysVertices_109 : decode cX12_laysVertices 109 = .ok (.goto (-102), 3) := by decide +kernel
theorem dX12_laysVertices_112 : decode cX12_laysVertices 112 = .ok (.return_, 1) := by decide +kernel
theorem dX12_keepsPast_0 : decode cX12_keepsPast 0 = .ok (.aload_n 0, 1) := by decide +kernel
theorem dX12_keepsPast_1 : decode cX12_keepsPast 1 = .ok (.getfield 199, 3) := by decide +kernel
theorem dX12_keepsPast_4 : decode cX12_keepsPast 4 = .ok (.bipush 10, 2) := by decide +kernel
theorem dX12_keepsPast_6 : decode cX12_keepsPast 6 = .ok (.if_icmp .ne 46, 3) := by decide +kernel
theorem dX12_keepsPast_9 : decode cX12_keepsPast 9 = .ok (.sipush 143, 3) := by decide +kernel
theorem dX12_keepsPast_12 : decode cX12_keepsPast 12 = .ok (.istore_n 1, 1) := by decide +kernel
theorem dX12_keepsPast_13 : decode cX12_keepsPast 13 = .ok (.iload_n 1, 1) := by decide +kernel
theorem dX12_keepsPast_14 : decode cX12_keepsPast 14 = .ok (.sipush 1430, 3) := by decide +kernel
theorem dX12_keepsPast_17 : decode cX12_keepsPast 17 = .ok (.if_icmp .ge 25, 3) := by decide +kernel
theorem dX12_keepsPast_20 : decode cX12_keepsPast 20 = .ok (.aload_n 0, 1) := by decide +kernel
theorem dX12_keepsPast_21 : decode cX12_keepsPast 21 = .ok (.getfield 19, 3) := by decide +kernel
theorem dX12_keepsPast_24 : decode cX12_keepsPast 24 = .ok (.iload_n 1, 1) := by decide +kernel
theorem dX12_keepsPast_25 : decode cX12_keepsPast 25 = .ok (.sipush 143, 3) := by decide +kernel
theorem dX12_keepsPast_28 : decode cX12_keepsPast 28 = .ok (.isub, 1) := by decide +kernel
theorem dX12_keepsPast_29 : decode cX12_keepsPast 29 = .ok (.aload_n 0, 1) := by decide +kernel
theorem dX12_keepsPast_30 : decode cX12_keepsPast 30 = .ok (.getfield 19, 3) := by decide +kernel
theorem dX12_keepsPast_33 : decode cX12_keepsPast 33 = .ok (.iload_n 1, 1) := by decide +kernel
theorem dX12_keepsPast_34 : decode cX12_keepsPast 34 = .ok (.iaload, 1) := by decide +kernel
theorem dX12_keepsPast_35 : decode cX12_keepsPast 35 = .ok (.iastore, 1) := by decide +kernel
theorem dX12_keepsPast_36 : decode cX12_keepsPast 36 = .ok (.iinc 1 1, 3) := by decide +kernel
theorem dX12_keepsPast_39 : decode cX12_keepsPast 39 = .ok (.goto (-26), 3) := by decide +kernel
theorem dX12_keepsPast_42 : decode cX12_keepsPast 42 = .ok (.aload_n 0, 1) := by decide +kernel
theorem dX12_keepsPast_43 : decode cX12_keepsPast 43 = .ok (.dup, 1) := by decide +kernel
theorem dX12_keepsPast_44 : decode cX12_keepsPast 44 = .ok (.getfield 199, 3) := by decide +kernel
theorem dX12_keepsPast_47 : decode cX12_keepsPast 47 = .ok (.iconst 1, 1) := by decide +kernel
theorem dX12_keepsPast_48 : decode cX12_keepsPast 48 = .ok (.isub, 1) := by decide +kernel
theorem dX12_keepsPast_49 : decode cX12_keepsPast 49 = .ok (.putfield 199, 3) := by decide +kernel
theorem dX12_keepsPast_52 : decode cX12_keepsPast 52 = .ok (.aload_n 0, 1) := by decide +kernel
theorem dX12_keepsPast_53 : decode cX12_keepsPast 53 = .ok (.getfield 9, 3) := by decide +kernel
theorem dX12_keepsPast_56 : decode cX12_keepsPast 56 = .ok (.iconst 0, 1) := by decide +kernel
theorem dX12_keepsPast_57 : decode cX12_keepsPast 57 = .ok (.aload_n 0, 1) := by decide +kernel
theorem dX12_keepsPast_58 : decode cX12_keepsPast 58 = .ok (.getfield 19, 3) := by decide +kernel
theorem dX12_keepsPast_61 : decode cX12_keepsPast 61 = .ok (.sipush 143, 3) := by decide +kernel
theorem dX12_keepsPast_64 : decode cX12_keepsPast 64 = .ok (.aload_n 0, 1) := by decide +kernel
theorem dX12_keepsPast_65 : decode cX12_keepsPast 65 = .ok (.getfield 199, 3) := by decide +kernel
theorem dX12_keepsPast_68 : decode cX12_keepsPast 68 = .ok (.imul, 1) := by decide +kernel
theorem dX12_keepsPast_69 : decode cX12_keepsPast 69 = .ok (.invokestatic 195, 3) := by decide +kernel
theorem dX12_keepsPast_72 : decode cX12_keepsPast 72 = .ok (.aload_n 0, 1) := by decide +kernel
theorem dX12_keepsPast_73 : decode cX12_keepsPast 73 = .ok (.dup, 1) := by decide +kernel
theorem dX12_keepsPast_74 : decode cX12_keepsPast 74 = .ok (.getfield 199, 3) := by decide +kernel
theorem dX12_keepsPast_77 : decode cX12_keepsPast 77 = .ok (.iconst 1, 1) := by decide +kernel
theorem dX12_keepsPast_78 : decode cX12_keepsPast 78 = .ok (.iadd, 1) := by decide +kernel
theorem dX12_keepsPast_79 : decode cX12_keepsPast 79 = .ok (.putfield 199, 3) := by decide +kernel
theorem dX12_keepsPast_82 : decode cX12_keepsPast 82 = .ok (.return_, 1) := by decide +kernel
theorem dX12_undo_0 : decode cX12_undo 0 = .ok (.aload_n 0, 1) := by decide +kernel
theorem dX12_undo_1 : decode cX12_undo 1 = .ok (.getfield 199, 3) := by decide +kernel
theorem dX12_undo_4 : decode cX12_undo 4 = .ok (.ifCond .ne 5, 3) := by decide +kernel
theorem dX12_undo_7 : decode cX12_undo 7 = .ok (.iconst (-1), 1) := by decide +kernel
theorem dX12_undo_8 : decode cX12_undo 8 = .ok (.ireturn, 1) := by decide +kernel
theorem dX12_undo_9 : decode cX12_undo 9 = .ok (.aload_n 0, 1) := by decide +kernel
theorem dX12_undo_10 : decode cX12_undo 10 = .ok (.dup, 1) := by decide +kernel
theorem dX12_undo_11 : decode cX12_undo 11 = .ok (.getfield 199, 3) := by decide +kernel
theorem dX12_undo_14 : decode cX12_undo 14 = .ok (.iconst 1, 1) := by decide +kernel
theorem dX12_undo_15 : decode cX12_undo 15 = .ok (.isub, 1) := by decide +kernel
theorem dX12_undo_16 : decode cX12_undo 16 = .ok (.putfield 199, 3) := by decide +kernel
theorem dX12_undo_19 : decode cX12_undo 19 = .ok (.aload_n 0, 1) := by decide +kernel
theorem dX12_undo_20 : decode cX12_undo 20 = .ok (.getfield 19, 3) := by decide +kernel
theorem dX12_undo_23 : decode cX12_undo 23 = .ok (.sipush 143, 3) := by decide +kernel
theorem dX12_undo_26 : decode cX12_undo 26 = .ok (.aload_n 0, 1) := by decide +kernel
theorem dX12_undo_27 : decode cX12_undo 27 = .ok (.getfield 199, 3) := by decide +kernel
theorem dX12_undo_30 : decode cX12_undo 30 = .ok (.imul, 1) := by decide +kernel
theorem dX12_undo_31 : decode cX12_undo 31 = .ok (.aload_n 0, 1) := by decide +kernel
theorem dX12_undo_32 : decode cX12_undo 32 = .ok (.getfield 9, 3) := by decide +kernel
theorem dX12_undo_35 : decode cX12_undo 35 = .ok (.iconst 0, 1) := by decide +kernel
theorem dX12_undo_36 : decode cX12_undo 36 = .ok (.invokestatic 195, 3) := by decide +kernel
theorem dX12_undo_39 : decode cX12_undo 39 = .ok (.aload_n 0, 1) := by decide +kernel
theorem dX12_undo_40 : decode cX12_undo 40 = .ok (.getfield 199, 3) := by decide +kernel
theorem dX12_undo_43 : decode cX12_undo 43 = .ok (.ireturn, 1) := by decide +kernel
theorem dX12_keep_0 : decode cX12_keep 0 = .ok (.iload_n 1, 1) := by decide +kernel
theorem dX12_keep_1 : decode cX12_keep 1 = .ok (.i2l, 1) := by decide +kernel
theorem dX12_keep_2 : decode cX12_keep 2 = .ok (.lconst 0, 1) := by decide +kernel
theorem dX12_keep_3 : decode cX12_keep 3 = .ok (.lconst 1, 1) := by decide +kernel
theorem dX12_keep_4 : decode cX12_keep 4 = .ok (.invokestatic 143, 3) := by decide +kernel
theorem dX12_keep_7 : decode cX12_keep 7 = .ok (.ifCond .ne 5, 3) := by decide +kernel
theorem dX12_keep_10 : decode cX12_keep 10 = .ok (.iconst (-1), 1) := by decide +kernel
theorem dX12_keep_11 : decode cX12_keep 11 = .ok (.ireturn, 1) := by decide +kernel
theorem dX12_keep_12 : decode cX12_keep 12 = .ok (.aload_n 0, 1) := by decide +kernel
theorem dX12_keep_13 : decode cX12_keep 13 = .ok (.getfield 9, 3) := by decide +kernel
theorem dX12_keep_16 : decode cX12_keep 16 = .ok (.iconst 0, 1) := by decide +kernel
theorem dX12_keep_17 : decode cX12_keep 17 = .ok (.aload_n 0, 1) := by decide +kernel
theorem dX12_keep_18 : decode cX12_keep 18 = .ok (.getfield 22, 3) := by decide +kernel
theorem dX12_keep_21 : decode cX12_keep 21 = .ok (.sipush 143, 3) := by decide +kernel
theorem dX12_keep_24 : decode cX12_keep 24 = .ok (.iload_n 1, 1) := by decide +kernel
theorem dX12_keep_25 : decode cX12_keep 25 = .ok (.imul, 1) := by decide +kernel
theorem dX12_keep_26 : decode cX12_keep 26 = .ok (.invokestatic 195, 3) := by decide +kernel
theorem dX12_keep_29 : decode cX12_keep 29 = .ok (.aload_n 0, 1) := by decide +kernel
theorem dX12_keep_30 : decode cX12_keep 30 = .ok (.getfield 25, 3) := by decide +kernel
theorem dX12_keep_33 : decode cX12_keep 33 = .ok (.iload_n 1, 1) := by decide +kernel
theorem dX12_keep_34 : decode cX12_keep 34 = .ok (.iconst 1, 1) := by decide +kernel
theorem dX12_keep_35 : decode cX12_keep 35 = .ok (.bastore, 1) := by decide +kernel
theorem dX12_keep_36 : decode cX12_keep 36 = .ok (.aload_n 0, 1) := by decide +kernel
theorem dX12_keep_37 : decode cX12_keep 37 = .ok (.invokevirtual 254, 3) := by decide +kernel
theorem dX12_keep_40 : decode cX12_keep 40 = .ok (.ireturn, 1) := by decide +kernel
theorem dX12_back_0 : decode cX12_back 0 = .ok (.iload_n 1, 1) := by decide +kernel
theorem dX12_back_1 : decode cX12_back 1 = .ok (.i2l, 1) := by decide +kernel
theorem dX12_back_2 : decode cX12_back 2 = .ok (.lconst 0, 1) := by decide +kernel
theorem dX12_back_3 : decode cX12_back 3 = .ok (.lconst 1, 1) := by decide +kernel
theorem dX12_back_4 : decode cX12_back 4 = .ok (.invokestatic 143, 3) := by decide +kernel
theorem dX12_back_7 : decode cX12_back 7 = .ok (.ifCond .ne 5, 3) := by decide +kernel
theorem dX12_back_10 : decode cX12_back 10 = .ok (.iconst (-1), 1) := by decide +kernel
theorem dX12_back_11 : decode cX12_back 11 = .ok (.ireturn, 1) := by decide +kernel
theorem dX12_back_12 : decode cX12_back 12 = .ok (.aload_n 0, 1) := by decide +kernel
theorem dX12_back_13 : decode cX12_back 13 = .ok (.getfield 25, 3) := by decide +kernel
theorem dX12_back_16 : decode cX12_back 16 = .ok (.iload_n 1, 1) := by decide +kernel
theorem dX12_back_17 : decode cX12_back 17 = .ok (.baload, 1) := by decide +kernel
theorem dX12_back_18 : decode cX12_back 18 = .ok (.ifCond .ne 6, 3) := by decide +kernel
theorem dX12_back_21 : decode cX12_back 21 = .ok (.bipush (-2), 2) := by decide +kernel
theorem dX12_back_23 : decode cX12_back 23 = .ok (.ireturn, 1) := by decide +kernel
theorem dX12_back_24 : decode cX12_back 24 = .ok (.aload_n 0, 1) := by decide +kernel
theorem dX12_back_25 : decode cX12_back 25 = .ok (.getfield 22, 3) := by decide +kernel
theorem dX12_back_28 : decode cX12_back 28 = .ok (.sipush 143, 3) := by decide +kernel
theorem dX12_back_31 : decode cX12_back 31 = .ok (.iload_n 1, 1) := by decide +kernel
theorem dX12_back_32 : decode cX12_back 32 = .ok (.imul, 1) := by decide +kernel
theorem dX12_back_33 : decode cX12_back 33 = .ok (.aload_n 0, 1) := by decide +kernel
theorem dX12_back_34 : decode cX12_back 34 = .ok (.getfield 9, 3) := by decide +kernel
theorem dX12_back_37 : decode cX12_back 37 = .ok (.iconst 0, 1) := by decide +kernel
theorem dX12_back_38 : decode cX12_back 38 = .ok (.invokestatic 195, 3) := by decide +kernel
theorem dX12_back_41 : decode cX12_back 41 = .ok (.aload_n 0, 1) := by decide +kernel
theorem dX12_back_42 : decode cX12_back 42 = .ok (.iconst 0, 1) := by decide +kernel
theorem dX12_back_43 : decode cX12_back 43 = .ok (.putfield 199, 3) := by decide +kernel
theorem dX12_back_46 : decode cX12_back 46 = .ok (.aload_n 0, 1) := by decide +kernel
theorem dX12_back_47 : decode cX12_back 47 = .ok (.invokevirtual 202, 3) := by decide +kernel
theorem dX12_back_50 : decode cX12_back 50 = .ok (.aload_n 0, 1) := by decide +kernel
theorem dX12_back_51 : decode cX12_back 51 = .ok (.invokevirtual 254, 3) := by decide +kernel
theorem dX12_back_54 : decode cX12_back 54 = .ok (.ireturn, 1) := by decide +kernel
theorem dX12_isEdge_0 : decode cX12_isEdge 0 = .ok (.iload_n 1, 1) := by decide +kernel
theorem dX12_isEdge_1 : decode cX12_isEdge 1 = .ok (.i2l, 1) := by decide +kernel
theorem dX12_isEdge_2 : decode cX12_isEdge 2 = .ok (.lconst 0, 1) := by decide +kernel
theorem dX12_isEdge_3 : decode cX12_isEdge 3 = .ok (.aload_n 0, 1) := by decide +kernel
theorem dX12_isEdge_4 : decode cX12_isEdge 4 = .ok (.getfield 245, 3) := by decide +kernel
theorem dX12_isEdge_7 : decode cX12_isEdge 7 = .ok (.iconst 1, 1) := by decide +kernel
theorem dX12_isEdge_8 : decode cX12_isEdge 8 = .ok (.isub, 1) := by decide +kernel
theorem dX12_isEdge_9 : decode cX12_isEdge 9 = .ok (.i2l, 1) := by decide +kernel
theorem dX12_isEdge_10 : decode cX12_isEdge 10 = .ok (.invokestatic 143, 3) := by decide +kernel
theorem dX12_isEdge_13 : decode cX12_isEdge 13 = .ok (.ireturn, 1) := by decide +kernel
theorem dX12_isFace_0 : decode cX12_isFace 0 = .ok (.iload_n 1, 1) := by decide +kernel
theorem dX12_isFace_1 : decode cX12_isFace 1 = .ok (.i2l, 1) := by decide +kernel
theorem dX12_isFace_2 : decode cX12_isFace 2 = .ok (.lconst 0, 1) := by decide +kernel
theorem dX12_isFace_3 : decode cX12_isFace 3 = .ok (.aload_n 0, 1) := by decide +kernel
theorem dX12_isFace_4 : decode cX12_isFace 4 = .ok (.getfield 205, 3) := by decide +kernel
theorem dX12_isFace_7 : decode cX12_isFace 7 = .ok (.iconst 1, 1) := by decide +kernel
theorem dX12_isFace_8 : decode cX12_isFace 8 = .ok (.isub, 1) := by decide +kernel
theorem dX12_isFace_9 : decode cX12_isFace 9 = .ok (.i2l, 1) := by decide +kernel
theorem dX12_isFace_10 : decode cX12_isFace 10 = .ok (.invokestatic 143, 3) := by decide +kernel
theorem dX12_isFace_13 : decode cX12_isFace 13 = .ok (.ireturn, 1) := by decide +kernel
theorem dX12_isHinge_0 : decode cX12_isHinge 0 = .ok (.aload_n 0, 1) := by decide +kernel
theorem dX12_isHinge_1 : decode cX12_isHinge 1 = .ok (.getfield 9, 3) := by decide +kernel
theorem dX12_isHinge_4 : decode cX12_isHinge 4 = .ok (.bipush 23, 2) := by decide +kernel
theorem dX12_isHinge_6 : decode cX12_isHinge 6 = .ok (.iload_n 1, 1) := by decide +kernel
theorem dX12_isHinge_7 : decode cX12_isHinge 7 = .ok (.iadd, 1) := by decide +kernel
theorem dX12_isHinge_8 : decode cX12_isHinge 8 = .ok (.iaload, 1) := by decide +kernel
theorem dX12_isHinge_9 : decode cX12_isHinge 9 = .ok (.iconst 1, 1) := by decide +kernel
theorem dX12_isHinge_10 : decode cX12_isHinge 10 = .ok (.if_icmp .ne 7, 3) := by decide +kernel
theorem dX12_isHinge_13 : decode cX12_isHinge 13 = .ok (.iconst 1, 1) := by decide +kernel
theorem dX12_isHinge_14 : decode cX12_isHinge 14 = .ok (.goto 4, 3) := by decide +kernel
theorem dX12_isHinge_17 : decode cX12_isHinge 17 = .ok (.iconst 0, 1) := by decide +kernel
theorem dX12_isHinge_18 : decode cX12_isHinge 18 = .ok (.ireturn, 1) := by decide +kernel
theorem dX12_hinges_0 : decode cX12_hinges 0 = .ok (.iconst 0, 1) := by decide +kernel
theorem dX12_hinges_1 : decode cX12_hinges 1 = .ok (.istore_n 1, 1) := by decide +kernel
theorem dX12_hinges_2 : decode cX12_hinges 2 = .ok (.iconst 0, 1) := by decide +kernel
theorem dX12_hinges_3 : decode cX12_hinges 3 = .ok (.istore_n 2, 1) := by decide +kernel
theorem dX12_hinges_4 : decode cX12_hinges 4 = .ok (.iload_n 2, 1) := by decide +kernel
theorem dX12_hinges_5 : decode cX12_hinges 5 = .ok (.aload_n 0, 1) := by decide +kernel
theorem dX12_hinges_6 : decode cX12_hinges 6 = .ok (.getfield 245, 3) := by decide +kernel
theorem dX12_hinges_9 : decode cX12_hinges 9 = .ok (.if_icmp .ge 21, 3) := by decide +kernel
theorem dX12_hinges_12 : decode cX12_hinges 12 = .ok (.iload_n 1, 1) := by decide +kernel
theorem dX12_hinges_13 : decode cX12_hinges 13 = .ok (.aload_n 0, 1) := by decide +kernel
theorem dX12_hinges_14 : decode cX12_hinges 14 = .ok (.getfield 9, 3) := by decide +kernel
theorem dX12_hinges_17 : decode cX12_hinges 17 = .ok (.bipush 23, 2) := by decide +kernel
theorem dX12_hinges_19 : decode cX12_hinges 19 = .ok (.iload_n 2, 1) := by decide +kernel
theorem dX12_hinges_20 : decode cX12_hinges 20 = .ok (.iadd, 1) := by decide +kernel
theorem dX12_hinges_21 : decode cX12_hinges 21 = .ok (.iaload, 1) := by decide +kernel
theorem dX12_hinges_22 : decode cX12_hinges 22 = .ok (.iadd, 1) := by decide +kernel
theorem dX12_hinges_23 : decode cX12_hinges 23 = .ok (.istore_n 1, 1) := by decide +kernel
theorem dX12_hinges_24 : decode cX12_hinges 24 = .ok (.iinc 2 1, 3) := by decide +kernel
theorem dX12_hinges_27 : decode cX12_hinges 27 = .ok (.goto (-23), 3) := by decide +kernel
theorem dX12_hinges_30 : decode cX12_hinges 30 = .ok (.iload_n 1, 1) := by decide +kernel
theorem dX12_hinges_31 : decode cX12_hinges 31 = .ok (.ireturn, 1) := by decide +kernel
theorem dX12_firstOf_0 : decode cX12_firstOf 0 = .ok (.aload_n 0, 1) := by decide +kernel
theorem dX12_firstOf_1 : decode cX12_firstOf 1 = .ok (.getfield 51, 3) := by decide +kernel
theorem dX12_firstOf_4 : decode cX12_firstOf 4 = .ok (.iload_n 1, 1) := by decide +kernel
theorem dX12_firstOf_5 : decode cX12_firstOf 5 = .ok (.iaload, 1) := by decide +kernel
theorem dX12_firstOf_6 : decode cX12_firstOf 6 = .ok (.iconst 4, 1) := by decide +kernel
theorem dX12_firstOf_7 : decode cX12_firstOf 7 = .ok (.idiv, 1) := by decide +kernel
theorem dX12_firstOf_8 : decode cX12_firstOf 8 = .ok (.ireturn, 1) := by decide +kernel
theorem dX12_secondOf_0 : decode cX12_secondOf 0 = .ok (.aload_n 0, 1) := by decide +kernel
theorem dX12_secondOf_1 : decode cX12_secondOf 1 = .ok (.getfield 39, 3) := by decide +kernel
theorem dX12_secondOf_4 : decode cX12_secondOf 4 = .ok (.aload_n 0, 1) := by decide +kernel
theorem dX12_secondOf_5 : decode cX12_secondOf 5 = .ok (.getfield 51, 3) := by decide +kernel
theorem dX12_secondOf_8 : decode cX12_secondOf 8 = .ok (.iload_n 1, 1) := by decide +kernel
theorem dX12_secondOf_9 : decode cX12_secondOf 9 = .ok (.iaload, 1) := by decide +kernel
theorem dX12_secondOf_10 : decode cX12_secondOf 10 = .ok (.iaload, 1) := by decide +kernel
theorem dX12_secondOf_11 : decode cX12_secondOf 11 = .ok (.ireturn, 1) := by decide +kernel
theorem dX12_joins_0 : decode cX12_joins 0 = .ok (.iconst 0, 1) := by decide +kernel
theorem dX12_joins_1 : decode cX12_joins 1 = .ok (.istore_n 2, 1) := by decide +kernel
theorem dX12_joins_2 : decode cX12_joins 2 = .ok (.iload_n 2, 1) := by decide +kernel
theorem dX12_joins_3 : decode cX12_joins 3 = .ok (.aload_n 0, 1) := by decide +kernel
theorem dX12_joins_4 : decode cX12_joins 4 = .ok (.getfield 205, 3) := by decide +kernel
theorem dX12_joins_7 : decode cX12_joins 7 = .ok (.if_icmp .ge 16, 3) := by decide +kernel
theorem dX12_joins_10 : decode cX12_joins 10 = .ok (.aload_n 0, 1) := by decide +kernel
theorem dX12_joins_11 : decode cX12_joins 11 = .ok (.getfield 60, 3) := by decide +kernel
theorem dX12_joins_14 : decode cX12_joins 14 = .ok (.iload_n 2, 1) := by decide +kernel
theorem dX12_joins_15 : decode cX12_joins 15 = .ok (.iconst 0, 1) := by decide +kernel
theorem dX12_joins_16 : decode cX12_joins 16 = .ok (.bastore, 1) := by decide +kernel
theorem dX12_joins_17 : decode cX12_joins 17 = .ok (.iinc 2 1, 3) := by decide +kernel
theorem dX12_joins_20 : decode cX12_joins 20 = .ok (.goto (-18), 3) := by decide +kernel
theorem dX12_joins_23 : decode cX12_joins 23 = .ok (.aload_n 0, 1) := by decide +kernel
theorem dX12_joins_24 : decode cX12_joins 24 = .ok (.getfield 60, 3) := by decide +kernel
theorem dX12_joins_27 : decode cX12_joins 27 = .ok (.iload_n 1, 1) := by decide +kernel
theorem dX12_joins_28 : decode cX12_joins 28 = .ok (.iconst 1, 1) := by decide +kernel
theorem dX12_joins_29 : decode cX12_joins 29 = .ok (.bastore, 1) := by decide +kernel
theorem dX12_joins_30 : decode cX12_joins 30 = .ok (.aload_n 0, 1) := by decide +kernel
theorem dX12_joins_31 : decode cX12_joins 31 = .ok (.getfield 63, 3) := by decide +kernel
theorem dX12_joins_34 : decode cX12_joins 34 = .ok (.iconst 0, 1) := by decide +kernel
theorem dX12_joins_35 : decode cX12_joins 35 = .ok (.iload_n 1, 1) := by decide +kernel
theorem dX12_joins_36 : decode cX12_joins 36 = .ok (.iastore, 1) := by decide +kernel
theorem dX12_joins_37 : decode cX12_joins 37 = .ok (.aload_n 0, 1) := by decide +kernel
theorem dX12_joins_38 : decode cX12_joins 38 = .ok (.getfield 66, 3) := by decide +kernel
theorem dX12_joins_41 : decode cX12_joins 41 = .ok (.iload_n 1, 1) := by decide +kernel
theorem dX12_joins_42 : decode cX12_joins 42 = .ok (.iconst (-1), 1) := by decide +kernel
theorem dX12_joins_43 : decode cX12_joins 43 = .ok (.iastore, 1) := by decide +kernel
theorem dX12_joins_44 : decode cX12_joins 44 = .ok (.iconst 1, 1) := by decide +kernel
theorem dX12_joins_45 : decode cX12_joins 45 = .ok (.istore_n 2, 1) := by decide +kernel
theorem dX12_joins_46 : decode cX12_joins 46 = .ok (.iconst 0, 1) := by decide +kernel
theorem dX12_joins_47 : decode cX12_joins 47 = .ok (.istore_n 3, 1) := by decide +kernel
theorem dX12_joins_48 : decode cX12_joins 48 = .ok (.iload_n 3, 1) := by decide +kernel
theorem dX12_joins_49 : decode cX12_joins 49 = .ok (.iload_n 2, 1) := by decide +kernel
theorem dX12_joins_50 : decode cX12_joins 50 = .ok (.if_icmp .ge 109, 3) := by decide +kernel
theorem dX12_joins_53 : decode cX12_joins 53 = .ok (.iconst 0, 1) := by decide +kernel
theorem dX12_joins_54 : decode cX12_joins 54 = .ok (.istore 4, 2) := by decide +kernel
theorem dX12_joins_56 : decode cX12_joins 56 = .ok (.iload 4, 2) := by decide +kernel
theorem dX12_joins_58 : decode cX12_joins 58 = .ok (.iconst 4, 1) := by decide +kernel
theorem dX12_joins_59 : decode cX12_joins 59 = .ok (.if_icmp .ge 94, 3) := by decide +kernel
theorem dX12_joins_62 : decode cX12_joins 62 = .ok (.iconst 4, 1) := by decide +kernel
theorem dX12_joins_63 : decode cX12_joins 63 = .ok (.aload_n 0, 1) := by decide +kernel
theorem dX12_joins_64 : decode cX12_joins 64 = .ok (.getfield 63, 3) := by decide +kernel
theorem dX12_joins_67 : decode cX12_joins 67 = .ok (.iload_n 3, 1) := by decide +kernel
theorem dX12_joins_68 : decode cX12_joins 68 = .ok (.iaload, 1) := by decide +kernel
theorem dX12_joins_69 : decode cX12_joins 69 = .ok (.imul, 1) := by decide +kernel
theorem dX12_joins_70 : decode cX12_joins 70 = .ok (.iload 4, 2) := by decide +kernel
theorem dX12_joins_72 : decode cX12_joins 72 = .ok (.iadd, 1) := by decide +kernel
theorem dX12_joins_73 : decode cX12_joins 73 = .ok (.istore 5, 2) := by decide +kernel
theorem dX12_joins_75 : decode cX12_joins 75 = .ok (.aload_n 0, 1) := by decide +kernel
theorem dX12_joins_76 : decode cX12_joins 76 = .ok (.aload_n 0, 1) := by decide +kernel
theorem dX12_joins_77 : decode cX12_joins 77 = .ok (.getfield 48, 3) := by decide +kernel
theorem dX12_joins_80 : decode cX12_joins 80 = .ok (.iload 5, 2) := by decide +kernel
theorem dX12_joins_82 : decode cX12_joins 82 = .ok (.iaload, 1) := by decide +kernel
theorem dX12_joins_83 : decode cX12_joins 83 = .ok (.invokevirtual 257, 3) := by decide +kernel
theorem dX12_joins_86 : decode cX12_joins 86 = .ok (.ifCond .eq 61, 3) := by decide +kernel
theorem dX12_joins_89 : decode cX12_joins 89 = .ok (.aload_n 0, 1) := by decide +kernel
theorem dX12_joins_90 : decode cX12_joins 90 = .ok (.getfield 60, 3) := by decide +kernel
theorem dX12_joins_93 : decode cX12_joins 93 = .ok (.aload_n 0, 1) := by decide +kernel
theorem dX12_joins_94 : decode cX12_joins 94 = .ok (.getfield 39, 3) := by decide +kernel
theorem dX12_joins_97 : decode cX12_joins 97 = .ok (.iload 5, 2) := by decide +kernel
theorem dX12_joins_99 : decode cX12_joins 99 = .ok (.iaload, 1) := by decide +kernel
theorem dX12_joins_100 : decode cX12_joins 100 = .ok (.baload, 1) := by decide +kernel
theorem dX12_joins_101 : decode cX12_joins 101 = .ok (.ifCond .ne 46, 3) := by decide +kernel
theorem dX12_joins_104 : decode cX12_joins 104 = .ok (.aload_n 0, 1) := by decide +kernel
theorem dX12_joins_105 : decode cX12_joins 105 = .ok (.getfield 60, 3) := by decide +kernel
theorem dX12_joins_108 : decode cX12_joins 108 = .ok (.aload_n 0, 1) := by decide +kernel
theorem dX12_joins_109 : decode cX12_joins 109 = .ok (.getfield 39, 3) := by decide +kernel
theorem dX12_joins_112 : decode cX12_joins 112 = .ok (.iload 5, 2) := by decide +kernel
theorem dX12_joins_114 : decode cX12_joins 114 = .ok (.iaload, 1) := by decide +kernel
theorem dX12_joins_115 : decode cX12_joins 115 = .ok (.iconst 1, 1) := by decide +kernel
theorem dX12_joins_116 : decode cX12_joins 116 = .ok (.bastore, 1) := by decide +kernel
theorem dX12_joins_117 : decode cX12_joins 117 = .ok (.aload_n 0, 1) := by decide +kernel
theorem dX12_joins_118 : decode cX12_joins 118 = .ok (.getfield 66, 3) := by decide +kernel
theorem dX12_joins_121 : decode cX12_joins 121 = .ok (.aload_n 0, 1) := by decide +kernel
theorem dX12_joins_122 : decode cX12_joins 122 = .ok (.getfield 39, 3) := by decide +kernel
theorem dX12_joins_125 : decode cX12_joins 125 = .ok (.iload 5, 2) := by decide +kernel
theorem dX12_joins_127 : decode cX12_joins 127 = .ok (.iaload, 1) := by decide +kernel
theorem dX12_joins_128 : decode cX12_joins 128 = .ok (.iload 5, 2) := by decide +kernel
theorem dX12_joins_130 : decode cX12_joins 130 = .ok (.iastore, 1) := by decide +kernel
theorem dX12_joins_131 : decode cX12_joins 131 = .ok (.aload_n 0, 1) := by decide +kernel
theorem dX12_joins_132 : decode cX12_joins 132 = .ok (.getfield 63, 3) := by decide +kernel
theorem dX12_joins_135 : decode cX12_joins 135 = .ok (.iload_n 2, 1) := by decide +kernel
theorem dX12_joins_136 : decode cX12_joins 136 = .ok (.aload_n 0, 1) := by decide +kernel
theorem dX12_joins_137 : decode cX12_joins 137 = .ok (.getfield 39, 3) := by decide +kernel
theorem dX12_joins_140 : decode cX12_joins 140 = .ok (.iload 5, 2) := by decide +kernel
theorem dX12_joins_142 : decode cX12_joins 142 = .ok (.iaload, 1) := by decide +kernel
theorem dX12_joins_143 : decode cX12_joins 143 = .ok (.iastore, 1) := by decide +kernel
theorem dX12_joins_144 : decode cX12_joins 144 = .ok (.iinc 2 1, 3) := by decide +kernel
theorem dX12_joins_147 : decode cX12_joins 147 = .ok (.iinc 4 1, 3) := by decide +kernel
theorem dX12_joins_150 : decode cX12_joins 150 = .ok (.goto (-94), 3) := by decide +kernel
theorem dX12_joins_153 : decode cX12_joins 153 = .ok (.iinc 3 1, 3) := by decide +kernel
theorem dX12_joins_156 : decode cX12_joins 156 = .ok (.goto (-108), 3) := by decide +kernel
theorem dX12_joins_159 : decode cX12_joins 159 = .ok (.iload_n 2, 1) := by decide +kernel
theorem dX12_joins_160 : decode cX12_joins 160 = .ok (.ireturn, 1) := by decide +kernel
theorem dX12_areJoined_0 : decode cX12_areJoined 0 = .ok (.aload_n 0, 1) := by decide +kernel
theorem dX12_areJoined_1 : decode cX12_areJoined 1 = .ok (.iload_n 1, 1) := by decide +kernel
theorem dX12_areJoined_2 : decode cX12_areJoined 2 = .ok (.invokevirtual 260, 3) := by decide +kernel
theorem dX12_areJoined_5 : decode cX12_areJoined 5 = .ok (.pop, 1) := by decide +kernel
theorem dX12_areJoined_6 : decode cX12_areJoined 6 = .ok (.aload_n 0, 1) := by decide +kernel
theorem dX12_areJoined_7 : decode cX12_areJoined 7 = .ok (.getfield 60, 3) := by decide +kernel
theorem dX12_areJoined_10 : decode cX12_areJoined 10 = .ok (.iload_n 2, 1) := by decide +kernel
theorem dX12_areJoined_11 : decode cX12_areJoined 11 = .ok (.baload, 1) := by decide +kernel
theorem dX12_areJoined_12 : decode cX12_areJoined 12 = .ok (.ireturn, 1) := by decide +kernel
theorem dX12_isWhole_0 : decode cX12_isWhole 0 = .ok (.aload_n 0, 1) := by decide +kernel
theorem dX12_isWhole_1 : decode cX12_isWhole 1 = .ok (.getfield 205, 3) := by decide +kernel
theorem dX12_isWhole_4 : decode cX12_isWhole 4 = .ok (.ifCond .le 19, 3) := by decide +kernel
theorem dX12_isWhole_7 : decode cX12_isWhole 7 = .ok (.aload_n 0, 1) := by decide +kernel
theorem dX12_isWhole_8 : decode cX12_isWhole 8 = .ok (.iconst 0, 1) := by decide +kernel
theorem dX12_isWhole_9 : decode cX12_isWhole 9 = .ok (.invokevirtual 260, 3) := by decide +kernel
theorem dX12_isWhole_12 : decode cX12_isWhole 12 = .ok (.aload_n 0, 1) := by decide +kernel
theorem dX12_isWhole_13 : decode cX12_isWhole 13 = .ok (.getfield 205, 3) := by decide +kernel
theorem dX12_isWhole_16 : decode cX12_isWhole 16 = .ok (.if_icmp .ne 7, 3) := by decide +kernel
theorem dX12_isWhole_19 : decode cX12_isWhole 19 = .ok (.iconst 1, 1) := by decide +kernel
theorem dX12_isWhole_20 : decode cX12_isWhole 20 = .ok (.goto 4, 3) := by decide +kernel
theorem dX12_isWhole_23 : decode cX12_isWhole 23 = .ok (.iconst 0, 1) := by decide +kernel
theorem dX12_isWhole_24 : decode cX12_isWhole 24 = .ok (.ireturn, 1) := by decide +kernel
theorem dX12_hinge_0 : decode cX12_hinge 0 = .ok (.aload_n 0, 1) := by decide +kernel
theorem dX12_hinge_1 : decode cX12_hinge 1 = .ok (.iload_n 1, 1) := by decide +kernel
theorem dX12_hinge_2 : decode cX12_hinge 2 = .ok (.invokevirtual 263, 3) := by decide +kernel
theorem dX12_hinge_5 : decode cX12_hinge 5 = .ok (.ifCond .ne 5, 3) := by decide +kernel
theorem dX12_hinge_8 : decode cX12_hinge 8 = .ok (.iconst (-1), 1) := by decide +kernel
theorem dX12_hinge_9 : decode cX12_hinge 9 = .ok (.ireturn, 1) := by decide +kernel
theorem dX12_hinge_10 : decode cX12_hinge 10 = .ok (.aload_n 0, 1) := by decide +kernel
theorem dX12_hinge_11 : decode cX12_hinge 11 = .ok (.iload_n 1, 1) := by decide +kernel
theorem dX12_hinge_12 : decode cX12_hinge 12 = .ok (.invokevirtual 257, 3) := by decide +kernel
theorem dX12_hinge_15 : decode cX12_hinge 15 = .ok (.ifCond .eq 6, 3) := by decide +kernel
theorem dX12_hinge_18 : decode cX12_hinge 18 = .ok (.bipush (-2), 2) := by decide +kernel
theorem dX12_hinge_20 : decode cX12_hinge 20 = .ok (.ireturn, 1) := by decide +kernel
theorem dX12_hinge_21 : decode cX12_hinge 21 = .ok (.aload_n 0, 1) := by decide +kernel
theorem dX12_hinge_22 : decode cX12_hinge 22 = .ok (.aload_n 0, 1) := by decide +kernel
theorem dX12_hinge_23 : decode cX12_hinge 23 = .ok (.iload_n 1, 1) := by decide +kernel
theorem dX12_hinge_24 : decode cX12_hinge 24 = .ok (.invokevirtual 266, 3) := by decide +kernel
theorem dX12_hinge_27 : decode cX12_hinge 27 = .ok (.aload_n 0, 1) := by decide +kernel
theorem dX12_hinge_28 : decode cX12_hinge 28 = .ok (.iload_n 1, 1) := by decide +kernel
theorem dX12_hinge_29 : decode cX12_hinge 29 = .ok (.invokevirtual 269, 3) := by decide +kernel
theorem dX12_hinge_32 : decode cX12_hinge 32 = .ok (.invokevirtual 272, 3) := by decide +kernel
theorem dX12_hinge_35 : decode cX12_hinge 35 = .ok (.ifCond .eq 6, 3) := by decide +kernel
theorem dX12_hinge_38 : decode cX12_hinge 38 = .ok (.bipush (-3), 2) := by decide +kernel
theorem dX12_hinge_40 : decode cX12_hinge 40 = .ok (.ireturn, 1) := by decide +kernel
theorem dX12_hinge_41 : decode cX12_hinge 41 = .ok (.aload_n 0, 1) := by decide +kernel
theorem dX12_hinge_42 : decode cX12_hinge 42 = .ok (.invokevirtual 275, 3) := by decide +kernel
theorem dX12_hinge_45 : decode cX12_hinge 45 = .ok (.aload_n 0, 1) := by decide +kernel
theorem dX12_hinge_46 : decode cX12_hinge 46 = .ok (.getfield 9, 3) := by decide +kernel
theorem dX12_hinge_49 : decode cX12_hinge 49 = .ok (.bipush 23, 2) := by decide +kernel
theorem dX12_hinge_51 : decode cX12_hinge 51 = .ok (.iload_n 1, 1) := by decide +kernel
theorem dX12_hinge_52 : decode cX12_hinge 52 = .ok (.iadd, 1) := by decide +kernel
theorem dX12_hinge_53 : decode cX12_hinge 53 = .ok (.iconst 1, 1) := by decide +kernel
theorem dX12_hinge_54 : decode cX12_hinge 54 = .ok (.iastore, 1) := by decide +kernel
theorem dX12_hinge_55 : decode cX12_hinge 55 = .ok (.aload_n 0, 1) := by decide +kernel
theorem dX12_hinge_56 : decode cX12_hinge 56 = .ok (.invokevirtual 254, 3) := by decide +kernel
theorem dX12_hinge_59 : decode cX12_hinge 59 = .ok (.ireturn, 1) := by decide +kernel
theorem dX12_cut_0 : decode cX12_cut 0 = .ok (.aload_n 0, 1) := by decide +kernel
theorem dX12_cut_1 : decode cX12_cut 1 = .ok (.iload_n 1, 1) := by decide +kernel
theorem dX12_cut_2 : decode cX12_cut 2 = .ok (.invokevirtual 263, 3) := by decide +kernel
theorem dX12_cut_5 : decode cX12_cut 5 = .ok (.ifCond .ne 5, 3) := by decide +kernel
theorem dX12_cut_8 : decode cX12_cut 8 = .ok (.iconst (-1), 1) := by decide +kernel
theorem dX12_cut_9 : decode cX12_cut 9 = .ok (.ireturn, 1) := by decide +kernel
theorem dX12_cut_10 : decode cX12_cut 10 = .ok (.aload_n 0, 1) := by decide +kernel
theorem dX12_cut_11 : decode cX12_cut 11 = .ok (.iload_n 1, 1) := by decide +kernel
theorem dX12_cut_12 : decode cX12_cut 12 = .ok (.invokevirtual 257, 3) := by decide +kernel
theorem dX12_cut_15 : decode cX12_cut 15 = .ok (.ifCond .ne 6, 3) := by decide +kernel
theorem dX12_cut_18 : decode cX12_cut 18 = .ok (.bipush (-2), 2) := by decide +kernel
theorem dX12_cut_20 : decode cX12_cut 20 = .ok (.ireturn, 1) := by decide +kernel
theorem dX12_cut_21 : decode cX12_cut 21 = .ok (.aload_n 0, 1) := by decide +kernel
theorem dX12_cut_22 : decode cX12_cut 22 = .ok (.invokevirtual 275, 3) := by decide +kernel
theorem dX12_cut_25 : decode cX12_cut 25 = .ok (.aload_n 0, 1) := by decide +kernel
theorem dX12_cut_26 : decode cX12_cut 26 = .ok (.getfield 9, 3) := by decide +kernel
theorem dX12_cut_29 : decode cX12_cut 29 = .ok (.bipush 23, 2) := by decide +kernel
theorem dX12_cut_31 : decode cX12_cut 31 = .ok (.iload_n 1, 1) := by decide +kernel
theorem dX12_cut_32 : decode cX12_cut 32 = .ok (.iadd, 1) := by decide +kernel
theorem dX12_cut_33 : decode cX12_cut 33 = .ok (.iconst 0, 1) := by decide +kernel
theorem dX12_cut_34 : decode cX12_cut 34 = .ok (.iastore, 1) := by decide +kernel
theorem dX12_cut_35 : decode cX12_cut 35 = .ok (.aload_n 0, 1) := by decide +kernel
theorem dX12_cut_36 : decode cX12_cut 36 = .ok (.invokevirtual 254, 3) := by decide +kernel
theorem dX12_cut_39 : decode cX12_cut 39 = .ok (.ireturn, 1) := by decide +kernel
theorem dX12_root_0 : decode cX12_root 0 = .ok (.aload_n 0, 1) := by decide +kernel
theorem dX12_root_1 : decode cX12_root 1 = .ok (.iload_n 1, 1) := by decide +kernel
theorem dX12_root_2 : decode cX12_root 2 = .ok (.invokevirtual 278, 3) := by decide +kernel
theorem dX12_root_5 : decode cX12_root 5 = .ok (.ifCond .ne 5, 3) := by decide +kernel
theorem dX12_root_8 : decode cX12_root 8 = .ok (.iconst (-1), 1) := by decide +kernel
theorem dX12_root_9 : decode cX12_root 9 = .ok (.ireturn, 1) := by decide +kernel
theorem dX12_root_10 : decode cX12_root 10 = .ok (.aload_n 0, 1) := by decide +kernel
theorem dX12_root_11 : decode cX12_root 11 = .ok (.getfield 9, 3) := by decide +kernel
theorem dX12_root_14 : decode cX12_root 14 = .ok (.bipush 22, 2) := by decide +kernel
theorem dX12_root_16 : decode cX12_root 16 = .ok (.iaload, 1) := by decide +kernel
theorem dX12_root_17 : decode cX12_root 17 = .ok (.istore_n 2, 1) := by decide +kernel
theorem dX12_root_18 : decode cX12_root 18 = .ok (.iload_n 2, 1) := by decide +kernel
theorem dX12_root_19 : decode cX12_root 19 = .ok (.iload_n 1, 1) := by decide +kernel
theorem dX12_root_20 : decode cX12_root 20 = .ok (.if_icmp .ne 6, 3) := by decide +kernel
theorem dX12_root_23 : decode cX12_root 23 = .ok (.bipush (-2), 2) := by decide +kernel
theorem dX12_root_25 : decode cX12_root 25 = .ok (.ireturn, 1) := by decide +kernel
theorem dX12_root_26 : decode cX12_root 26 = .ok (.aload_n 0, 1) := by decide +kernel
theorem dX12_root_27 : decode cX12_root 27 = .ok (.invokevirtual 275, 3) := by decide +kernel
theorem dX12_root_30 : decode cX12_root 30 = .ok (.aload_n 0, 1) := by decide +kernel
theorem dX12_root_31 : decode cX12_root 31 = .ok (.getfield 9, 3) := by decide +kernel
theorem dX12_root_34 : decode cX12_root 34 = .ok (.bipush 22, 2) := by decide +kernel
theorem dX12_root_36 : decode cX12_root 36 = .ok (.iload_n 1, 1) := by decide +kernel
theorem dX12_root_37 : decode cX12_root 37 = .ok (.iastore, 1) := by decide +kernel
theorem dX12_root_38 : decode cX12_root 38 = .ok (.iload_n 2, 1) := by decide +kernel
theorem dX12_root_39 : decode cX12_root 39 = .ok (.ireturn, 1) := by decide +kernel
theorem dX12_weigh_0 : decode cX12_weigh 0 = .ok (.aload_n 0, 1) := by decide +kernel
theorem dX12_weigh_1 : decode cX12_weigh 1 = .ok (.iload_n 1, 1) := by decide +kernel
theorem dX12_weigh_2 : decode cX12_weigh 2 = .ok (.invokevirtual 263, 3) := by decide +kernel
theorem dX12_weigh_5 : decode cX12_weigh 5 = .ok (.ifCond .eq 15, 3) := by decide +kernel
theorem dX12_weigh_8 : decode cX12_weigh 8 = .ok (.iload_n 2, 1) := by decide +kernel
theorem dX12_weigh_9 : decode cX12_weigh 9 = .ok (.i2l, 1) := by decide +kernel
theorem dX12_weigh_10 : decode cX12_weigh 10 = .ok (.lconst 0, 1) := by decide +kernel
theorem dX12_weigh_11 : decode cX12_weigh 11 = .ok (.ldc2_w 281, 3) := by decide +kernel
theorem dX12_weigh_14 : decode cX12_weigh 14 = .ok (.invokestatic 143, 3) := by decide +kernel
theorem dX12_weigh_17 : decode cX12_weigh 17 = .ok (.ifCond .ne 5, 3) := by decide +kernel
theorem dX12_weigh_20 : decode cX12_weigh 20 = .ok (.iconst (-1), 1) := by decide +kernel
theorem dX12_weigh_21 : decode cX12_weigh 21 = .ok (.ireturn, 1) := by decide +kernel
theorem dX12_weigh_22 : decode cX12_weigh 22 = .ok (.aload_n 0, 1) := by decide +kernel
theorem dX12_weigh_23 : decode cX12_weigh 23 = .ok (.getfield 9, 3) := by decide +kernel
theorem dX12_weigh_26 : decode cX12_weigh 26 = .ok (.bipush 83, 2) := by decide +kernel
theorem dX12_weigh_28 : decode cX12_weigh 28 = .ok (.iload_n 1, 1) := by decide +kernel
theorem dX12_weigh_29 : decode cX12_weigh 29 = .ok (.iadd, 1) := by decide +kernel
theorem dX12_weigh_30 : decode cX12_weigh 30 = .ok (.iaload, 1) := by decide +kernel
theorem dX12_weigh_31 : decode cX12_weigh 31 = .ok (.istore_n 3, 1) := by decide +kernel
theorem dX12_weigh_32 : decode cX12_weigh 32 = .ok (.iload_n 3, 1) := by decide +kernel
theorem dX12_weigh_33 : decode cX12_weigh 33 = .ok (.iload_n 2, 1) := by decide +kernel
theorem dX12_weigh_34 : decode cX12_weigh 34 = .ok (.if_icmp .ne 6, 3) := by decide +kernel
theorem dX12_weigh_37 : decode cX12_weigh 37 = .ok (.bipush (-2), 2) := by decide +kernel
theorem dX12_weigh_39 : decode cX12_weigh 39 = .ok (.ireturn, 1) := by decide +kernel
theorem dX12_weigh_40 : decode cX12_weigh 40 = .ok (.aload_n 0, 1) := by decide +kernel
theorem dX12_weigh_41 : decode cX12_weigh 41 = .ok (.invokevirtual 275, 3) := by decide +kernel
theorem dX12_weigh_44 : decode cX12_weigh 44 = .ok (.aload_n 0, 1) := by decide +kernel
theorem dX12_weigh_45 : decode cX12_weigh 45 = .ok (.getfield 9, 3) := by decide +kernel
theorem dX12_weigh_48 : decode cX12_weigh 48 = .ok (.bipush 83, 2) := by decide +kernel
theorem dX12_weigh_50 : decode cX12_weigh 50 = .ok (.iload_n 1, 1) := by decide +kernel
theorem dX12_weigh_51 : decode cX12_weigh 51 = .ok (.iadd, 1) := by decide +kernel
theorem dX12_weigh_52 : decode cX12_weigh 52 = .ok (.iload_n 2, 1) := by decide +kernel
theorem dX12_weigh_53 : decode cX12_weigh 53 = .ok (.iastore, 1) := by decide +kernel
theorem dX12_weigh_54 : decode cX12_weigh 54 = .ok (.iload_n 3, 1) := by decide +kernel
theorem dX12_weigh_55 : decode cX12_weigh 55 = .ok (.ireturn, 1) := by decide +kernel
theorem dX12_cutsAll_0 : decode cX12_cutsAll 0 = .ok (.iconst 0, 1) := by decide +kernel
theorem dX12_cutsAll_1 : decode cX12_cutsAll 1 = .ok (.istore_n 1, 1) := by decide +kernel
theorem dX12_cutsAll_2 : decode cX12_cutsAll 2 = .ok (.iload_n 1, 1) := by decide +kernel
theorem dX12_cutsAll_3 : decode cX12_cutsAll 3 = .ok (.aload_n 0, 1) := by decide +kernel
theorem dX12_cutsAll_4 : decode cX12_cutsAll 4 = .ok (.getfield 245, 3) := by decide +kernel
theorem dX12_cutsAll_7 : decode cX12_cutsAll 7 = .ok (.if_icmp .ge 19, 3) := by decide +kernel
theorem dX12_cutsAll_10 : decode cX12_cutsAll 10 = .ok (.aload_n 0, 1) := by decide +kernel
theorem dX12_cutsAll_11 : decode cX12_cutsAll 11 = .ok (.getfield 9, 3) := by decide +kernel
theorem dX12_cutsAll_14 : decode cX12_cutsAll 14 = .ok (.bipush 23, 2) := by decide +kernel
theorem dX12_cutsAll_16 : decode cX12_cutsAll 16 = .ok (.iload_n 1, 1) := by decide +kernel
theorem dX12_cutsAll_17 : decode cX12_cutsAll 17 = .ok (.iadd, 1) := by decide +kernel
theorem dX12_cutsAll_18 : decode cX12_cutsAll 18 = .ok (.iconst 0, 1) := by decide +kernel
theorem dX12_cutsAll_19 : decode cX12_cutsAll 19 = .ok (.iastore, 1) := by decide +kernel
theorem dX12_cutsAll_20 : decode cX12_cutsAll 20 = .ok (.iinc 1 1, 3) := by decide +kernel
theorem dX12_cutsAll_23 : decode cX12_cutsAll 23 = .ok (.goto (-21), 3) := by decide +kernel
theorem dX12_cutsAll_26 : decode cX12_cutsAll 26 = .ok (.return_, 1) := by decide +kernel
theorem dX12_span_0 : decode cX12_span 0 = .ok (.aload_n 0, 1) := by decide +kernel
theorem dX12_span_1 : decode cX12_span 1 = .ok (.getfield 205, 3) := by decide +kernel
theorem dX12_span_4 : decode cX12_span 4 = .ok (.ifCond .ne 5, 3) := by decide +kernel
theorem dX12_span_7 : decode cX12_span 7 = .ok (.iconst (-1), 1) := by decide +kernel
theorem dX12_span_8 : decode cX12_span 8 = .ok (.ireturn, 1) := by decide +kernel
theorem dX12_span_9 : decode cX12_span 9 = .ok (.aload_n 0, 1) := by decide +kernel
theorem dX12_span_10 : decode cX12_span 10 = .ok (.invokevirtual 275, 3) := by decide +kernel
theorem dX12_span_13 : decode cX12_span 13 = .ok (.aload_n 0, 1) := by decide +kernel
theorem dX12_span_14 : decode cX12_span 14 = .ok (.invokevirtual 283, 3) := by decide +kernel
theorem dX12_span_17 : decode cX12_span 17 = .ok (.iconst 0, 1) := by decide +kernel
theorem dX12_span_18 : decode cX12_span 18 = .ok (.istore_n 1, 1) := by decide +kernel
theorem dX12_span_19 : decode cX12_span 19 = .ok (.iconst 0, 1) := by decide +kernel
theorem dX12_span_20 : decode cX12_span 20 = .ok (.istore_n 2, 1) := by decide +kernel
theorem dX12_span_21 : decode cX12_span 21 = .ok (.iload_n 2, 1) := by decide +kernel
theorem dX12_span_22 : decode cX12_span 22 = .ok (.bipush 10, 2) := by decide +kernel
theorem dX12_span_24 : decode cX12_span 24 = .ok (.if_icmp .ge 69, 3) := by decide +kernel
theorem dX12_span_27 : decode cX12_span 27 = .ok (.iconst 0, 1) := by decide +kernel
theorem dX12_span_28 : decode cX12_span 28 = .ok (.istore_n 3, 1) := by decide +kernel
theorem dX12_span_29 : decode cX12_span 29 = .ok (.iload_n 3, 1) := by decide +kernel
theorem dX12_span_30 : decode cX12_span 30 = .ok (.aload_n 0, 1) := by decide +kernel
theorem dX12_span_31 : decode cX12_span 31 = .ok (.getfield 245, 3) := by decide +kernel
theorem dX12_span_34 : decode cX12_span 34 = .ok (.if_icmp .ge 53, 3) := by decide +kernel
theorem dX12_span_37 : decode cX12_span 37 = .ok (.aload_n 0, 1) := by decide +kernel
theorem dX12_span_38 : decode cX12_span 38 = .ok (.getfield 9, 3) := by decide +kernel
theorem dX12_span_41 : decode cX12_span 41 = .ok (.bipush 83, 2) := by decide +kernel
theorem dX12_span_43 : decode cX12_span 43 = .ok (.iload_n 3, 1) := by decide +kernel
theorem dX12_span_44 : decode cX12_span 44 = .ok (.iadd, 1) := by decide +kernel
theorem dX12_span_45 : decode cX12_span 45 = .ok (.iaload, 1) := by decide +kernel
theorem dX12_span_46 : decode cX12_span 46 = .ok (.iload_n 2, 1) := by decide +kernel
theorem dX12_span_47 : decode cX12_span 47 = .ok (.if_icmp .ne 34, 3) := by decide +kernel
theorem dX12_span_50 : decode cX12_span 50 = .ok (.aload_n 0, 1) := by decide +kernel
theorem dX12_span_51 : decode cX12_span 51 = .ok (.aload_n 0, 1) := by decide +kernel
theorem dX12_span_52 : decode cX12_span 52 = .ok (.iload_n 3, 1) := by decide +kernel
theorem dX12_span_53 : decode cX12_span 53 = .ok (.invokevirtual 266, 3) := by decide +kernel
theorem dX12_span_56 : decode cX12_span 56 = .ok (.aload_n 0, 1) := by decide +kernel
theorem dX12_span_57 : decode cX12_span 57 = .ok (.iload_n 3, 1) := by decide +kernel
theorem dX12_span_58 : decode cX12_span 58 = .ok (.invokevirtual 269, 3) := by decide +kernel
theorem dX12_span_61 : decode cX12_span 61 = .ok (.invokevirtual 272, 3) := by decide +kernel
theorem dX12_span_64 : decode cX12_span 64 = .ok (.ifCond .ne 17, 3) := by decide +kernel
theorem dX12_span_67 : decode cX12_span 67 = .ok (.aload_n 0, 1) := by decide +kernel
theorem dX12_span_68 : decode cX12_span 68 = .ok (.getfield 9, 3) := by decide +kernel
theorem dX12_span_71 : decode cX12_span 71 = .ok (.bipush 23, 2) := by decide +kernel
theorem dX12_span_73 : decode cX12_span 73 = .ok (.iload_n 3, 1) := by decide +kernel
theorem dX12_span_74 : decode cX12_span 74 = .ok (.iadd, 1) := by decide +kernel
theorem dX12_span_75 : decode cX12_span 75 = .ok (.iconst 1, 1) := by decide +kernel
theorem dX12_span_76 : decode cX12_span 76 = .ok (.iastore, 1) := by decide +kernel
theorem dX12_span_77 : decode cX12_span 77 = .ok (.iload_n 1, 1) := by decide +kernel
theorem dX12_span_78 : decode cX12_span 78 = .ok (.iload_n 2, 1) := by decide +kernel
theorem dX12_span_79 : decode cX12_span 79 = .ok (.iadd, 1) := by decide +kernel
theorem dX12_span_80 : decode cX12_span 80 = .ok (.istore_n 1, 1) := by decide +kernel
theorem dX12_span_81 : decode cX12_span 81 = .ok (.iinc 3 1, 3) := by decide +kernel
theorem dX12_span_84 : decode cX12_span 84 = .ok (.goto (-55), 3) := by decide +kernel
theorem dX12_span_87 : decode cX12_span 87 = .ok (.iinc 2 1, 3) := by decide +kernel
theorem dX12_span_90 : decode cX12_span 90 = .ok (.goto (-69), 3) := by decide +kernel
theorem dX12_span_93 : decode cX12_span 93 = .ok (.iload_n 1, 1) := by decide +kernel
theorem dX12_span_94 : decode cX12_span 94 = .ok (.ireturn, 1) := by decide +kernel
theorem dX12_goesDeep_0 : decode cX12_goesDeep 0 = .ok (.aload_n 0, 1) := by decide +kernel
theorem dX12_goesDeep_1 : decode cX12_goesDeep 1 = .ok (.getfield 72, 3) := by decide +kernel
theorem dX12_goesDeep_4 : decode cX12_goesDeep 4 = .ok (.iload_n 1, 1) := by decide +kernel
theorem dX12_goesDeep_5 : decode cX12_goesDeep 5 = .ok (.iconst 1, 1) := by decide +kernel
theorem dX12_goesDeep_6 : decode cX12_goesDeep 6 = .ok (.bastore, 1) := by decide +kernel
theorem dX12_goesDeep_7 : decode cX12_goesDeep 7 = .ok (.iconst 0, 1) := by decide +kernel
theorem dX12_goesDeep_8 : decode cX12_goesDeep 8 = .ok (.istore_n 2, 1) := by decide +kernel
theorem dX12_goesDeep_9 : decode cX12_goesDeep 9 = .ok (.iload_n 2, 1) := by decide +kernel
theorem dX12_goesDeep_10 : decode cX12_goesDeep 10 = .ok (.iconst 4, 1) := by decide +kernel
theorem dX12_goesDeep_11 : decode cX12_goesDeep 11 = .ok (.if_icmp .ge 67, 3) := by decide +kernel
theorem dX12_goesDeep_14 : decode cX12_goesDeep 14 = .ok (.aload_n 0, 1) := by decide +kernel
theorem dX12_goesDeep_15 : decode cX12_goesDeep 15 = .ok (.getfield 39, 3) := by decide +kernel
theorem dX12_goesDeep_18 : decode cX12_goesDeep 18 = .ok (.iconst 4, 1) := by decide +kernel
theorem dX12_goesDeep_19 : decode cX12_goesDeep 19 = .ok (.iload_n 1, 1) := by decide +kernel
theorem dX12_goesDeep_20 : decode cX12_goesDeep 20 = .ok (.imul, 1) := by decide +kernel
theorem dX12_goesDeep_21 : decode cX12_goesDeep 21 = .ok (.iload_n 2, 1) := by decide +kernel
theorem dX12_goesDeep_22 : decode cX12_goesDeep 22 = .ok (.iadd, 1) := by decide +kernel
theorem dX12_goesDeep_23 : decode cX12_goesDeep 23 = .ok (.iaload, 1) := by decide +kernel
theorem dX12_goesDeep_24 : decode cX12_goesDeep 24 = .ok (.istore_n 3, 1) := by decide +kernel
theorem dX12_goesDeep_25 : decode cX12_goesDeep 25 = .ok (.aload_n 0, 1) := by decide +kernel
theorem dX12_goesDeep_26 : decode cX12_goesDeep 26 = .ok (.getfield 72, 3) := by decide +kernel
theorem dX12_goesDeep_29 : decode cX12_goesDeep 29 = .ok (.iload_n 3, 1) := by decide +kernel
theorem dX12_goesDeep_30 : decode cX12_goesDeep 30 = .ok (.baload, 1) := by decide +kernel
theorem dX12_goesDeep_31 : decode cX12_goesDeep 31 = .ok (.ifCond .ne 41, 3) := by decide +kernel
theorem dX12_goesDeep_34 : decode cX12_goesDeep 34 = .ok (.aload_n 0, 1) := by decide +kernel
theorem dX12_goesDeep_35 : decode cX12_goesDeep 35 = .ok (.getfield 9, 3) := by decide +kernel
theorem dX12_goesDeep_38 : decode cX12_goesDeep 38 = .ok (.bipush 23, 2) := by decide +kernel
theorem dX12_goesDeep_40 : decode cX12_goesDeep 40 = .ok (.aload_n 0, 1) := by decide +kernel
theorem dX12_goesDeep_41 : decode cX12_goesDeep 41 = .ok (.getfield 48, 3) := by decide +kernel
theorem dX12_goesDeep_44 : decode cX12_goesDeep 44 = .ok (.iconst 4, 1) := by decide +kernel
theorem dX12_goesDeep_45 : decode cX12_goesDeep 45 = .ok (.iload_n 1, 1) := by decide +kernel
theorem dX12_goesDeep_46 : decode cX12_goesDeep 46 = .ok (.imul, 1) := by decide +kernel
theorem dX12_goesDeep_47 : decode cX12_goesDeep 47 = .ok (.iload_n 2, 1) := by decide +kernel
theorem dX12_goesDeep_48 : decode cX12_goesDeep 48 = .ok (.iadd, 1) := by decide +kernel
theorem dX12_goesDeep_49 : decode cX12_goesDeep 49 = .ok (.iaload, 1) := by decide +kernel
theorem dX12_goesDeep_50 : decode cX12_goesDeep 50 = .ok (.iadd, 1) := by decide +kernel
theorem dX12_goesDeep_51 : decode cX12_goesDeep 51 = .ok (.iconst 1, 1) := by decide +kernel
theorem dX12_goesDeep_52 : decode cX12_goesDeep 52 = .ok (.iastore, 1) := by decide +kernel
theorem dX12_goesDeep_53 : decode cX12_goesDeep 53 = .ok (.aload_n 0, 1) := by decide +kernel
theorem dX12_goesDeep_54 : decode cX12_goesDeep 54 = .ok (.getfield 69, 3) := by decide +kernel
theorem dX12_goesDeep_57 : decode cX12_goesDeep 57 = .ok (.iload_n 3, 1) := by decide +kernel
theorem dX12_goesDeep_58 : decode cX12_goesDeep 58 = .ok (.aload_n 0, 1) := by decide +kernel
theorem dX12_goesDeep_59 : decode cX12_goesDeep 59 = .ok (.getfield 69, 3) := by decide +kernel
theorem dX12_goesDeep_62 : decode cX12_goesDeep 62 = .ok (.iload_n 1, 1) := by decide +kernel
theorem dX12_goesDeep_63 : decode cX12_goesDeep 63 = .ok (.iaload, 1) := by decide +kernel
theorem dX12_goesDeep_64 : decode cX12_goesDeep 64 = .ok (.iconst 1, 1) := by decide +kernel
theorem dX12_goesDeep_65 : decode cX12_goesDeep 65 = .ok (.iadd, 1) := by decide +kernel
theorem dX12_goesDeep_66 : decode cX12_goesDeep 66 = .ok (.iastore, 1) := by decide +kernel
theorem dX12_goesDeep_67 : decode cX12_goesDeep 67 = .ok (.aload_n 0, 1) := by decide +kernel
theorem dX12_goesDeep_68 : decode cX12_goesDeep 68 = .ok (.iload_n 3, 1) := by decide +kernel
theorem dX12_goesDeep_69 : decode cX12_goesDeep 69 = .ok (.invokevirtual 286, 3) := by decide +kernel
theorem dX12_goesDeep_72 : decode cX12_goesDeep 72 = .ok (.iinc 2 1, 3) := by decide +kernel
theorem dX12_goesDeep_75 : decode cX12_goesDeep 75 = .ok (.goto (-66), 3) := by decide +kernel
theorem dX12_goesDeep_78 : decode cX12_goesDeep 78 = .ok (.return_, 1) := by decide +kernel
theorem dX12_goesWide_0 : decode cX12_goesWide 0 = .ok (.aload_n 0, 1) := by decide +kernel
theorem dX12_goesWide_1 : decode cX12_goesWide 1 = .ok (.getfield 72, 3) := by decide +kernel
theorem dX12_goesWide_4 : decode cX12_goesWide 4 = .ok (.iload_n 1, 1) := by decide +kernel
theorem dX12_goesWide_5 : decode cX12_goesWide 5 = .ok (.iconst 1, 1) := by decide +kernel
theorem dX12_goesWide_6 : decode cX12_goesWide 6 = .ok (.bastore, 1) := by decide +kernel
theorem dX12_goesWide_7 : decode cX12_goesWide 7 = .ok (.aload_n 0, 1) := by decide +kernel
theorem dX12_goesWide_8 : decode cX12_goesWide 8 = .ok (.getfield 63, 3) := by decide +kernel
theorem dX12_goesWide_11 : decode cX12_goesWide 11 = .ok (.iconst 0, 1) := by decide +kernel
theorem dX12_goesWide_12 : decode cX12_goesWide 12 = .ok (.iload_n 1, 1) := by decide +kernel
theorem dX12_goesWide_13 : decode cX12_goesWide 13 = .ok (.iastore, 1) := by decide +kernel
theorem dX12_goesWide_14 : decode cX12_goesWide 14 = .ok (.iconst 1, 1) := by decide +kernel
theorem dX12_goesWide_15 : decode cX12_goesWide 15 = .ok (.istore_n 2, 1) := by decide +kernel
theorem dX12_goesWide_16 : decode cX12_goesWide 16 = .ok (.iconst 0, 1) := by decide +kernel
theorem dX12_goesWide_17 : decode cX12_goesWide 17 = .ok (.istore_n 3, 1) := by decide +kernel
theorem dX12_goesWide_18 : decode cX12_goesWide 18 = .ok (.iload_n 3, 1) := by decide +kernel
theorem dX12_goesWide_19 : decode cX12_goesWide 19 = .ok (.iload_n 2, 1) := by decide +kernel
theorem dX12_goesWide_20 : decode cX12_goesWide 20 = .ok (.if_icmp .ge 122, 3) := by decide +kernel
theorem dX12_goesWide_23 : decode cX12_goesWide 23 = .ok (.iconst 0, 1) := by decide +kernel
theorem dX12_goesWide_24 : decode cX12_goesWide 24 = .ok (.istore 4, 2) := by decide +kernel
theorem dX12_goesWide_26 : decode cX12_goesWide 26 = .ok (.iload 4, 2) := by decide +kernel
theorem dX12_goesWide_28 : decode cX12_goesWide 28 = .ok (.iconst 4, 1) := by decide +kernel
theorem dX12_goesWide_29 : decode cX12_goesWide 29 = .ok (.if_icmp .ge 107, 3) := by decide +kernel
theorem dX12_goesWide_32 : decode cX12_goesWide 32 = .ok (.iconst 4, 1) := by decide +kernel
theorem dX12_goesWide_33 : decode cX12_goesWide 33 = .ok (.aload_n 0, 1) := by decide +kernel
theorem dX12_goesWide_34 : decode cX12_goesWide 34 = .ok (.getfield 63, 3) := by decide +kernel
theorem dX12_goesWide_37 : decode cX12_goesWide 37 = .ok (.iload_n 3, 1) := by decide +kernel
theorem dX12_goesWide_38 : decode cX12_goesWide 38 = .ok (.iaload, 1) := by decide +kernel
theorem dX12_goesWide_39 : decode cX12_goesWide 39 = .ok (.imul, 1) := by decide +kernel
theorem dX12_goesWide_40 : decode cX12_goesWide 40 = .ok (.iload 4, 2) := by decide +kernel
theorem dX12_goesWide_42 : decode cX12_goesWide 42 = .ok (.iadd, 1) := by decide +kernel
theorem dX12_goesWide_43 : decode cX12_goesWide 43 = .ok (.istore 5, 2) := by decide +kernel
theorem dX12_goesWide_45 : decode cX12_goesWide 45 = .ok (.aload_n 0, 1) := by decide +kernel
theorem dX12_goesWide_46 : decode cX12_goesWide 46 = .ok (.getfield 72, 3) := by decide +kernel
theorem dX12_goesWide_49 : decode cX12_goesWide 49 = .ok (.aload_n 0, 1) := by decide +kernel
theorem dX12_goesWide_50 : decode cX12_goesWide 50 = .ok (.getfield 39, 3) := by decide +kernel
theorem dX12_goesWide_53 : decode cX12_goesWide 53 = .ok (.iload 5, 2) := by decide +kernel
theorem dX12_goesWide_55 : decode cX12_goesWide 55 = .ok (.iaload, 1) := by decide +kernel
theorem dX12_goesWide_56 : decode cX12_goesWide 56 = .ok (.baload, 1) := by decide +kernel
theorem dX12_goesWide_57 : decode cX12_goesWide 57 = .ok (.ifCond .ne 73, 3) := by decide +kernel
theorem dX12_goesWide_60 : decode cX12_goesWide 60 = .ok (.aload_n 0, 1) := by decide +kernel
theorem dX12_goesWide_61 : decode cX12_goesWide 61 = .ok (.getfield 72, 3) := by decide +kernel
theorem dX12_goesWide_64 : decode cX12_goesWide 64 = .ok (.aload_n 0, 1) := by decide +kernel
theorem dX12_goesWide_65 : decode cX12_goesWide 65 = .ok (.getfield 39, 3) := by decide +kernel
theorem dX12_goesWide_68 : decode cX12_goesWide 68 = .ok (.iload 5, 2) := by decide +kernel
theorem dX12_goesWide_70 : decode cX12_goesWide 70 = .ok (.iaload, 1) := by decide +kernel
theorem dX12_goesWide_71 : decode cX12_goesWide 71 = .ok (.iconst 1, 1) := by decide +kernel
theorem dX12_goesWide_72 : decode cX12_goesWide 72 = .ok (.bastore, 1) := by decide +kernel
theorem dX12_goesWide_73 : decode cX12_goesWide 73 = .ok (.aload_n 0, 1) := by decide +kernel
theorem dX12_goesWide_74 : decode cX12_goesWide 74 = .ok (.getfield 9, 3) := by decide +kernel
theorem dX12_goesWide_77 : decode cX12_goesWide 77 = .ok (.bipush 23, 2) := by decide +kernel
theorem dX12_goesWide_79 : decode cX12_goesWide 79 = .ok (.aload_n 0, 1) := by decide +kernel
theorem dX12_goesWide_80 : decode cX12_goesWide 80 = .ok (.getfield 48, 3) := by decide +kernel
theorem dX12_goesWide_83 : decode cX12_goesWide 83 = .ok (.iload 5, 2) := by decide +kernel
theorem dX12_goesWide_85 : decode cX12_goesWide 85 = .ok (.iaload, 1) := by decide +kernel
theorem dX12_goesWide_86 : decode cX12_goesWide 86 = .ok (.iadd, 1) := by decide +kernel
theorem dX12_goesWide_87 : decode cX12_goesWide 87 = .ok (.iconst 1, 1) := by decide +kernel
theorem dX12_goesWide_88 : decode cX12_goesWide 88 = .ok (.iastore, 1) := by decide +kernel
theorem dX12_goesWide_89 : decode cX12_goesWide 89 = .ok (.aload_n 0, 1) := by decide +kernel
theorem dX12_goesWide_90 : decode cX12_goesWide 90 = .ok (.getfield 69, 3) := by decide +kernel
theorem dX12_goesWide_93 : decode cX12_goesWide 93 = .ok (.aload_n 0, 1) := by decide +kernel
theorem dX12_goesWide_94 : decode cX12_goesWide 94 = .ok (.getfield 39, 3) := by decide +kernel
theorem dX12_goesWide_97 : decode cX12_goesWide 97 = .ok (.iload 5, 2) := by decide +kernel
theorem dX12_goesWide_99 : decode cX12_goesWide 99 = .ok (.iaload, 1) := by decide +kernel
theorem dX12_goesWide_100 : decode cX12_goesWide 100 = .ok (.aload_n 0, 1) := by decide +kernel
theorem dX12_goesWide_101 : decode cX12_goesWide 101 = .ok (.getfield 69, 3) := by decide +kernel
theorem dX12_goesWide_104 : decode cX12_goesWide 104 = .ok (.aload_n 0, 1) := by decide +kernel
theorem dX12_goesWide_105 : decode cX12_goesWide 105 = .ok (.getfield 63, 3) := by decide +kernel
theorem dX12_goesWide_108 : decode cX12_goesWide 108 = .ok (.iload_n 3, 1) := by decide +kernel
theorem dX12_goesWide_109 : decode cX12_goesWide 109 = .ok (.iaload, 1) := by decide +kernel
theorem dX12_goesWide_110 : decode cX12_goesWide 110 = .ok (.iaload, 1) := by decide +kernel
theorem dX12_goesWide_111 : decode cX12_goesWide 111 = .ok (.iconst 1, 1) := by decide +kernel
theorem dX12_goesWide_112 : decode cX12_goesWide 112 = .ok (.iadd, 1) := by decide +kernel
theorem dX12_goesWide_113 : decode cX12_goesWide 113 = .ok (.iastore, 1) := by decide +kernel
theorem dX12_goesWide_114 : decode cX12_goesWide 114 = .ok (.aload_n 0, 1) := by decide +kernel
theorem dX12_goesWide_115 : decode cX12_goesWide 115 = .ok (.getfield 63, 3) := by decide +kernel
theorem dX12_goesWide_118 : decode cX12_goesWide 118 = .ok (.iload_n 2, 1) := by decide +kernel
theorem dX12_goesWide_119 : decode cX12_goesWide 119 = .ok (.aload_n 0, 1) := by decide +kernel
theorem dX12_goesWide_120 : decode cX12_goesWide 120 = .ok (.getfield 39, 3) := by decide +kernel
theorem dX12_goesWide_123 : decode cX12_goesWide 123 = .ok (.iload 5, 2) := by decide +kernel
theorem dX12_goesWide_125 : decode cX12_goesWide 125 = .ok (.iaload, 1) := by decide +kernel
theorem dX12_goesWide_126 : decode cX12_goesWide 126 = .ok (.iastore, 1) := by decide +kernel
theorem dX12_goesWide_127 : decode cX12_goesWide 127 = .ok (.iinc 2 1, 3) := by decide +kernel
theorem dX12_goesWide_130 : decode cX12_goesWide 130 = .ok (.iinc 4 1, 3) := by decide +kernel
theorem dX12_goesWide_133 : decode cX12_goesWide 133 = .ok (.goto (-107), 3) := by decide +kernel
theorem dX12_goesWide_136 : decode cX12_goesWide 136 = .ok (.iinc 3 1, 3) := by decide +kernel
theorem dX12_goesWide_139 : decode cX12_goesWide 139 = .ok (.goto (-121), 3) := by decide +kernel
theorem dX12_goesWide_142 : decode cX12_goesWide 142 = .ok (.return_, 1) := by decide +kernel
theorem dX12_tree_0 : decode cX12_tree 0 = .ok (.aload_n 0, 1) := by decide +kernel
theorem dX12_tree_1 : decode cX12_tree 1 = .ok (.getfield 205, 3) := by decide +kernel
theorem dX12_tree_4 : decode cX12_tree 4 = .ok (.ifCond .eq 13, 3) := by decide +kernel
theorem dX12_tree_7 : decode cX12_tree 7 = .ok (.iload_n 1, 1) := by decide +kernel
theorem dX12_tree_8 : decode cX12_tree 8 = .ok (.i2l, 1) := by decide +kernel
theorem dX12_tree_9 : decode cX12_tree 9 = .ok (.lconst 0, 1) := by decide +kernel
theorem dX12_tree_10 : decode cX12_tree 10 = .ok (.lconst 1, 1) := by decide +kernel
theorem dX12_tree_11 : decode cX12_tree 11 = .ok (.invokestatic 143, 3) := by decide +kernel
theorem dX12_tree_14 : decode cX12_tree 14 = .ok (.ifCond .ne 5, 3) := by decide +kernel
theorem dX12_tree_17 : decode cX12_tree 17 = .ok (.iconst (-1), 1) := by decide +kernel
theorem dX12_tree_18 : decode cX12_tree 18 = .ok (.ireturn, 1) := by decide +kernel
theorem dX12_tree_19 : decode cX12_tree 19 = .ok (.aload_n 0, 1) := by decide +kernel
theorem dX12_tree_20 : decode cX12_tree 20 = .ok (.invokevirtual 275, 3) := by decide +kernel
theorem dX12_tree_23 : decode cX12_tree 23 = .ok (.aload_n 0, 1) := by decide +kernel
theorem dX12_tree_24 : decode cX12_tree 24 = .ok (.invokevirtual 283, 3) := by decide +kernel
theorem dX12_tree_27 : decode cX12_tree 27 = .ok (.iconst 0, 1) := by decide +kernel
theorem dX12_tree_28 : decode cX12_tree 28 = .ok (.istore_n 2, 1) := by decide +kernel
theorem dX12_tree_29 : decode cX12_tree 29 = .ok (.iload_n 2, 1) := by decide +kernel
theorem dX12_tree_30 : decode cX12_tree 30 = .ok (.aload_n 0, 1) := by decide +kernel
theorem dX12_tree_31 : decode cX12_tree 31 = .ok (.getfield 205, 3) := by decide +kernel
theorem dX12_tree_34 : decode cX12_tree 34 = .ok (.if_icmp .ge 23, 3) := by decide +kernel
theorem dX12_tree_37 : decode cX12_tree 37 = .ok (.aload_n 0, 1) := by decide +kernel
theorem dX12_tree_38 : decode cX12_tree 38 = .ok (.getfield 72, 3) := by decide +kernel
theorem dX12_tree_41 : decode cX12_tree 41 = .ok (.iload_n 2, 1) := by decide +kernel
theorem dX12_tree_42 : decode cX12_tree 42 = .ok (.iconst 0, 1) := by decide +kernel
theorem dX12_tree_43 : decode cX12_tree 43 = .ok (.bastore, 1) := by decide +kernel
theorem dX12_tree_44 : decode cX12_tree 44 = .ok (.aload_n 0, 1) := by decide +kernel
theorem dX12_tree_45 : decode cX12_tree 45 = .ok (.getfield 69, 3) := by decide +kernel
theorem dX12_tree_48 : decode cX12_tree 48 = .ok (.iload_n 2, 1) := by decide +kernel
theorem dX12_tree_49 : decode cX12_tree 49 = .ok (.iconst 0, 1) := by decide +kernel
theorem dX12_tree_50 : decode cX12_tree 50 = .ok (.iastore, 1) := by decide +kernel
theorem dX12_tree_51 : decode cX12_tree 51 = .ok (.iinc 2 1, 3) := by decide +kernel
theorem dX12_tree_54 : decode cX12_tree 54 = .ok (.goto (-25), 3) := by decide +kernel
theorem dX12_tree_57 : decode cX12_tree 57 = .ok (.iload_n 1, 1) := by decide +kernel
theorem dX12_tree_58 : decode cX12_tree 58 = .ok (.ifCond .ne 17, 3) := by decide +kernel
theorem dX12_tree_61 : decode cX12_tree 61 = .ok (.aload_n 0, 1) := by decide +kernel
theorem dX12_tree_62 : decode cX12_tree 62 = .ok (.aload_n 0, 1) := by decide +kernel
theorem dX12_tree_63 : decode cX12_tree 63 = .ok (.getfield 9, 3) := by decide +kernel
theorem dX12_tree_66 : decode cX12_tree 66 = .ok (.bipush 22, 2) := by decide +kernel
theorem dX12_tree_68 : decode cX12_tree 68 = .ok (.iaload, 1) := by decide +kernel
theorem dX12_tree_69 : decode cX12_tree 69 = .ok (.invokevirtual 289, 3) := by decide +kernel
theorem dX12_tree_72 : decode cX12_tree 72 = .ok (.goto 14, 3) := by decide +kernel
theorem dX12_tree_75 : decode cX12_tree 75 = .ok (.aload_n 0, 1) := by decide +kernel
theorem dX12_tree_76 : decode cX12_tree 76 = .ok (.aload_n 0, 1) := by decide +kernel
theorem dX12_tree_77 : decode cX12_tree 77 = .ok (.getfield 9, 3) := by decide +kernel
theorem dX12_tree_80 : decode cX12_tree 80 = .ok (.bipush 22, 2) := by decide +kernel
theorem dX12_tree_82 : decode cX12_tree 82 = .ok (.iaload, 1) := by decide +kernel
theorem dX12_tree_83 : decode cX12_tree 83 = .ok (.invokevirtual 286, 3) := by decide +kernel
theorem dX12_tree_86 : decode cX12_tree 86 = .ok (.iconst 0, 1) := by decide +kernel
theorem dX12_tree_87 : decode cX12_tree 87 = .ok (.istore_n 2, 1) := by decide +kernel
theorem dX12_tree_88 : decode cX12_tree 88 = .ok (.iconst 0, 1) := by decide +kernel
theorem dX12_tree_89 : decode cX12_tree 89 = .ok (.istore_n 3, 1) := by decide +kernel
theorem dX12_tree_90 : decode cX12_tree 90 = .ok (.iload_n 3, 1) := by decide +kernel
theorem dX12_tree_91 : decode cX12_tree 91 = .ok (.aload_n 0, 1) := by decide +kernel
theorem dX12_tree_92 : decode cX12_tree 92 = .ok (.getfield 205, 3) := by decide +kernel
theorem dX12_tree_95 : decode cX12_tree 95 = .ok (.if_icmp .ge 20, 3) := by decide +kernel
theorem dX12_tree_98 : decode cX12_tree 98 = .ok (.iload_n 2, 1) := by decide +kernel
theorem dX12_tree_99 : decode cX12_tree 99 = .ok (.aload_n 0, 1) := by decide +kernel
theorem dX12_tree_100 : decode cX12_tree 100 = .ok (.getfield 69, 3) := by decide +kernel
theorem dX12_tree_103 : decode cX12_tree 103 = .ok (.iload_n 3, 1) := by decide +kernel
theorem dX12_tree_104 : decode cX12_tree 104 = .ok (.iaload, 1) := by decide +kernel
theorem dX12_tree_105 : decode cX12_tree 105 = .ok (.invokestatic 292, 3) := by decide +kernel
theorem dX12_tree_108 : decode cX12_tree 108 = .ok (.istore_n 2, 1) := by decide +kernel
theorem dX12_tree_109 : decode cX12_tree 109 = .ok (.iinc 3 1, 3) := by decide +kernel
theorem dX12_tree_112 : decode cX12_tree 112 = .ok (.goto (-22), 3) := by decide +kernel
theorem dX12_tree_115 : decode cX12_tree 115 = .ok (.iload_n 2, 1) := by decide +kernel
theorem dX12_tree_116 : decode cX12_tree 116 = .ok (.ireturn, 1) := by decide +kernel
theorem dX12_stepX_0 : decode cX12_stepX 0 = .ok (.iload_n 0, 1) := by decide +kernel
theorem dX12_stepX_1 : decode cX12_stepX 1 = .ok (.ifCond .ne 7, 3) := by decide +kernel
theorem dX12_stepX_4 : decode cX12_stepX 4 = .ok (.iconst 1, 1) := by decide +kernel
theorem dX12_stepX_5 : decode cX12_stepX 5 = .ok (.goto 13, 3) := by decide +kernel
theorem dX12_stepX_8 : decode cX12_stepX 8 = .ok (.iload_n 0, 1) := by decide +kernel
theorem dX12_stepX_9 : decode cX12_stepX 9 = .ok (.iconst 2, 1) := by decide +kernel
theorem dX12_stepX_10 : decode cX12_stepX 10 = .ok (.if_icmp .ne 7, 3) := by decide +kernel
theorem dX12_stepX_13 : decode cX12_stepX 13 = .ok (.iconst (-1), 1) := by decide +kernel
theorem dX12_stepX_14 : decode cX12_stepX 14 = .ok (.goto 4, 3) := by decide +kernel
theorem dX12_stepX_17 : decode cX12_stepX 17 = .ok (.iconst 0, 1) := by decide +kernel
theorem dX12_stepX_18 : decode cX12_stepX 18 = .ok (.ireturn, 1) := by decide +kernel
theorem dX12_stepY_0 : decode cX12_stepY 0 = .ok (.iload_n 0, 1) := by decide +kernel
theorem dX12_stepY_1 : decode cX12_stepY 1 = .ok (.iconst 1, 1) := by decide +kernel
theorem dX12_stepY_2 : decode cX12_stepY 2 = .ok (.if_icmp .ne 7, 3) := by decide +kernel
theorem dX12_stepY_5 : decode cX12_stepY 5 = .ok (.iconst 1, 1) := by decide +kernel
theorem dX12_stepY_6 : decode cX12_stepY 6 = .ok (.goto 13, 3) := by decide +kernel
theorem dX12_stepY_9 : decode cX12_stepY 9 = .ok (.iload_n 0, 1) := by decide +kernel
theorem dX12_stepY_10 : decode cX12_stepY 10 = .ok (.iconst 3, 1) := by decide +kernel
theorem dX12_stepY_11 : decode cX12_stepY 11 = .ok (.if_icmp .ne 7, 3) := by decide +kernel
theorem dX12_stepY_14 : decode cX12_stepY 14 = .ok (.iconst (-1), 1) := by decide +kernel
theorem dX12_stepY_15 : decode cX12_stepY 15 = .ok (.goto 4, 3) := by decide +kernel
theorem dX12_stepY_18 : decode cX12_stepY 18 = .ok (.iconst 0, 1) := by decide +kernel
theorem dX12_stepY_19 : decode cX12_stepY 19 = .ok (.ireturn, 1) := by decide +kernel
theorem dX12_rolls_0 : decode cX12_rolls 0 = .ok (.iload_n 1, 1) := by decide +kernel
theorem dX12_rolls_1 : decode cX12_rolls 1 = .ok (.iconst 4, 1) := by decide +kernel
theorem dX12_rolls_2 : decode cX12_rolls 2 = .ok (.idiv, 1) := by decide +kernel
theorem dX12_rolls_3 : decode cX12_rolls 3 = .ok (.istore_n 2, 1) := by decide +kernel
theorem dX12_rolls_4 : decode cX12_rolls 4 = .ok (.aload_n 0, 1) := by decide +kernel
theorem dX12_rolls_5 : decode cX12_rolls 5 = .ok (.getfield 39, 3) := by decide +kernel
theorem dX12_rolls_8 : decode cX12_rolls 8 = .ok (.iload_n 1, 1) := by decide +kernel
theorem dX12_rolls_9 : decode cX12_rolls 9 = .ok (.iaload, 1) := by decide +kernel
theorem dX12_rolls_10 : decode cX12_rolls 10 = .ok (.istore_n 3, 1) := by decide +kernel
theorem dX12_rolls_11 : decode cX12_rolls 11 = .ok (.iload_n 1, 1) := by decide +kernel
theorem dX12_rolls_12 : decode cX12_rolls 12 = .ok (.aload_n 0, 1) := by decide +kernel
theorem dX12_rolls_13 : decode cX12_rolls 13 = .ok (.getfield 81, 3) := by decide +kernel
theorem dX12_rolls_16 : decode cX12_rolls 16 = .ok (.iload_n 2, 1) := by decide +kernel
theorem dX12_rolls_17 : decode cX12_rolls 17 = .ok (.iaload, 1) := by decide +kernel
theorem dX12_rolls_18 : decode cX12_rolls 18 = .ok (.iadd, 1) := by decide +kernel
theorem dX12_rolls_19 : decode cX12_rolls 19 = .ok (.iconst 4, 1) := by decide +kernel
theorem dX12_rolls_20 : decode cX12_rolls 20 = .ok (.irem, 1) := by decide +kernel
theorem dX12_rolls_21 : decode cX12_rolls 21 = .ok (.istore 4, 2) := by decide +kernel
theorem dX12_rolls_23 : decode cX12_rolls 23 = .ok (.aload_n 0, 1) := by decide +kernel
theorem dX12_rolls_24 : decode cX12_rolls 24 = .ok (.getfield 75, 3) := by decide +kernel
theorem dX12_rolls_27 : decode cX12_rolls 27 = .ok (.iload_n 3, 1) := by decide +kernel
theorem dX12_rolls_28 : decode cX12_rolls 28 = .ok (.aload_n 0, 1) := by decide +kernel
theorem dX12_rolls_29 : decode cX12_rolls 29 = .ok (.getfield 75, 3) := by decide +kernel
theorem dX12_rolls_32 : decode cX12_rolls 32 = .ok (.iload_n 2, 1) := by decide +kernel
theorem dX12_rolls_33 : decode cX12_rolls 33 = .ok (.iaload, 1) := by decide +kernel
theorem dX12_rolls_34 : decode cX12_rolls 34 = .ok (.iload 4, 2) := by decide +kernel
theorem dX12_rolls_36 : decode cX12_rolls 36 = .ok (.invokestatic 295, 3) := by decide +kernel
theorem dX12_rolls_39 : decode cX12_rolls 39 = .ok (.iadd, 1) := by decide +kernel
theorem dX12_rolls_40 : decode cX12_rolls 40 = .ok (.iastore, 1) := by decide +kernel
theorem dX12_rolls_41 : decode cX12_rolls 41 = .ok (.aload_n 0, 1) := by decide +kernel
theorem dX12_rolls_42 : decode cX12_rolls 42 = .ok (.getfield 78, 3) := by decide +kernel
theorem dX12_rolls_45 : decode cX12_rolls 45 = .ok (.iload_n 3, 1) := by decide +kernel
theorem dX12_rolls_46 : decode cX12_rolls 46 = .ok (.aload_n 0, 1) := by decide +kernel
theorem dX12_rolls_47 : decode cX12_rolls 47 = .ok (.getfield 78, 3) := by decide +kernel
theorem dX12_rolls_50 : decode cX12_rolls 50 = .ok (.iload_n 2, 1) := by decide +kernel
theorem dX12_rolls_51 : decode cX12_rolls 51 = .ok (.iaload, 1) := by decide +kernel
theorem dX12_rolls_52 : decode cX12_rolls 52 = .ok (.iload 4, 2) := by decide +kernel
theorem dX12_rolls_54 : decode cX12_rolls 54 = .ok (.invokestatic 298, 3) := by decide +kernel
theorem dX12_rolls_57 : decode cX12_rolls 57 = .ok (.iadd, 1) := by decide +kernel
theorem dX12_rolls_58 : decode cX12_rolls 58 = .ok (.iastore, 1) := by decide +kernel
theorem dX12_rolls_59 : decode cX12_rolls 59 = .ok (.aload_n 0, 1) := by decide +kernel
theorem dX12_rolls_60 : decode cX12_rolls 60 = .ok (.getfield 81, 3) := by decide +kernel
theorem dX12_rolls_63 : decode cX12_rolls 63 = .ok (.iload_n 3, 1) := by decide +kernel
theorem dX12_rolls_64 : decode cX12_rolls 64 = .ok (.iload 4, 2) := by decide +kernel
theorem dX12_rolls_66 : decode cX12_rolls 66 = .ok (.iconst 2, 1) := by decide +kernel
theorem dX12_rolls_67 : decode cX12_rolls 67 = .ok (.iadd, 1) := by decide +kernel
theorem dX12_rolls_68 : decode cX12_rolls 68 = .ok (.aload_n 0, 1) := by decide +kernel
theorem dX12_rolls_69 : decode cX12_rolls 69 = .ok (.getfield 42, 3) := by decide +kernel
theorem dX12_rolls_72 : decode cX12_rolls 72 = .ok (.iload_n 1, 1) := by decide +kernel
theorem dX12_rolls_73 : decode cX12_rolls 73 = .ok (.iaload, 1) := by decide +kernel
theorem dX12_rolls_74 : decode cX12_rolls 74 = .ok (.isub, 1) := by decide +kernel
theorem dX12_rolls_75 : decode cX12_rolls 75 = .ok (.iconst 4, 1) := by decide +kernel
theorem dX12_rolls_76 : decode cX12_rolls 76 = .ok (.iadd, 1) := by decide +kernel
theorem dX12_rolls_77 : decode cX12_rolls 77 = .ok (.iconst 4, 1) := by decide +kernel
theorem dX12_rolls_78 : decode cX12_rolls 78 = .ok (.irem, 1) := by decide +kernel
theorem dX12_rolls_79 : decode cX12_rolls 79 = .ok (.iastore, 1) := by decide +kernel
theorem dX12_rolls_80 : decode cX12_rolls 80 = .ok (.return_, 1) := by decide +kernel
theorem dX12_places_0 : decode cX12_places 0 = .ok (.aload_n 0, 1) := by decide +kernel
theorem dX12_places_1 : decode cX12_places 1 = .ok (.getfield 205, 3) := by decide +kernel
theorem dX12_places_4 : decode cX12_places 4 = .ok (.ifCond .ne 5, 3) := by decide +kernel
theorem dX12_places_7 : decode cX12_places 7 = .ok (.iconst 0, 1) := by decide +kernel
theorem dX12_places_8 : decode cX12_places 8 = .ok (.ireturn, 1) := by decide +kernel
theorem dX12_places_9 : decode cX12_places 9 = .ok (.aload_n 0, 1) := by decide +kernel
theorem dX12_places_10 : decode cX12_places 10 = .ok (.aload_n 0, 1) := by decide +kernel
theorem dX12_places_11 : decode cX12_places 11 = .ok (.getfield 9, 3) := by decide +kernel
theorem dX12_places_14 : decode cX12_places 14 = .ok (.bipush 22, 2) := by decide +kernel
theorem dX12_places_16 : decode cX12_places 16 = .ok (.iaload, 1) := by decide +kernel
theorem dX12_places_17 : decode cX12_places 17 = .ok (.invokevirtual 260, 3) := by decide +kernel
theorem dX12_places_20 : decode cX12_places 20 = .ok (.istore_n 1, 1) := by decide +kernel
theorem dX12_places_21 : decode cX12_places 21 = .ok (.aload_n 0, 1) := by decide +kernel
theorem dX12_places_22 : decode cX12_places 22 = .ok (.getfield 75, 3) := by decide +kernel
theorem dX12_places_25 : decode cX12_places 25 = .ok (.aload_n 0, 1) := by decide +kernel
theorem dX12_places_26 : decode cX12_places 26 = .ok (.getfield 9, 3) := by decide +kernel
theorem dX12_places_29 : decode cX12_places 29 = .ok (.bipush 22, 2) := by decide +kernel
theorem dX12_places_31 : decode cX12_places 31 = .ok (.iaload, 1) := by decide +kernel
theorem dX12_places_32 : decode cX12_places 32 = .ok (.iconst 0, 1) := by decide +kernel
theorem dX12_places_33 : decode cX12_places 33 = .ok (.iastore, 1) := by decide +kernel
theorem dX12_places_34 : decode cX12_places 34 = .ok (.aload_n 0, 1) := by decide +kernel
theorem dX12_places_35 : decode cX12_places 35 = .ok (.getfield 78, 3) := by decide +kernel
theorem dX12_places_38 : decode cX12_places 38 = .ok (.aload_n 0, 1) := by decide +kernel
theorem dX12_places_39 : decode cX12_places 39 = .ok (.getfield 9, 3) := by decide +kernel
theorem dX12_places_42 : decode cX12_places 42 = .ok (.bipush 22, 2) := by decide +kernel
theorem dX12_places_44 : decode cX12_places 44 = .ok (.iaload, 1) := by decide +kernel
theorem dX12_places_45 : decode cX12_places 45 = .ok (.iconst 0, 1) := by decide +kernel
theorem dX12_places_46 : decode cX12_places 46 = .ok (.iastore, 1) := by decide +kernel
theorem dX12_places_47 : decode cX12_places 47 = .ok (.aload_n 0, 1) := by decide +kernel
theorem dX12_places_48 : decode cX12_places 48 = .ok (.getfield 81, 3) := by decide +kernel
theorem dX12_places_51 : decode cX12_places 51 = .ok (.aload_n 0, 1) := by decide +kernel
theorem dX12_places_52 : decode cX12_places 52 = .ok (.getfield 9, 3) := by decide +kernel
theorem dX12_places_55 : decode cX12_places 55 = .ok (.bipush 22, 2) := by decide +kernel
theorem dX12_places_57 : decode cX12_places 57 = .ok (.iaload, 1) := by decide +kernel
theorem dX12_places_58 : decode cX12_places 58 = .ok (.iconst 0, 1) := by decide +kernel
theorem dX12_places_59 : decode cX12_places 59 = .ok (.iastore, 1) := by decide +kernel
theorem dX12_places_60 : decode cX12_places 60 = .ok (.iconst 1, 1) := by decide +kernel
theorem dX12_places_61 : decode cX12_places 61 = .ok (.istore_n 2, 1) := by decide +kernel
theorem dX12_places_62 : decode cX12_places 62 = .ok (.iload_n 2, 1) := by decide +kernel
theorem dX12_places_63 : decode cX12_places 63 = .ok (.iload_n 1, 1) := by decide +kernel
theorem dX12_places_64 : decode cX12_places 64 = .ok (.if_icmp .ge 24, 3) := by decide +kernel
theorem dX12_places_67 : decode cX12_places 67 = .ok (.aload_n 0, 1) := by decide +kernel
theorem dX12_places_68 : decode cX12_places 68 = .ok (.aload_n 0, 1) := by decide +kernel
theorem dX12_places_69 : decode cX12_places 69 = .ok (.getfield 66, 3) := by decide +kernel
theorem dX12_places_72 : decode cX12_places 72 = .ok (.aload_n 0, 1) := by decide +kernel
theorem dX12_places_73 : decode cX12_places 73 = .ok (.getfield 63, 3) := by decide +kernel
theorem dX12_places_76 : decode cX12_places 76 = .ok (.iload_n 2, 1) := by decide +kernel
theorem dX12_places_77 : decode cX12_places 77 = .ok (.iaload, 1) := by decide +kernel
theorem dX12_places_78 : decode cX12_places 78 = .ok (.iaload, 1) := by decide +kernel
theorem dX12_places_79 : decode cX12_places 79 = .ok (.invokevirtual 301, 3) := by decide +kernel
theorem dX12_places_82 : decode cX12_places 82 = .ok (.iinc 2 1, 3) := by decide +kernel
theorem dX12_places_85 : decode cX12_places 85 = .ok (.goto (-23), 3) := by decide +kernel
theorem dX12_places_88 : decode cX12_places 88 = .ok (.iload_n 1, 1) := by decide +kernel
theorem dX12_places_89 : decode cX12_places 89 = .ok (.ireturn, 1) := by decide +kernel
theorem dX12_areOver_0 : decode cX12_areOver 0 = .ok (.aload_n 0, 1) := by decide +kernel
theorem dX12_areOver_1 : decode cX12_areOver 1 = .ok (.getfield 60, 3) := by decide +kernel
theorem dX12_areOver_4 : decode cX12_areOver 4 = .ok (.iload_n 1, 1) := by decide +kernel
theorem dX12_areOver_5 : decode cX12_areOver 5 = .ok (.baload, 1) := by decide +kernel
theorem dX12_areOver_6 : decode cX12_areOver 6 = .ok (.ifCond .eq 46, 3) := by decide +kernel
theorem dX12_areOver_9 : decode cX12_areOver 9 = .ok (.aload_n 0, 1) := by decide +kernel
theorem dX12_areOver_10 : decode cX12_areOver 10 = .ok (.getfield 60, 3) := by decide +kernel
theorem dX12_areOver_13 : decode cX12_areOver 13 = .ok (.iload_n 2, 1) := by decide +kernel
theorem dX12_areOver_14 : decode cX12_areOver 14 = .ok (.baload, 1) := by decide +kernel
theorem dX12_areOver_15 : decode cX12_areOver 15 = .ok (.ifCond .eq 37, 3) := by decide +kernel
theorem dX12_areOver_18 : decode cX12_areOver 18 = .ok (.aload_n 0, 1) := by decide +kernel
theorem dX12_areOver_19 : decode cX12_areOver 19 = .ok (.getfield 75, 3) := by decide +kernel
theorem dX12_areOver_22 : decode cX12_areOver 22 = .ok (.iload_n 1, 1) := by decide +kernel
theorem dX12_areOver_23 : decode cX12_areOver 23 = .ok (.iaload, 1) := by decide +kernel
theorem dX12_areOver_24 : decode cX12_areOver 24 = .ok (.aload_n 0, 1) := by decide +kernel
theorem dX12_areOver_25 : decode cX12_areOver 25 = .ok (.getfield 75, 3) := by decide +kernel
theorem dX12_areOver_28 : decode cX12_areOver 28 = .ok (.iload_n 2, 1) := by decide +kernel
theorem dX12_areOver_29 : decode cX12_areOver 29 = .ok (.iaload, 1) := by decide +kernel
theorem dX12_areOver_30 : decode cX12_areOver 30 = .ok (.if_icmp .ne 22, 3) := by decide +kernel
theorem dX12_areOver_33 : decode cX12_areOver 33 = .ok (.aload_n 0, 1) := by decide +kernel
theorem dX12_areOver_34 : decode cX12_areOver 34 = .ok (.getfield 78, 3) := by decide +kernel
theorem dX12_areOver_37 : decode cX12_areOver 37 = .ok (.iload_n 1, 1) := by decide +kernel
theorem dX12_areOver_38 : decode cX12_areOver 38 = .ok (.iaload, 1) := by decide +kernel
theorem dX12_areOver_39 : decode cX12_areOver 39 = .ok (.aload_n 0, 1) := by decide +kernel
theorem dX12_areOver_40 : decode cX12_areOver 40 = .ok (.getfield 78, 3) := by decide +kernel
theorem dX12_areOver_43 : decode cX12_areOver 43 = .ok (.iload_n 2, 1) := by decide +kernel
theorem dX12_areOver_44 : decode cX12_areOver 44 = .ok (.iaload, 1) := by decide +kernel
theorem dX12_areOver_45 : decode cX12_areOver 45 = .ok (.if_icmp .ne 7, 3) := by decide +kernel
theorem dX12_areOver_48 : decode cX12_areOver 48 = .ok (.iconst 1, 1) := by decide +kernel
theorem dX12_areOver_49 : decode cX12_areOver 49 = .ok (.goto 4, 3) := by decide +kernel
theorem dX12_areOver_52 : decode cX12_areOver 52 = .ok (.iconst 0, 1) := by decide +kernel
theorem dX12_areOver_53 : decode cX12_areOver 53 = .ok (.ireturn, 1) := by decide +kernel
theorem dX12_overlaps_0 : decode cX12_overlaps 0 = .ok (.aload_n 0, 1) := by decide +kernel
theorem dX12_overlaps_1 : decode cX12_overlaps 1 = .ok (.invokevirtual 304, 3) := by decide +kernel
theorem dX12_overlaps_4 : decode cX12_overlaps 4 = .ok (.pop, 1) := by decide +kernel
theorem dX12_overlaps_5 : decode cX12_overlaps 5 = .ok (.iconst 0, 1) := by decide +kernel
theorem dX12_overlaps_6 : decode cX12_overlaps 6 = .ok (.istore_n 1, 1) := by decide +kernel
theorem dX12_overlaps_7 : decode cX12_overlaps 7 = .ok (.iconst 0, 1) := by decide +kernel
theorem dX12_overlaps_8 : decode cX12_overlaps 8 = .ok (.istore_n 2, 1) := by decide +kernel
theorem dX12_overlaps_9 : decode cX12_overlaps 9 = .ok (.iload_n 2, 1) := by decide +kernel
theorem dX12_overlaps_10 : decode cX12_overlaps 10 = .ok (.aload_n 0, 1) := by decide +kernel
theorem dX12_overlaps_11 : decode cX12_overlaps 11 = .ok (.getfield 205, 3) := by decide +kernel
theorem dX12_overlaps_14 : decode cX12_overlaps 14 = .ok (.if_icmp .ge 39, 3) := by decide +kernel
theorem dX12_overlaps_17 : decode cX12_overlaps 17 = .ok (.iload_n 2, 1) := by decide +kernel
theorem dX12_overlaps_18 : decode cX12_overlaps 18 = .ok (.iconst 1, 1) := by decide +kernel
theorem dX12_overlaps_19 : decode cX12_overlaps 19 = .ok (.iadd, 1) := by decide +kernel
theorem dX12_overlaps_20 : decode cX12_overlaps 20 = .ok (.istore_n 3, 1) := by decide +kernel
theorem dX12_overlaps_21 : decode cX12_overlaps 21 = .ok (.iload_n 3, 1) := by decide +kernel
theorem dX12_overlaps_22 : decode cX12_overlaps 22 = .ok (.aload_n 0, 1) := by decide +kernel
theorem dX12_overlaps_23 : decode cX12_overlaps 23 = .ok (.getfield 205, 3) := by decide +kernel
theorem dX12_overlaps_26 : decode cX12_overlaps 26 = .ok (.if_icmp .ge 21, 3) := by decide +kernel
theorem dX12_overlaps_29 : decode cX12_overlaps 29 = .ok (.iload_n 1, 1) := by decide +kernel
theorem dX12_overlaps_30 : decode cX12_overlaps 30 = .ok (.aload_n 0, 1) := by decide +kernel
theorem dX12_overlaps_31 : decode cX12_overlaps 31 = .ok (.iload_n 2, 1) := by decide +kernel
theorem dX12_overlaps_32 : decode cX12_overlaps 32 = .ok (.iload_n 3, 1) := by decide +kernel
theorem dX12_overlaps_33 : decode cX12_overlaps 33 = .ok (.invokevirtual 307, 3) := by decide +kernel
theorem dX12_overlaps_36 : decode cX12_overlaps 36 = .ok (.invokestatic 185, 3) := by decide +kernel
theorem dX12_overlaps_39 : decode cX12_overlaps 39 = .ok (.iadd, 1) := by decide +kernel
theorem dX12_overlaps_40 : decode cX12_overlaps 40 = .ok (.istore_n 1, 1) := by decide +kernel
theorem dX12_overlaps_41 : decode cX12_overlaps 41 = .ok (.iinc 3 1, 3) := by decide +kernel
theorem dX12_overlaps_44 : decode cX12_overlaps 44 = .ok (.goto (-23), 3) := by decide +kernel
theorem dX12_overlaps_47 : decode cX12_overlaps 47 = .ok (.iinc 2 1, 3) := by decide +kernel
theorem dX12_overlaps_50 : decode cX12_overlaps 50 = .ok (.goto (-41), 3) := by decide +kernel
theorem dX12_overlaps_53 : decode cX12_overlaps 53 = .ok (.iload_n 1, 1) := by decide +kernel
theorem dX12_overlaps_54 : decode cX12_overlaps 54 = .ok (.ireturn, 1) := by decide +kernel
theorem dX12_isFree_0 : decode cX12_isFree 0 = .ok (.aload_n 0, 1) := by decide +kernel
theorem dX12_isFree_1 : decode cX12_isFree 1 = .ok (.getfield 51, 3) := by decide +kernel
theorem dX12_isFree_4 : decode cX12_isFree 4 = .ok (.iload_n 1, 1) := by decide +kernel
theorem dX12_isFree_5 : decode cX12_isFree 5 = .ok (.iaload, 1) := by decide +kernel
theorem dX12_isFree_6 : decode cX12_isFree 6 = .ok (.istore_n 2, 1) := by decide +kernel
theorem dX12_isFree_7 : decode cX12_isFree 7 = .ok (.iload_n 2, 1) := by decide +kernel
theorem dX12_isFree_8 : decode cX12_isFree 8 = .ok (.iconst 4, 1) := by decide +kernel
theorem dX12_isFree_9 : decode cX12_isFree 9 = .ok (.idiv, 1) := by decide +kernel
theorem dX12_isFree_10 : decode cX12_isFree 10 = .ok (.istore_n 3, 1) := by decide +kernel
theorem dX12_isFree_11 : decode cX12_isFree 11 = .ok (.aload_n 0, 1) := by decide +kernel
theorem dX12_isFree_12 : decode cX12_isFree 12 = .ok (.getfield 39, 3) := by decide +kernel
theorem dX12_isFree_15 : decode cX12_isFree 15 = .ok (.iload_n 2, 1) := by decide +kernel
theorem dX12_isFree_16 : decode cX12_isFree 16 = .ok (.iaload, 1) := by decide +kernel
theorem dX12_isFree_17 : decode cX12_isFree 17 = .ok (.istore 4, 2) := by decide +kernel
theorem dX12_isFree_19 : decode cX12_isFree 19 = .ok (.aload_n 0, 1) := by decide +kernel
theorem dX12_isFree_20 : decode cX12_isFree 20 = .ok (.iload_n 1, 1) := by decide +kernel
theorem dX12_isFree_21 : decode cX12_isFree 21 = .ok (.invokevirtual 257, 3) := by decide +kernel
theorem dX12_isFree_24 : decode cX12_isFree 24 = .ok (.ifCond .ne 22, 3) := by decide +kernel
theorem dX12_isFree_27 : decode cX12_isFree 27 = .ok (.aload_n 0, 1) := by decide +kernel
theorem dX12_isFree_28 : decode cX12_isFree 28 = .ok (.getfield 60, 3) := by decide +kernel
theorem dX12_isFree_31 : decode cX12_isFree 31 = .ok (.iload_n 3, 1) := by decide +kernel
theorem dX12_isFree_32 : decode cX12_isFree 32 = .ok (.baload, 1) := by decide +kernel
theorem dX12_isFree_33 : decode cX12_isFree 33 = .ok (.ifCond .eq 13, 3) := by decide +kernel
theorem dX12_isFree_36 : decode cX12_isFree 36 = .ok (.aload_n 0, 1) := by decide +kernel
theorem dX12_isFree_37 : decode cX12_isFree 37 = .ok (.getfield 60, 3) := by decide +kernel
theorem dX12_isFree_40 : decode cX12_isFree 40 = .ok (.iload 4, 2) := by decide +kernel
theorem dX12_isFree_42 : decode cX12_isFree 42 = .ok (.baload, 1) := by decide +kernel
theorem dX12_isFree_43 : decode cX12_isFree 43 = .ok (.ifCond .ne 5, 3) := by decide +kernel
theorem dX12_isFree_46 : decode cX12_isFree 46 = .ok (.iconst 0, 1) := by decide +kernel
theorem dX12_isFree_47 : decode cX12_isFree 47 = .ok (.ireturn, 1) := by decide +kernel
theorem dX12_isFree_48 : decode cX12_isFree 48 = .ok (.iload_n 2, 1) := by decide +kernel
theorem dX12_isFree_49 : decode cX12_isFree 49 = .ok (.aload_n 0, 1) := by decide +kernel
theorem dX12_isFree_50 : decode cX12_isFree 50 = .ok (.getfield 81, 3) := by decide +kernel
theorem dX12_isFree_53 : decode cX12_isFree 53 = .ok (.iload_n 3, 1) := by decide +kernel
theorem dX12_isFree_54 : decode cX12_isFree 54 = .ok (.iaload, 1) := by decide +kernel
theorem dX12_isFree_55 : decode cX12_isFree 55 = .ok (.iadd, 1) := by decide +kernel
theorem dX12_isFree_56 : decode cX12_isFree 56 = .ok (.iconst 4, 1) := by decide +kernel
theorem dX12_isFree_57 : decode cX12_isFree 57 = .ok (.irem, 1) := by decide +kernel
theorem dX12_isFree_58 : decode cX12_isFree 58 = .ok (.istore 5, 2) := by decide +kernel
theorem dX12_isFree_60 : decode cX12_isFree 60 = .ok (.aload_n 0, 1) := by decide +kernel
theorem dX12_isFree_61 : decode cX12_isFree 61 = .ok (.getfield 75, 3) := by decide +kernel
theorem dX12_isFree_64 : decode cX12_isFree 64 = .ok (.iload 4, 2) := by decide +kernel
theorem dX12_isFree_66 : decode cX12_isFree 66 = .ok (.iaload, 1) := by decide +kernel
theorem dX12_isFree_67 : decode cX12_isFree 67 = .ok (.aload_n 0, 1) := by decide +kernel
theorem dX12_isFree_68 : decode cX12_isFree 68 = .ok (.getfield 75, 3) := by decide +kernel
theorem dX12_isFree_71 : decode cX12_isFree 71 = .ok (.iload_n 3, 1) := by decide +kernel
theorem dX12_isFree_72 : decode cX12_isFree 72 = .ok (.iaload, 1) := by decide +kernel
theorem dX12_isFree_73 : decode cX12_isFree 73 = .ok (.iload 5, 2) := by decide +kernel
theorem dX12_isFree_75 : decode cX12_isFree 75 = .ok (.invokestatic 295, 3) := by decide +kernel
theorem dX12_isFree_78 : decode cX12_isFree 78 = .ok (.iadd, 1) := by decide +kernel
theorem dX12_isFree_79 : decode cX12_isFree 79 = .ok (.if_icmp .ne 54, 3) := by decide +kernel
theorem dX12_isFree_82 : decode cX12_isFree 82 = .ok (.aload_n 0, 1) := by decide +kernel
theorem dX12_isFree_83 : decode cX12_isFree 83 = .ok (.getfield 78, 3) := by decide +kernel
theorem dX12_isFree_86 : decode cX12_isFree 86 = .ok (.iload 4, 2) := by decide +kernel
theorem dX12_isFree_88 : decode cX12_isFree 88 = .ok (.iaload, 1) := by decide +kernel
theorem dX12_isFree_89 : decode cX12_isFree 89 = .ok (.aload_n 0, 1) := by decide +kernel
theorem dX12_isFree_90 : decode cX12_isFree 90 = .ok (.getfield 78, 3) := by decide +kernel
theorem dX12_isFree_93 : decode cX12_isFree 93 = .ok (.iload_n 3, 1) := by decide +kernel
theorem dX12_isFree_94 : decode cX12_isFree 94 = .ok (.iaload, 1) := by decide +kernel
theorem dX12_isFree_95 : decode cX12_isFree 95 = .ok (.iload 5, 2) := by decide +kernel
theorem dX12_isFree_97 : decode cX12_isFree 97 = .ok (.invokestatic 298, 3) := by decide +kernel
theorem dX12_isFree_100 : decode cX12_isFree 100 = .ok (.iadd, 1) := by decide +kernel
theorem dX12_isFree_101 : decode cX12_isFree 101 = .ok (.if_icmp .ne 32, 3) := by decide +kernel
theorem dX12_isFree_104 : decode cX12_isFree 104 = .ok (.aload_n 0, 1) := by decide +kernel
theorem dX12_isFree_105 : decode cX12_isFree 105 = .ok (.getfield 42, 3) := by decide +kernel
theorem dX12_isFree_108 : decode cX12_isFree 108 = .ok (.iload_n 2, 1) := by decide +kernel
theorem dX12_isFree_109 : decode cX12_isFree 109 = .ok (.iaload, 1) := by decide +kernel
theorem dX12_isFree_110 : decode cX12_isFree 110 = .ok (.aload_n 0, 1) := by decide +kernel
theorem dX12_isFree_111 : decode cX12_isFree 111 = .ok (.getfield 81, 3) := by decide +kernel
theorem dX12_isFree_114 : decode cX12_isFree 114 = .ok (.iload 4, 2) := by decide +kernel
theorem dX12_isFree_116 : decode cX12_isFree 116 = .ok (.iaload, 1) := by decide +kernel
theorem dX12_isFree_117 : decode cX12_isFree 117 = .ok (.iadd, 1) := by decide +kernel
theorem dX12_isFree_118 : decode cX12_isFree 118 = .ok (.iconst 4, 1) := by decide +kernel
theorem dX12_isFree_119 : decode cX12_isFree 119 = .ok (.irem, 1) := by decide +kernel
theorem dX12_isFree_120 : decode cX12_isFree 120 = .ok (.iload 5, 2) := by decide +kernel
theorem dX12_isFree_122 : decode cX12_isFree 122 = .ok (.iconst 2, 1) := by decide +kernel
theorem dX12_isFree_123 : decode cX12_isFree 123 = .ok (.iadd, 1) := by decide +kernel
theorem dX12_isFree_124 : decode cX12_isFree 124 = .ok (.iconst 4, 1) := by decide +kernel
