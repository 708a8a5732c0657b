theorem dX0_init_0 : decode cX0_init 0 = .ok (.aload_n 0, 1) := by decide +kernel
theorem dX0_init_1 : decode cX0_init 1 = .ok (.invokespecial 3, 3) := by decide +kernel
theorem dX0_init_4 : decode cX0_init 4 = .ok (.aload_n 0, 1) := by decide +kernel
theorem dX0_init_5 : decode cX0_init 5 = .ok (.iconst 0, 1) := by decide +kernel
theorem dX0_init_6 : decode cX0_init 6 = .ok (.putfield 9, 3) := by decide +kernel
theorem dX0_init_9 : decode cX0_init 9 = .ok (.aload_n 0, 1) := by decide +kernel
theorem dX0_init_10 : decode cX0_init 10 = .ok (.iconst 0, 1) := by decide +kernel
theorem dX0_init_11 : decode cX0_init 11 = .ok (.putfield 15, 3) := by decide +kernel
theorem dX0_init_14 : decode cX0_init 14 = .ok (.aload_n 0, 1) := by decide +kernel
theorem dX0_init_15 : decode cX0_init 15 = .ok (.bipush 62, 2) := by decide +kernel
theorem dX0_init_17 : decode cX0_init 17 = .ok (.newarray .int, 2) := by decide +kernel
theorem dX0_init_19 : decode cX0_init 19 = .ok (.putfield 19, 3) := by decide +kernel
theorem dX0_init_22 : decode cX0_init 22 = .ok (.aload_n 0, 1) := by decide +kernel
theorem dX0_init_23 : decode cX0_init 23 = .ok (.bipush 62, 2) := by decide +kernel
theorem dX0_init_25 : decode cX0_init 25 = .ok (.newarray .int, 2) := by decide +kernel
theorem dX0_init_27 : decode cX0_init 27 = .ok (.putfield 23, 3) := by decide +kernel
theorem dX0_init_30 : decode cX0_init 30 = .ok (.aload_n 0, 1) := by decide +kernel
theorem dX0_init_31 : decode cX0_init 31 = .ok (.bipush 62, 2) := by decide +kernel
theorem dX0_init_33 : decode cX0_init 33 = .ok (.newarray .int, 2) := by decide +kernel
theorem dX0_init_35 : decode cX0_init 35 = .ok (.putfield 26, 3) := by decide +kernel
theorem dX0_init_38 : decode cX0_init 38 = .ok (.aload_n 0, 1) := by decide +kernel
theorem dX0_init_39 : decode cX0_init 39 = .ok (.bipush 120, 2) := by decide +kernel
theorem dX0_init_41 : decode cX0_init 41 = .ok (.newarray .int, 2) := by decide +kernel
theorem dX0_init_43 : decode cX0_init 43 = .ok (.putfield 29, 3) := by decide +kernel
theorem dX0_init_46 : decode cX0_init 46 = .ok (.return_, 1) := by decide +kernel
theorem dX0_trace_0 : decode cX0_trace 0 = .ok (.aload_n 0, 1) := by decide +kernel
theorem dX0_trace_1 : decode cX0_trace 1 = .ok (.getfield 9, 3) := by decide +kernel
theorem dX0_trace_4 : decode cX0_trace 4 = .ok (.ifCond .eq 4, 3) := by decide +kernel
theorem dX0_trace_7 : decode cX0_trace 7 = .ok (.return_, 1) := by decide +kernel
theorem dX0_trace_8 : decode cX0_trace 8 = .ok (.aload_n 0, 1) := by decide +kernel
theorem dX0_trace_9 : decode cX0_trace 9 = .ok (.iconst 2, 1) := by decide +kernel
theorem dX0_trace_10 : decode cX0_trace 10 = .ok (.aload_n 1, 1) := by decide +kernel
theorem dX0_trace_11 : decode cX0_trace 11 = .ok (.getfield 32, 3) := by decide +kernel
theorem dX0_trace_14 : decode cX0_trace 14 = .ok (.imul, 1) := by decide +kernel
theorem dX0_trace_15 : decode cX0_trace 15 = .ok (.iconst 2, 1) := by decide +kernel
theorem dX0_trace_16 : decode cX0_trace 16 = .ok (.iadd, 1) := by decide +kernel
theorem dX0_trace_17 : decode cX0_trace 17 = .ok (.bipush 62, 2) := by decide +kernel
theorem dX0_trace_19 : decode cX0_trace 19 = .ok (.invokestatic 37, 3) := by decide +kernel
theorem dX0_trace_22 : decode cX0_trace 22 = .ok (.putfield 15, 3) := by decide +kernel
theorem dX0_trace_25 : decode cX0_trace 25 = .ok (.iconst 0, 1) := by decide +kernel
theorem dX0_trace_26 : decode cX0_trace 26 = .ok (.istore_n 3, 1) := by decide +kernel
theorem dX0_trace_27 : decode cX0_trace 27 = .ok (.iload_n 3, 1) := by decide +kernel
theorem dX0_trace_28 : decode cX0_trace 28 = .ok (.bipush 119, 2) := by decide +kernel
theorem dX0_trace_30 : decode cX0_trace 30 = .ok (.if_icmp .ge 22, 3) := by decide +kernel
theorem dX0_trace_33 : decode cX0_trace 33 = .ok (.aload_n 2, 1) := by decide +kernel
theorem dX0_trace_34 : decode cX0_trace 34 = .ok (.aload_n 1, 1) := by decide +kernel
theorem dX0_trace_35 : decode cX0_trace 35 = .ok (.getfield 43, 3) := by decide +kernel
theorem dX0_trace_38 : decode cX0_trace 38 = .ok (.iload_n 3, 1) := by decide +kernel
theorem dX0_trace_39 : decode cX0_trace 39 = .ok (.iaload, 1) := by decide +kernel
theorem dX0_trace_40 : decode cX0_trace 40 = .ok (.invokevirtual 46, 3) := by decide +kernel
theorem dX0_trace_43 : decode cX0_trace 43 = .ok (.ifCond .eq 9, 3) := by decide +kernel
theorem dX0_trace_46 : decode cX0_trace 46 = .ok (.iinc 3 1, 3) := by decide +kernel
theorem dX0_trace_49 : decode cX0_trace 49 = .ok (.goto (-22), 3) := by decide +kernel
theorem dX0_trace_52 : decode cX0_trace 52 = .ok (.iconst 0, 1) := by decide +kernel
theorem dX0_trace_53 : decode cX0_trace 53 = .ok (.istore 4, 2) := by decide +kernel
theorem dX0_trace_55 : decode cX0_trace 55 = .ok (.iload 4, 2) := by decide +kernel
theorem dX0_trace_57 : decode cX0_trace 57 = .ok (.aload_n 0, 1) := by decide +kernel
theorem dX0_trace_58 : decode cX0_trace 58 = .ok (.getfield 15, 3) := by decide +kernel
theorem dX0_trace_61 : decode cX0_trace 61 = .ok (.if_icmp .ge 95, 3) := by decide +kernel
theorem dX0_trace_64 : decode cX0_trace 64 = .ok (.aload_n 0, 1) := by decide +kernel
theorem dX0_trace_65 : decode cX0_trace 65 = .ok (.getfield 19, 3) := by decide +kernel
theorem dX0_trace_68 : decode cX0_trace 68 = .ok (.iload 4, 2) := by decide +kernel
theorem dX0_trace_70 : decode cX0_trace 70 = .ok (.iload_n 3, 1) := by decide +kernel
theorem dX0_trace_71 : decode cX0_trace 71 = .ok (.iastore, 1) := by decide +kernel
theorem dX0_trace_72 : decode cX0_trace 72 = .ok (.aload_n 0, 1) := by decide +kernel
theorem dX0_trace_73 : decode cX0_trace 73 = .ok (.getfield 29, 3) := by decide +kernel
theorem dX0_trace_76 : decode cX0_trace 76 = .ok (.iload_n 3, 1) := by decide +kernel
theorem dX0_trace_77 : decode cX0_trace 77 = .ok (.iload 4, 2) := by decide +kernel
theorem dX0_trace_79 : decode cX0_trace 79 = .ok (.iastore, 1) := by decide +kernel
theorem dX0_trace_80 : decode cX0_trace 80 = .ok (.iconst 1, 1) := by decide +kernel
theorem dX0_trace_81 : decode cX0_trace 81 = .ok (.istore 5, 2) := by decide +kernel
theorem dX0_trace_83 : decode cX0_trace 83 = .ok (.iload_n 3, 1) := by decide +kernel
theorem dX0_trace_84 : decode cX0_trace 84 = .ok (.invokestatic 52, 3) := by decide +kernel
theorem dX0_trace_87 : decode cX0_trace 87 = .ok (.istore_n 3, 1) := by decide +kernel
theorem dX0_trace_88 : decode cX0_trace 88 = .ok (.iload 5, 2) := by decide +kernel
theorem dX0_trace_90 : decode cX0_trace 90 = .ok (.bipush 120, 2) := by decide +kernel
theorem dX0_trace_92 : decode cX0_trace 92 = .ok (.if_icmp .ge 32, 3) := by decide +kernel
theorem dX0_trace_95 : decode cX0_trace 95 = .ok (.aload_n 2, 1) := by decide +kernel
theorem dX0_trace_96 : decode cX0_trace 96 = .ok (.aload_n 1, 1) := by decide +kernel
theorem dX0_trace_97 : decode cX0_trace 97 = .ok (.getfield 43, 3) := by decide +kernel
theorem dX0_trace_100 : decode cX0_trace 100 = .ok (.iload_n 3, 1) := by decide +kernel
theorem dX0_trace_101 : decode cX0_trace 101 = .ok (.iaload, 1) := by decide +kernel
theorem dX0_trace_102 : decode cX0_trace 102 = .ok (.invokevirtual 46, 3) := by decide +kernel
theorem dX0_trace_105 : decode cX0_trace 105 = .ok (.ifCond .eq 19, 3) := by decide +kernel
theorem dX0_trace_108 : decode cX0_trace 108 = .ok (.aload_n 1, 1) := by decide +kernel
theorem dX0_trace_109 : decode cX0_trace 109 = .ok (.getfield 56, 3) := by decide +kernel
theorem dX0_trace_112 : decode cX0_trace 112 = .ok (.iload_n 3, 1) := by decide +kernel
theorem dX0_trace_113 : decode cX0_trace 113 = .ok (.iaload, 1) := by decide +kernel
theorem dX0_trace_114 : decode cX0_trace 114 = .ok (.invokestatic 52, 3) := by decide +kernel
theorem dX0_trace_117 : decode cX0_trace 117 = .ok (.istore_n 3, 1) := by decide +kernel
theorem dX0_trace_118 : decode cX0_trace 118 = .ok (.iinc 5 1, 3) := by decide +kernel
theorem dX0_trace_121 : decode cX0_trace 121 = .ok (.goto (-33), 3) := by decide +kernel
theorem dX0_trace_124 : decode cX0_trace 124 = .ok (.aload_n 0, 1) := by decide +kernel
theorem dX0_trace_125 : decode cX0_trace 125 = .ok (.getfield 23, 3) := by decide +kernel
theorem dX0_trace_128 : decode cX0_trace 128 = .ok (.iload 4, 2) := by decide +kernel
theorem dX0_trace_130 : decode cX0_trace 130 = .ok (.iconst 1, 1) := by decide +kernel
theorem dX0_trace_131 : decode cX0_trace 131 = .ok (.iadd, 1) := by decide +kernel
theorem dX0_trace_132 : decode cX0_trace 132 = .ok (.aload_n 0, 1) := by decide +kernel
theorem dX0_trace_133 : decode cX0_trace 133 = .ok (.getfield 15, 3) := by decide +kernel
theorem dX0_trace_136 : decode cX0_trace 136 = .ok (.if_icmp .ge 10, 3) := by decide +kernel
theorem dX0_trace_139 : decode cX0_trace 139 = .ok (.iload 4, 2) := by decide +kernel
theorem dX0_trace_141 : decode cX0_trace 141 = .ok (.iconst 1, 1) := by decide +kernel
theorem dX0_trace_142 : decode cX0_trace 142 = .ok (.iadd, 1) := by decide +kernel
theorem dX0_trace_143 : decode cX0_trace 143 = .ok (.goto 4, 3) := by decide +kernel
theorem dX0_trace_146 : decode cX0_trace 146 = .ok (.iconst 0, 1) := by decide +kernel
theorem dX0_trace_147 : decode cX0_trace 147 = .ok (.iload 5, 2) := by decide +kernel
theorem dX0_trace_149 : decode cX0_trace 149 = .ok (.iastore, 1) := by decide +kernel
theorem dX0_trace_150 : decode cX0_trace 150 = .ok (.iinc 4 1, 3) := by decide +kernel
theorem dX0_trace_153 : decode cX0_trace 153 = .ok (.goto (-98), 3) := by decide +kernel
theorem dX0_trace_156 : decode cX0_trace 156 = .ok (.iconst 0, 1) := by decide +kernel
theorem dX0_trace_157 : decode cX0_trace 157 = .ok (.istore 4, 2) := by decide +kernel
theorem dX0_trace_159 : decode cX0_trace 159 = .ok (.iload 4, 2) := by decide +kernel
theorem dX0_trace_161 : decode cX0_trace 161 = .ok (.aload_n 0, 1) := by decide +kernel
theorem dX0_trace_162 : decode cX0_trace 162 = .ok (.getfield 15, 3) := by decide +kernel
theorem dX0_trace_165 : decode cX0_trace 165 = .ok (.if_icmp .ge 33, 3) := by decide +kernel
theorem dX0_trace_168 : decode cX0_trace 168 = .ok (.aload_n 0, 1) := by decide +kernel
theorem dX0_trace_169 : decode cX0_trace 169 = .ok (.getfield 26, 3) := by decide +kernel
theorem dX0_trace_172 : decode cX0_trace 172 = .ok (.iload 4, 2) := by decide +kernel
theorem dX0_trace_174 : decode cX0_trace 174 = .ok (.aload_n 0, 1) := by decide +kernel
theorem dX0_trace_175 : decode cX0_trace 175 = .ok (.getfield 29, 3) := by decide +kernel
theorem dX0_trace_178 : decode cX0_trace 178 = .ok (.aload_n 1, 1) := by decide +kernel
theorem dX0_trace_179 : decode cX0_trace 179 = .ok (.getfield 56, 3) := by decide +kernel
theorem dX0_trace_182 : decode cX0_trace 182 = .ok (.aload_n 0, 1) := by decide +kernel
theorem dX0_trace_183 : decode cX0_trace 183 = .ok (.getfield 19, 3) := by decide +kernel
theorem dX0_trace_186 : decode cX0_trace 186 = .ok (.iload 4, 2) := by decide +kernel
theorem dX0_trace_188 : decode cX0_trace 188 = .ok (.iaload, 1) := by decide +kernel
theorem dX0_trace_189 : decode cX0_trace 189 = .ok (.iaload, 1) := by decide +kernel
theorem dX0_trace_190 : decode cX0_trace 190 = .ok (.iaload, 1) := by decide +kernel
theorem dX0_trace_191 : decode cX0_trace 191 = .ok (.iastore, 1) := by decide +kernel
theorem dX0_trace_192 : decode cX0_trace 192 = .ok (.iinc 4 1, 3) := by decide +kernel
theorem dX0_trace_195 : decode cX0_trace 195 = .ok (.goto (-36), 3) := by decide +kernel
theorem dX0_trace_198 : decode cX0_trace 198 = .ok (.aload_n 0, 1) := by decide +kernel
theorem dX0_trace_199 : decode cX0_trace 199 = .ok (.iconst 1, 1) := by decide +kernel
theorem dX0_trace_200 : decode cX0_trace 200 = .ok (.putfield 9, 3) := by decide +kernel
theorem dX0_trace_203 : decode cX0_trace 203 = .ok (.return_, 1) := by decide +kernel
theorem dX1_init_0 : decode cX1_init 0 = .ok (.aload_n 0, 1) := by decide +kernel
theorem dX1_init_1 : decode cX1_init 1 = .ok (.invokespecial 3, 3) := by decide +kernel
theorem dX1_init_4 : decode cX1_init 4 = .ok (.aload_n 0, 1) := by decide +kernel
theorem dX1_init_5 : decode cX1_init 5 = .ok (.iconst 0, 1) := by decide +kernel
theorem dX1_init_6 : decode cX1_init 6 = .ok (.putfield 9, 3) := by decide +kernel
theorem dX1_init_9 : decode cX1_init 9 = .ok (.aload_n 0, 1) := by decide +kernel
theorem dX1_init_10 : decode cX1_init 10 = .ok (.iconst 0, 1) := by decide +kernel
theorem dX1_init_11 : decode cX1_init 11 = .ok (.putfield 15, 3) := by decide +kernel
theorem dX1_init_14 : decode cX1_init 14 = .ok (.aload_n 0, 1) := by decide +kernel
theorem dX1_init_15 : decode cX1_init 15 = .ok (.bipush 22, 2) := by decide +kernel
theorem dX1_init_17 : decode cX1_init 17 = .ok (.newarray .int, 2) := by decide +kernel
theorem dX1_init_19 : decode cX1_init 19 = .ok (.putfield 19, 3) := by decide +kernel
theorem dX1_init_22 : decode cX1_init 22 = .ok (.aload_n 0, 1) := by decide +kernel
theorem dX1_init_23 : decode cX1_init 23 = .ok (.iconst 0, 1) := by decide +kernel
theorem dX1_init_24 : decode cX1_init 24 = .ok (.putfield 23, 3) := by decide +kernel
theorem dX1_init_27 : decode cX1_init 27 = .ok (.aload_n 0, 1) := by decide +kernel
theorem dX1_init_28 : decode cX1_init 28 = .ok (.bipush 64, 2) := by decide +kernel
theorem dX1_init_30 : decode cX1_init 30 = .ok (.newarray .int, 2) := by decide +kernel
theorem dX1_init_32 : decode cX1_init 32 = .ok (.putfield 26, 3) := by decide +kernel
theorem dX1_init_35 : decode cX1_init 35 = .ok (.aload_n 0, 1) := by decide +kernel
theorem dX1_init_36 : decode cX1_init 36 = .ok (.bipush 12, 2) := by decide +kernel
theorem dX1_init_38 : decode cX1_init 38 = .ok (.newarray .int, 2) := by decide +kernel
theorem dX1_init_40 : decode cX1_init 40 = .ok (.putfield 29, 3) := by decide +kernel
theorem dX1_init_43 : decode cX1_init 43 = .ok (.aload_n 0, 1) := by decide +kernel
theorem dX1_init_44 : decode cX1_init 44 = .ok (.bipush 12, 2) := by decide +kernel
theorem dX1_init_46 : decode cX1_init 46 = .ok (.newarray .int, 2) := by decide +kernel
theorem dX1_init_48 : decode cX1_init 48 = .ok (.putfield 32, 3) := by decide +kernel
theorem dX1_init_51 : decode cX1_init 51 = .ok (.aload_n 0, 1) := by decide +kernel
theorem dX1_init_52 : decode cX1_init 52 = .ok (.bipush 12, 2) := by decide +kernel
theorem dX1_init_54 : decode cX1_init 54 = .ok (.bipush 22, 2) := by decide +kernel
theorem dX1_init_56 : decode cX1_init 56 = .ok (.multianewarray 35 2, 4) := by decide +kernel
theorem dX1_init_60 : decode cX1_init 60 = .ok (.putfield 37, 3) := by decide +kernel
theorem dX1_init_63 : decode cX1_init 63 = .ok (.aload_n 0, 1) := by decide +kernel
theorem dX1_init_64 : decode cX1_init 64 = .ok (.bipush 12, 2) := by decide +kernel
theorem dX1_init_66 : decode cX1_init 66 = .ok (.bipush 22, 2) := by decide +kernel
theorem dX1_init_68 : decode cX1_init 68 = .ok (.multianewarray 35 2, 4) := by decide +kernel
theorem dX1_init_72 : decode cX1_init 72 = .ok (.putfield 40, 3) := by decide +kernel
theorem dX1_init_75 : decode cX1_init 75 = .ok (.return_, 1) := by decide +kernel
theorem dX1_findAll_0 : decode cX1_findAll 0 = .ok (.aload_n 0, 1) := by decide +kernel
theorem dX1_findAll_1 : decode cX1_findAll 1 = .ok (.getfield 9, 3) := by decide +kernel
theorem dX1_findAll_4 : decode cX1_findAll 4 = .ok (.ifCond .eq 4, 3) := by decide +kernel
theorem dX1_findAll_7 : decode cX1_findAll 7 = .ok (.return_, 1) := by decide +kernel
theorem dX1_findAll_8 : decode cX1_findAll 8 = .ok (.aload_n 0, 1) := by decide +kernel
theorem dX1_findAll_9 : decode cX1_findAll 9 = .ok (.aload_n 1, 1) := by decide +kernel
theorem dX1_findAll_10 : decode cX1_findAll 10 = .ok (.invokevirtual 43, 3) := by decide +kernel
theorem dX1_findAll_13 : decode cX1_findAll 13 = .ok (.aload_n 0, 1) := by decide +kernel
theorem dX1_findAll_14 : decode cX1_findAll 14 = .ok (.iconst 0, 1) := by decide +kernel
theorem dX1_findAll_15 : decode cX1_findAll 15 = .ok (.putfield 15, 3) := by decide +kernel
theorem dX1_findAll_18 : decode cX1_findAll 18 = .ok (.iconst 0, 1) := by decide +kernel
theorem dX1_findAll_19 : decode cX1_findAll 19 = .ok (.istore_n 2, 1) := by decide +kernel
theorem dX1_findAll_20 : decode cX1_findAll 20 = .ok (.aload_n 0, 1) := by decide +kernel
theorem dX1_findAll_21 : decode cX1_findAll 21 = .ok (.iconst 0, 1) := by decide +kernel
theorem dX1_findAll_22 : decode cX1_findAll 22 = .ok (.invokevirtual 47, 3) := by decide +kernel
theorem dX1_findAll_25 : decode cX1_findAll 25 = .ok (.iconst 0, 1) := by decide +kernel
theorem dX1_findAll_26 : decode cX1_findAll 26 = .ok (.istore_n 3, 1) := by decide +kernel
theorem dX1_findAll_27 : decode cX1_findAll 27 = .ok (.iload_n 3, 1) := by decide +kernel
theorem dX1_findAll_28 : decode cX1_findAll 28 = .ok (.ldc 51, 2) := by decide +kernel
theorem dX1_findAll_30 : decode cX1_findAll 30 = .ok (.if_icmp .ge 64, 3) := by decide +kernel
theorem dX1_findAll_33 : decode cX1_findAll 33 = .ok (.iload_n 2, 1) := by decide +kernel
theorem dX1_findAll_34 : decode cX1_findAll 34 = .ok (.ifCond .lt 60, 3) := by decide +kernel
theorem dX1_findAll_37 : decode cX1_findAll 37 = .ok (.iconst 2, 1) := by decide +kernel
theorem dX1_findAll_38 : decode cX1_findAll 38 = .ok (.iload_n 2, 1) := by decide +kernel
theorem dX1_findAll_39 : decode cX1_findAll 39 = .ok (.imul, 1) := by decide +kernel
theorem dX1_findAll_40 : decode cX1_findAll 40 = .ok (.aload_n 0, 1) := by decide +kernel
theorem dX1_findAll_41 : decode cX1_findAll 41 = .ok (.getfield 23, 3) := by decide +kernel
theorem dX1_findAll_44 : decode cX1_findAll 44 = .ok (.if_icmp .ge 22, 3) := by decide +kernel
theorem dX1_findAll_47 : decode cX1_findAll 47 = .ok (.aload_n 0, 1) := by decide +kernel
theorem dX1_findAll_48 : decode cX1_findAll 48 = .ok (.iload_n 2, 1) := by decide +kernel
theorem dX1_findAll_49 : decode cX1_findAll 49 = .ok (.invokevirtual 52, 3) := by decide +kernel
theorem dX1_findAll_52 : decode cX1_findAll 52 = .ok (.ifCond .eq 14, 3) := by decide +kernel
theorem dX1_findAll_55 : decode cX1_findAll 55 = .ok (.iinc 2 1, 3) := by decide +kernel
theorem dX1_findAll_58 : decode cX1_findAll 58 = .ok (.aload_n 0, 1) := by decide +kernel
theorem dX1_findAll_59 : decode cX1_findAll 59 = .ok (.iload_n 2, 1) := by decide +kernel
theorem dX1_findAll_60 : decode cX1_findAll 60 = .ok (.invokevirtual 47, 3) := by decide +kernel
theorem dX1_findAll_63 : decode cX1_findAll 63 = .ok (.goto 25, 3) := by decide +kernel
theorem dX1_findAll_66 : decode cX1_findAll 66 = .ok (.iconst 2, 1) := by decide +kernel
theorem dX1_findAll_67 : decode cX1_findAll 67 = .ok (.iload_n 2, 1) := by decide +kernel
theorem dX1_findAll_68 : decode cX1_findAll 68 = .ok (.imul, 1) := by decide +kernel
theorem dX1_findAll_69 : decode cX1_findAll 69 = .ok (.aload_n 0, 1) := by decide +kernel
theorem dX1_findAll_70 : decode cX1_findAll 70 = .ok (.getfield 23, 3) := by decide +kernel
theorem dX1_findAll_73 : decode cX1_findAll 73 = .ok (.if_icmp .ne 7, 3) := by decide +kernel
theorem dX1_findAll_76 : decode cX1_findAll 76 = .ok (.aload_n 0, 1) := by decide +kernel
theorem dX1_findAll_77 : decode cX1_findAll 77 = .ok (.invokevirtual 56, 3) := by decide +kernel
theorem dX1_findAll_80 : decode cX1_findAll 80 = .ok (.iinc 2 (-1), 3) := by decide +kernel
theorem dX1_findAll_83 : decode cX1_findAll 83 = .ok (.aload_n 0, 1) := by decide +kernel
theorem dX1_findAll_84 : decode cX1_findAll 84 = .ok (.iload_n 2, 1) := by decide +kernel
theorem dX1_findAll_85 : decode cX1_findAll 85 = .ok (.invokevirtual 59, 3) := by decide +kernel
theorem dX1_findAll_88 : decode cX1_findAll 88 = .ok (.iinc 3 1, 3) := by decide +kernel
theorem dX1_findAll_91 : decode cX1_findAll 91 = .ok (.goto (-64), 3) := by decide +kernel
theorem dX1_findAll_94 : decode cX1_findAll 94 = .ok (.aload_n 0, 1) := by decide +kernel
theorem dX1_findAll_95 : decode cX1_findAll 95 = .ok (.iconst 1, 1) := by decide +kernel
theorem dX1_findAll_96 : decode cX1_findAll 96 = .ok (.putfield 9, 3) := by decide +kernel
theorem dX1_findAll_99 : decode cX1_findAll 99 = .ok (.return_, 1) := by decide +kernel
theorem dX1_begin_0 : decode cX1_begin 0 = .ok (.aload_n 0, 1) := by decide +kernel
theorem dX1_begin_1 : decode cX1_begin 1 = .ok (.aload_n 1, 1) := by decide +kernel
theorem dX1_begin_2 : decode cX1_begin 2 = .ok (.getfield 62, 3) := by decide +kernel
theorem dX1_begin_5 : decode cX1_begin 5 = .ok (.bipush 22, 2) := by decide +kernel
theorem dX1_begin_7 : decode cX1_begin 7 = .ok (.invokestatic 65, 3) := by decide +kernel
theorem dX1_begin_10 : decode cX1_begin 10 = .ok (.putfield 23, 3) := by decide +kernel
theorem dX1_begin_13 : decode cX1_begin 13 = .ok (.iconst 0, 1) := by decide +kernel
theorem dX1_begin_14 : decode cX1_begin 14 = .ok (.istore_n 2, 1) := by decide +kernel
theorem dX1_begin_15 : decode cX1_begin 15 = .ok (.iload_n 2, 1) := by decide +kernel
theorem dX1_begin_16 : decode cX1_begin 16 = .ok (.aload_n 0, 1) := by decide +kernel
theorem dX1_begin_17 : decode cX1_begin 17 = .ok (.getfield 23, 3) := by decide +kernel
theorem dX1_begin_20 : decode cX1_begin 20 = .ok (.if_icmp .ge 39, 3) := by decide +kernel
theorem dX1_begin_23 : decode cX1_begin 23 = .ok (.aload_n 0, 1) := by decide +kernel
theorem dX1_begin_24 : decode cX1_begin 24 = .ok (.getfield 19, 3) := by decide +kernel
theorem dX1_begin_27 : decode cX1_begin 27 = .ok (.iload_n 2, 1) := by decide +kernel
theorem dX1_begin_28 : decode cX1_begin 28 = .ok (.iconst (-1), 1) := by decide +kernel
theorem dX1_begin_29 : decode cX1_begin 29 = .ok (.iastore, 1) := by decide +kernel
theorem dX1_begin_30 : decode cX1_begin 30 = .ok (.aload_n 0, 1) := by decide +kernel
theorem dX1_begin_31 : decode cX1_begin 31 = .ok (.getfield 37, 3) := by decide +kernel
theorem dX1_begin_34 : decode cX1_begin 34 = .ok (.iconst 0, 1) := by decide +kernel
theorem dX1_begin_35 : decode cX1_begin 35 = .ok (.aaload, 1) := by decide +kernel
theorem dX1_begin_36 : decode cX1_begin 36 = .ok (.iload_n 2, 1) := by decide +kernel
theorem dX1_begin_37 : decode cX1_begin 37 = .ok (.iload_n 2, 1) := by decide +kernel
theorem dX1_begin_38 : decode cX1_begin 38 = .ok (.iastore, 1) := by decide +kernel
theorem dX1_begin_39 : decode cX1_begin 39 = .ok (.aload_n 0, 1) := by decide +kernel
theorem dX1_begin_40 : decode cX1_begin 40 = .ok (.getfield 40, 3) := by decide +kernel
theorem dX1_begin_43 : decode cX1_begin 43 = .ok (.iconst 0, 1) := by decide +kernel
theorem dX1_begin_44 : decode cX1_begin 44 = .ok (.aaload, 1) := by decide +kernel
theorem dX1_begin_45 : decode cX1_begin 45 = .ok (.iload_n 2, 1) := by decide +kernel
theorem dX1_begin_46 : decode cX1_begin 46 = .ok (.aload_n 1, 1) := by decide +kernel
theorem dX1_begin_47 : decode cX1_begin 47 = .ok (.getfield 71, 3) := by decide +kernel
theorem dX1_begin_50 : decode cX1_begin 50 = .ok (.iload_n 2, 1) := by decide +kernel
theorem dX1_begin_51 : decode cX1_begin 51 = .ok (.iaload, 1) := by decide +kernel
theorem dX1_begin_52 : decode cX1_begin 52 = .ok (.iastore, 1) := by decide +kernel
theorem dX1_begin_53 : decode cX1_begin 53 = .ok (.iinc 2 1, 3) := by decide +kernel
theorem dX1_begin_56 : decode cX1_begin 56 = .ok (.goto (-41), 3) := by decide +kernel
theorem dX1_begin_59 : decode cX1_begin 59 = .ok (.return_, 1) := by decide +kernel
theorem dX1_open_0 : decode cX1_open 0 = .ok (.iconst 0, 1) := by decide +kernel
theorem dX1_open_1 : decode cX1_open 1 = .ok (.istore_n 2, 1) := by decide +kernel
theorem dX1_open_2 : decode cX1_open 2 = .ok (.iload_n 2, 1) := by decide +kernel
theorem dX1_open_3 : decode cX1_open 3 = .ok (.aload_n 0, 1) := by decide +kernel
theorem dX1_open_4 : decode cX1_open 4 = .ok (.getfield 23, 3) := by decide +kernel
theorem dX1_open_7 : decode cX1_open 7 = .ok (.iconst 1, 1) := by decide +kernel
theorem dX1_open_8 : decode cX1_open 8 = .ok (.isub, 1) := by decide +kernel
theorem dX1_open_9 : decode cX1_open 9 = .ok (.if_icmp .ge 19, 3) := by decide +kernel
theorem dX1_open_12 : decode cX1_open 12 = .ok (.aload_n 0, 1) := by decide +kernel
theorem dX1_open_13 : decode cX1_open 13 = .ok (.getfield 19, 3) := by decide +kernel
theorem dX1_open_16 : decode cX1_open 16 = .ok (.iload_n 2, 1) := by decide +kernel
theorem dX1_open_17 : decode cX1_open 17 = .ok (.iaload, 1) := by decide +kernel
theorem dX1_open_18 : decode cX1_open 18 = .ok (.iconst (-1), 1) := by decide +kernel
theorem dX1_open_19 : decode cX1_open 19 = .ok (.if_icmp .eq 9, 3) := by decide +kernel
theorem dX1_open_22 : decode cX1_open 22 = .ok (.iinc 2 1, 3) := by decide +kernel
theorem dX1_open_25 : decode cX1_open 25 = .ok (.goto (-23), 3) := by decide +kernel
theorem dX1_open_28 : decode cX1_open 28 = .ok (.aload_n 0, 1) := by decide +kernel
theorem dX1_open_29 : decode cX1_open 29 = .ok (.getfield 29, 3) := by decide +kernel
theorem dX1_open_32 : decode cX1_open 32 = .ok (.iload_n 1, 1) := by decide +kernel
theorem dX1_open_33 : decode cX1_open 33 = .ok (.iload_n 2, 1) := by decide +kernel
theorem dX1_open_34 : decode cX1_open 34 = .ok (.iastore, 1) := by decide +kernel
theorem dX1_open_35 : decode cX1_open 35 = .ok (.aload_n 0, 1) := by decide +kernel
theorem dX1_open_36 : decode cX1_open 36 = .ok (.getfield 32, 3) := by decide +kernel
theorem dX1_open_39 : decode cX1_open 39 = .ok (.iload_n 1, 1) := by decide +kernel
theorem dX1_open_40 : decode cX1_open 40 = .ok (.iload_n 2, 1) := by decide +kernel
theorem dX1_open_41 : decode cX1_open 41 = .ok (.iconst 1, 1) := by decide +kernel
theorem dX1_open_42 : decode cX1_open 42 = .ok (.isub, 1) := by decide +kernel
theorem dX1_open_43 : decode cX1_open 43 = .ok (.iastore, 1) := by decide +kernel
theorem dX1_open_44 : decode cX1_open 44 = .ok (.return_, 1) := by decide +kernel
theorem dX1_takeUp_0 : decode cX1_takeUp 0 = .ok (.iload_n 1, 1) := by decide +kernel
theorem dX1_takeUp_1 : decode cX1_takeUp 1 = .ok (.ifCond .lt 27, 3) := by decide +kernel
theorem dX1_takeUp_4 : decode cX1_takeUp 4 = .ok (.aload_n 0, 1) := by decide +kernel
theorem dX1_takeUp_5 : decode cX1_takeUp 5 = .ok (.getfield 19, 3) := by decide +kernel
theorem dX1_takeUp_8 : decode cX1_takeUp 8 = .ok (.aload_n 0, 1) := by decide +kernel
theorem dX1_takeUp_9 : decode cX1_takeUp 9 = .ok (.getfield 29, 3) := by decide +kernel
theorem dX1_takeUp_12 : decode cX1_takeUp 12 = .ok (.iload_n 1, 1) := by decide +kernel
theorem dX1_takeUp_13 : decode cX1_takeUp 13 = .ok (.iaload, 1) := by decide +kernel
theorem dX1_takeUp_14 : decode cX1_takeUp 14 = .ok (.iconst (-1), 1) := by decide +kernel
theorem dX1_takeUp_15 : decode cX1_takeUp 15 = .ok (.iastore, 1) := by decide +kernel
theorem dX1_takeUp_16 : decode cX1_takeUp 16 = .ok (.aload_n 0, 1) := by decide +kernel
theorem dX1_takeUp_17 : decode cX1_takeUp 17 = .ok (.getfield 19, 3) := by decide +kernel
theorem dX1_takeUp_20 : decode cX1_takeUp 20 = .ok (.aload_n 0, 1) := by decide +kernel
theorem dX1_takeUp_21 : decode cX1_takeUp 21 = .ok (.getfield 32, 3) := by decide +kernel
theorem dX1_takeUp_24 : decode cX1_takeUp 24 = .ok (.iload_n 1, 1) := by decide +kernel
theorem dX1_takeUp_25 : decode cX1_takeUp 25 = .ok (.iaload, 1) := by decide +kernel
theorem dX1_takeUp_26 : decode cX1_takeUp 26 = .ok (.iconst (-1), 1) := by decide +kernel
theorem dX1_takeUp_27 : decode cX1_takeUp 27 = .ok (.iastore, 1) := by decide +kernel
theorem dX1_takeUp_28 : decode cX1_takeUp 28 = .ok (.return_, 1) := by decide +kernel
theorem dX1_glueNext_0 : decode cX1_glueNext 0 = .ok (.aload_n 0, 1) := by decide +kernel
theorem dX1_glueNext_1 : decode cX1_glueNext 1 = .ok (.getfield 29, 3) := by decide +kernel
theorem dX1_glueNext_4 : decode cX1_glueNext 4 = .ok (.iload_n 1, 1) := by decide +kernel
theorem dX1_glueNext_5 : decode cX1_glueNext 5 = .ok (.iaload, 1) := by decide +kernel
theorem dX1_glueNext_6 : decode cX1_glueNext 6 = .ok (.istore_n 2, 1) := by decide +kernel
theorem dX1_glueNext_7 : decode cX1_glueNext 7 = .ok (.aload_n 0, 1) := by decide +kernel
theorem dX1_glueNext_8 : decode cX1_glueNext 8 = .ok (.getfield 32, 3) := by decide +kernel
theorem dX1_glueNext_11 : decode cX1_glueNext 11 = .ok (.iload_n 1, 1) := by decide +kernel
theorem dX1_glueNext_12 : decode cX1_glueNext 12 = .ok (.iaload, 1) := by decide +kernel
theorem dX1_glueNext_13 : decode cX1_glueNext 13 = .ok (.iconst 2, 1) := by decide +kernel
theorem dX1_glueNext_14 : decode cX1_glueNext 14 = .ok (.iadd, 1) := by decide +kernel
theorem dX1_glueNext_15 : decode cX1_glueNext 15 = .ok (.istore_n 3, 1) := by decide +kernel
theorem dX1_glueNext_16 : decode cX1_glueNext 16 = .ok (.iload_n 3, 1) := by decide +kernel
theorem dX1_glueNext_17 : decode cX1_glueNext 17 = .ok (.aload_n 0, 1) := by decide +kernel
theorem dX1_glueNext_18 : decode cX1_glueNext 18 = .ok (.getfield 23, 3) := by decide +kernel
theorem dX1_glueNext_21 : decode cX1_glueNext 21 = .ok (.if_icmp .ge 112, 3) := by decide +kernel
theorem dX1_glueNext_24 : decode cX1_glueNext 24 = .ok (.aload_n 0, 1) := by decide +kernel
theorem dX1_glueNext_25 : decode cX1_glueNext 25 = .ok (.getfield 19, 3) := by decide +kernel
theorem dX1_glueNext_28 : decode cX1_glueNext 28 = .ok (.iload_n 3, 1) := by decide +kernel
theorem dX1_glueNext_29 : decode cX1_glueNext 29 = .ok (.iconst 1, 1) := by decide +kernel
theorem dX1_glueNext_30 : decode cX1_glueNext 30 = .ok (.isub, 1) := by decide +kernel
theorem dX1_glueNext_31 : decode cX1_glueNext 31 = .ok (.iaload, 1) := by decide +kernel
theorem dX1_glueNext_32 : decode cX1_glueNext 32 = .ok (.iconst (-1), 1) := by decide +kernel
theorem dX1_glueNext_33 : decode cX1_glueNext 33 = .ok (.if_icmp .ne 100, 3) := by decide +kernel
theorem dX1_glueNext_36 : decode cX1_glueNext 36 = .ok (.aload_n 0, 1) := by decide +kernel
theorem dX1_glueNext_37 : decode cX1_glueNext 37 = .ok (.getfield 37, 3) := by decide +kernel
theorem dX1_glueNext_40 : decode cX1_glueNext 40 = .ok (.iload_n 1, 1) := by decide +kernel
theorem dX1_glueNext_41 : decode cX1_glueNext 41 = .ok (.aaload, 1) := by decide +kernel
theorem dX1_glueNext_42 : decode cX1_glueNext 42 = .ok (.iconst 0, 1) := by decide +kernel
theorem dX1_glueNext_43 : decode cX1_glueNext 43 = .ok (.aload_n 0, 1) := by decide +kernel
theorem dX1_glueNext_44 : decode cX1_glueNext 44 = .ok (.getfield 37, 3) := by decide +kernel
theorem dX1_glueNext_47 : decode cX1_glueNext 47 = .ok (.iload_n 1, 1) := by decide +kernel
theorem dX1_glueNext_48 : decode cX1_glueNext 48 = .ok (.iconst 1, 1) := by decide +kernel
theorem dX1_glueNext_49 : decode cX1_glueNext 49 = .ok (.iadd, 1) := by decide +kernel
theorem dX1_glueNext_50 : decode cX1_glueNext 50 = .ok (.aaload, 1) := by decide +kernel
theorem dX1_glueNext_51 : decode cX1_glueNext 51 = .ok (.iconst 0, 1) := by decide +kernel
theorem dX1_glueNext_52 : decode cX1_glueNext 52 = .ok (.aload_n 0, 1) := by decide +kernel
theorem dX1_glueNext_53 : decode cX1_glueNext 53 = .ok (.getfield 23, 3) := by decide +kernel
theorem dX1_glueNext_56 : decode cX1_glueNext 56 = .ok (.invokestatic 74, 3) := by decide +kernel
theorem dX1_glueNext_59 : decode cX1_glueNext 59 = .ok (.aload_n 0, 1) := by decide +kernel
theorem dX1_glueNext_60 : decode cX1_glueNext 60 = .ok (.getfield 40, 3) := by decide +kernel
theorem dX1_glueNext_63 : decode cX1_glueNext 63 = .ok (.iload_n 1, 1) := by decide +kernel
theorem dX1_glueNext_64 : decode cX1_glueNext 64 = .ok (.aaload, 1) := by decide +kernel
theorem dX1_glueNext_65 : decode cX1_glueNext 65 = .ok (.iconst 0, 1) := by decide +kernel
theorem dX1_glueNext_66 : decode cX1_glueNext 66 = .ok (.aload_n 0, 1) := by decide +kernel
theorem dX1_glueNext_67 : decode cX1_glueNext 67 = .ok (.getfield 40, 3) := by decide +kernel
theorem dX1_glueNext_70 : decode cX1_glueNext 70 = .ok (.iload_n 1, 1) := by decide +kernel
theorem dX1_glueNext_71 : decode cX1_glueNext 71 = .ok (.iconst 1, 1) := by decide +kernel
theorem dX1_glueNext_72 : decode cX1_glueNext 72 = .ok (.iadd, 1) := by decide +kernel
theorem dX1_glueNext_73 : decode cX1_glueNext 73 = .ok (.aaload, 1) := by decide +kernel
theorem dX1_glueNext_74 : decode cX1_glueNext 74 = .ok (.iconst 0, 1) := by decide +kernel
theorem dX1_glueNext_75 : decode cX1_glueNext 75 = .ok (.aload_n 0, 1) := by decide +kernel
theorem dX1_glueNext_76 : decode cX1_glueNext 76 = .ok (.getfield 23, 3) := by decide +kernel
theorem dX1_glueNext_79 : decode cX1_glueNext 79 = .ok (.invokestatic 74, 3) := by decide +kernel
theorem dX1_glueNext_82 : decode cX1_glueNext 82 = .ok (.aload_n 0, 1) := by decide +kernel
theorem dX1_glueNext_83 : decode cX1_glueNext 83 = .ok (.getfield 19, 3) := by decide +kernel
theorem dX1_glueNext_86 : decode cX1_glueNext 86 = .ok (.iload_n 3, 1) := by decide +kernel
theorem dX1_glueNext_87 : decode cX1_glueNext 87 = .ok (.iaload, 1) := by decide +kernel
theorem dX1_glueNext_88 : decode cX1_glueNext 88 = .ok (.iconst (-1), 1) := by decide +kernel
theorem dX1_glueNext_89 : decode cX1_glueNext 89 = .ok (.if_icmp .ne 38, 3) := by decide +kernel
theorem dX1_glueNext_92 : decode cX1_glueNext 92 = .ok (.aload_n 0, 1) := by decide +kernel
theorem dX1_glueNext_93 : decode cX1_glueNext 93 = .ok (.iload_n 1, 1) := by decide +kernel
theorem dX1_glueNext_94 : decode cX1_glueNext 94 = .ok (.iconst 1, 1) := by decide +kernel
theorem dX1_glueNext_95 : decode cX1_glueNext 95 = .ok (.iadd, 1) := by decide +kernel
theorem dX1_glueNext_96 : decode cX1_glueNext 96 = .ok (.iload_n 2, 1) := by decide +kernel
theorem dX1_glueNext_97 : decode cX1_glueNext 97 = .ok (.iload_n 3, 1) := by decide +kernel
theorem dX1_glueNext_98 : decode cX1_glueNext 98 = .ok (.invokevirtual 80, 3) := by decide +kernel
theorem dX1_glueNext_101 : decode cX1_glueNext 101 = .ok (.ifCond .eq 26, 3) := by decide +kernel
theorem dX1_glueNext_104 : decode cX1_glueNext 104 = .ok (.aload_n 0, 1) := by decide +kernel
theorem dX1_glueNext_105 : decode cX1_glueNext 105 = .ok (.getfield 19, 3) := by decide +kernel
theorem dX1_glueNext_108 : decode cX1_glueNext 108 = .ok (.iload_n 2, 1) := by decide +kernel
theorem dX1_glueNext_109 : decode cX1_glueNext 109 = .ok (.iload_n 3, 1) := by decide +kernel
theorem dX1_glueNext_110 : decode cX1_glueNext 110 = .ok (.iastore, 1) := by decide +kernel
theorem dX1_glueNext_111 : decode cX1_glueNext 111 = .ok (.aload_n 0, 1) := by decide +kernel
theorem dX1_glueNext_112 : decode cX1_glueNext 112 = .ok (.getfield 19, 3) := by decide +kernel
theorem dX1_glueNext_115 : decode cX1_glueNext 115 = .ok (.iload_n 3, 1) := by decide +kernel
theorem dX1_glueNext_116 : decode cX1_glueNext 116 = .ok (.iload_n 2, 1) := by decide +kernel
theorem dX1_glueNext_117 : decode cX1_glueNext 117 = .ok (.iastore, 1) := by decide +kernel
theorem dX1_glueNext_118 : decode cX1_glueNext 118 = .ok (.aload_n 0, 1) := by decide +kernel
theorem dX1_glueNext_119 : decode cX1_glueNext 119 = .ok (.getfield 32, 3) := by decide +kernel
theorem dX1_glueNext_122 : decode cX1_glueNext 122 = .ok (.iload_n 1, 1) := by decide +kernel
theorem dX1_glueNext_123 : decode cX1_glueNext 123 = .ok (.iload_n 3, 1) := by decide +kernel
theorem dX1_glueNext_124 : decode cX1_glueNext 124 = .ok (.iastore, 1) := by decide +kernel
theorem dX1_glueNext_125 : decode cX1_glueNext 125 = .ok (.iconst 1, 1) := by decide +kernel
theorem dX1_glueNext_126 : decode cX1_glueNext 126 = .ok (.ireturn, 1) := by decide +kernel
theorem dX1_glueNext_127 : decode cX1_glueNext 127 = .ok (.iinc 3 2, 3) := by decide +kernel
theorem dX1_glueNext_130 : decode cX1_glueNext 130 = .ok (.goto (-114), 3) := by decide +kernel
theorem dX1_glueNext_133 : decode cX1_glueNext 133 = .ok (.iconst 0, 1) := by decide +kernel
theorem dX1_glueNext_134 : decode cX1_glueNext 134 = .ok (.ireturn, 1) := by decide +kernel
theorem dX1_store_0 : decode cX1_store 0 = .ok (.aload_n 0, 1) := by decide +kernel
theorem dX1_store_1 : decode cX1_store 1 = .ok (.getfield 15, 3) := by decide +kernel
theorem dX1_store_4 : decode cX1_store 4 = .ok (.bipush 64, 2) := by decide +kernel
theorem dX1_store_6 : decode cX1_store 6 = .ok (.if_icmp .ge 30, 3) := by decide +kernel
theorem dX1_store_9 : decode cX1_store 9 = .ok (.aload_n 0, 1) := by decide +kernel
theorem dX1_store_10 : decode cX1_store 10 = .ok (.getfield 26, 3) := by decide +kernel
theorem dX1_store_13 : decode cX1_store 13 = .ok (.aload_n 0, 1) := by decide +kernel
theorem dX1_store_14 : decode cX1_store 14 = .ok (.getfield 15, 3) := by decide +kernel
theorem dX1_store_17 : decode cX1_store 17 = .ok (.aload_n 0, 1) := by decide +kernel
theorem dX1_store_18 : decode cX1_store 18 = .ok (.aload_n 0, 1) := by decide +kernel
theorem dX1_store_19 : decode cX1_store 19 = .ok (.getfield 19, 3) := by decide +kernel
theorem dX1_store_22 : decode cX1_store 22 = .ok (.invokevirtual 84, 3) := by decide +kernel
theorem dX1_store_25 : decode cX1_store 25 = .ok (.iastore, 1) := by decide +kernel
theorem dX1_store_26 : decode cX1_store 26 = .ok (.aload_n 0, 1) := by decide +kernel
theorem dX1_store_27 : decode cX1_store 27 = .ok (.dup, 1) := by decide +kernel
theorem dX1_store_28 : decode cX1_store 28 = .ok (.getfield 15, 3) := by decide +kernel
theorem dX1_store_31 : decode cX1_store 31 = .ok (.iconst 1, 1) := by decide +kernel
theorem dX1_store_32 : decode cX1_store 32 = .ok (.iadd, 1) := by decide +kernel
theorem dX1_store_33 : decode cX1_store 33 = .ok (.putfield 15, 3) := by decide +kernel
theorem dX1_store_36 : decode cX1_store 36 = .ok (.return_, 1) := by decide +kernel
theorem dX1_wordOf_0 : decode cX1_wordOf 0 = .ok (.iconst 0, 1) := by decide +kernel
theorem dX1_wordOf_1 : decode cX1_wordOf 1 = .ok (.istore_n 2, 1) := by decide +kernel
theorem dX1_wordOf_2 : decode cX1_wordOf 2 = .ok (.iconst 0, 1) := by decide +kernel
theorem dX1_wordOf_3 : decode cX1_wordOf 3 = .ok (.istore_n 3, 1) := by decide +kernel
theorem dX1_wordOf_4 : decode cX1_wordOf 4 = .ok (.iload_n 3, 1) := by decide +kernel
theorem dX1_wordOf_5 : decode cX1_wordOf 5 = .ok (.aload_n 0, 1) := by decide +kernel
theorem dX1_wordOf_6 : decode cX1_wordOf 6 = .ok (.getfield 23, 3) := by decide +kernel
theorem dX1_wordOf_9 : decode cX1_wordOf 9 = .ok (.if_icmp .ge 22, 3) := by decide +kernel
theorem dX1_wordOf_12 : decode cX1_wordOf 12 = .ok (.aload_n 1, 1) := by decide +kernel
theorem dX1_wordOf_13 : decode cX1_wordOf 13 = .ok (.iload_n 3, 1) := by decide +kernel
theorem dX1_wordOf_14 : decode cX1_wordOf 14 = .ok (.iaload, 1) := by decide +kernel
theorem dX1_wordOf_15 : decode cX1_wordOf 15 = .ok (.iload_n 3, 1) := by decide +kernel
theorem dX1_wordOf_16 : decode cX1_wordOf 16 = .ok (.if_icmp .le 9, 3) := by decide +kernel
theorem dX1_wordOf_19 : decode cX1_wordOf 19 = .ok (.iload_n 2, 1) := by decide +kernel
theorem dX1_wordOf_20 : decode cX1_wordOf 20 = .ok (.iconst 1, 1) := by decide +kernel
theorem dX1_wordOf_21 : decode cX1_wordOf 21 = .ok (.iload_n 3, 1) := by decide +kernel
theorem dX1_wordOf_22 : decode cX1_wordOf 22 = .ok (.ishl, 1) := by decide +kernel
theorem dX1_wordOf_23 : decode cX1_wordOf 23 = .ok (.ior, 1) := by decide +kernel
theorem dX1_wordOf_24 : decode cX1_wordOf 24 = .ok (.istore_n 2, 1) := by decide +kernel
theorem dX1_wordOf_25 : decode cX1_wordOf 25 = .ok (.iinc 3 1, 3) := by decide +kernel
theorem dX1_wordOf_28 : decode cX1_wordOf 28 = .ok (.goto (-24), 3) := by decide +kernel
theorem dX1_wordOf_31 : decode cX1_wordOf 31 = .ok (.iload_n 2, 1) := by decide +kernel
theorem dX1_wordOf_32 : decode cX1_wordOf 32 = .ok (.ireturn, 1) := by decide +kernel
theorem dX1_glueTwo_0 : decode cX1_glueTwo 0 = .ok (.iload_n 3, 1) := by decide +kernel
theorem dX1_glueTwo_1 : decode cX1_glueTwo 1 = .ok (.iconst 1, 1) := by decide +kernel
theorem dX1_glueTwo_2 : decode cX1_glueTwo 2 = .ok (.iadd, 1) := by decide +kernel
theorem dX1_glueTwo_3 : decode cX1_glueTwo 3 = .ok (.aload_n 0, 1) := by decide +kernel
theorem dX1_glueTwo_4 : decode cX1_glueTwo 4 = .ok (.getfield 23, 3) := by decide +kernel
theorem dX1_glueTwo_7 : decode cX1_glueTwo 7 = .ok (.if_icmp .ge 9, 3) := by decide +kernel
theorem dX1_glueTwo_10 : decode cX1_glueTwo 10 = .ok (.iload_n 3, 1) := by decide +kernel
theorem dX1_glueTwo_11 : decode cX1_glueTwo 11 = .ok (.iconst 1, 1) := by decide +kernel
theorem dX1_glueTwo_12 : decode cX1_glueTwo 12 = .ok (.iadd, 1) := by decide +kernel
theorem dX1_glueTwo_13 : decode cX1_glueTwo 13 = .ok (.goto 4, 3) := by decide +kernel
theorem dX1_glueTwo_16 : decode cX1_glueTwo 16 = .ok (.iconst 0, 1) := by decide +kernel
theorem dX1_glueTwo_17 : decode cX1_glueTwo 17 = .ok (.istore 4, 2) := by decide +kernel
theorem dX1_glueTwo_19 : decode cX1_glueTwo 19 = .ok (.aload_n 0, 1) := by decide +kernel
theorem dX1_glueTwo_20 : decode cX1_glueTwo 20 = .ok (.iload_n 1, 1) := by decide +kernel
theorem dX1_glueTwo_21 : decode cX1_glueTwo 21 = .ok (.iload_n 2, 1) := by decide +kernel
theorem dX1_glueTwo_22 : decode cX1_glueTwo 22 = .ok (.iload 4, 2) := by decide +kernel
theorem dX1_glueTwo_24 : decode cX1_glueTwo 24 = .ok (.invokevirtual 88, 3) := by decide +kernel
theorem dX1_glueTwo_27 : decode cX1_glueTwo 27 = .ok (.ifCond .eq 19, 3) := by decide +kernel
theorem dX1_glueTwo_30 : decode cX1_glueTwo 30 = .ok (.aload_n 0, 1) := by decide +kernel
theorem dX1_glueTwo_31 : decode cX1_glueTwo 31 = .ok (.iload_n 1, 1) := by decide +kernel
theorem dX1_glueTwo_32 : decode cX1_glueTwo 32 = .ok (.iload_n 2, 1) := by decide +kernel
theorem dX1_glueTwo_33 : decode cX1_glueTwo 33 = .ok (.iconst 1, 1) := by decide +kernel
theorem dX1_glueTwo_34 : decode cX1_glueTwo 34 = .ok (.iadd, 1) := by decide +kernel
theorem dX1_glueTwo_35 : decode cX1_glueTwo 35 = .ok (.iload_n 3, 1) := by decide +kernel
theorem dX1_glueTwo_36 : decode cX1_glueTwo 36 = .ok (.invokevirtual 88, 3) := by decide +kernel
theorem dX1_glueTwo_39 : decode cX1_glueTwo 39 = .ok (.ifCond .eq 7, 3) := by decide +kernel
theorem dX1_glueTwo_42 : decode cX1_glueTwo 42 = .ok (.iconst 1, 1) := by decide +kernel
theorem dX1_glueTwo_43 : decode cX1_glueTwo 43 = .ok (.goto 4, 3) := by decide +kernel
theorem dX1_glueTwo_46 : decode cX1_glueTwo 46 = .ok (.iconst 0, 1) := by decide +kernel
theorem dX1_glueTwo_47 : decode cX1_glueTwo 47 = .ok (.ireturn, 1) := by decide +kernel
theorem dX1_makeOne_0 : decode cX1_makeOne 0 = .ok (.aload_n 0, 1) := by decide +kernel
theorem dX1_makeOne_1 : decode cX1_makeOne 1 = .ok (.getfield 37, 3) := by decide +kernel
theorem dX1_makeOne_4 : decode cX1_makeOne 4 = .ok (.iload_n 1, 1) := by decide +kernel
theorem dX1_makeOne_5 : decode cX1_makeOne 5 = .ok (.aaload, 1) := by decide +kernel
theorem dX1_makeOne_6 : decode cX1_makeOne 6 = .ok (.iload_n 2, 1) := by decide +kernel
theorem dX1_makeOne_7 : decode cX1_makeOne 7 = .ok (.iaload, 1) := by decide +kernel
theorem dX1_makeOne_8 : decode cX1_makeOne 8 = .ok (.istore 4, 2) := by decide +kernel
theorem dX1_makeOne_10 : decode cX1_makeOne 10 = .ok (.aload_n 0, 1) := by decide +kernel
theorem dX1_makeOne_11 : decode cX1_makeOne 11 = .ok (.getfield 37, 3) := by decide +kernel
theorem dX1_makeOne_14 : decode cX1_makeOne 14 = .ok (.iload_n 1, 1) := by decide +kernel
theorem dX1_makeOne_15 : decode cX1_makeOne 15 = .ok (.aaload, 1) := by decide +kernel
theorem dX1_makeOne_16 : decode cX1_makeOne 16 = .ok (.iload_n 3, 1) := by decide +kernel
theorem dX1_makeOne_17 : decode cX1_makeOne 17 = .ok (.iaload, 1) := by decide +kernel
theorem dX1_makeOne_18 : decode cX1_makeOne 18 = .ok (.istore 5, 2) := by decide +kernel
theorem dX1_makeOne_20 : decode cX1_makeOne 20 = .ok (.iload 4, 2) := by decide +kernel
theorem dX1_makeOne_22 : decode cX1_makeOne 22 = .ok (.iload 5, 2) := by decide +kernel
theorem dX1_makeOne_24 : decode cX1_makeOne 24 = .ok (.if_icmp .ne 22, 3) := by decide +kernel
theorem dX1_makeOne_27 : decode cX1_makeOne 27 = .ok (.aload_n 0, 1) := by decide +kernel
theorem dX1_makeOne_28 : decode cX1_makeOne 28 = .ok (.getfield 40, 3) := by decide +kernel
theorem dX1_makeOne_31 : decode cX1_makeOne 31 = .ok (.iload_n 1, 1) := by decide +kernel
theorem dX1_makeOne_32 : decode cX1_makeOne 32 = .ok (.aaload, 1) := by decide +kernel
theorem dX1_makeOne_33 : decode cX1_makeOne 33 = .ok (.iload 4, 2) := by decide +kernel
theorem dX1_makeOne_35 : decode cX1_makeOne 35 = .ok (.iaload, 1) := by decide +kernel
theorem dX1_makeOne_36 : decode cX1_makeOne 36 = .ok (.iconst 4, 1) := by decide +kernel
theorem dX1_makeOne_37 : decode cX1_makeOne 37 = .ok (.if_icmp .gt 7, 3) := by decide +kernel
theorem dX1_makeOne_40 : decode cX1_makeOne 40 = .ok (.iconst 1, 1) := by decide +kernel
theorem dX1_makeOne_41 : decode cX1_makeOne 41 = .ok (.goto 4, 3) := by decide +kernel
theorem dX1_makeOne_44 : decode cX1_makeOne 44 = .ok (.iconst 0, 1) := by decide +kernel
theorem dX1_makeOne_45 : decode cX1_makeOne 45 = .ok (.ireturn, 1) := by decide +kernel
theorem dX1_makeOne_46 : decode cX1_makeOne 46 = .ok (.aload_n 0, 1) := by decide +kernel
theorem dX1_makeOne_47 : decode cX1_makeOne 47 = .ok (.getfield 40, 3) := by decide +kernel
theorem dX1_makeOne_50 : decode cX1_makeOne 50 = .ok (.iload_n 1, 1) := by decide +kernel
theorem dX1_makeOne_51 : decode cX1_makeOne 51 = .ok (.aaload, 1) := by decide +kernel
theorem dX1_makeOne_52 : decode cX1_makeOne 52 = .ok (.iload 4, 2) := by decide +kernel
theorem dX1_makeOne_54 : decode cX1_makeOne 54 = .ok (.dup2, 1) := by decide +kernel
theorem dX1_makeOne_55 : decode cX1_makeOne 55 = .ok (.iaload, 1) := by decide +kernel
theorem dX1_makeOne_56 : decode cX1_makeOne 56 = .ok (.aload_n 0, 1) := by decide +kernel
theorem dX1_makeOne_57 : decode cX1_makeOne 57 = .ok (.getfield 40, 3) := by decide +kernel
theorem dX1_makeOne_60 : decode cX1_makeOne 60 = .ok (.iload_n 1, 1) := by decide +kernel
theorem dX1_makeOne_61 : decode cX1_makeOne 61 = .ok (.aaload, 1) := by decide +kernel
theorem dX1_makeOne_62 : decode cX1_makeOne 62 = .ok (.iload 5, 2) := by decide +kernel
theorem dX1_makeOne_64 : decode cX1_makeOne 64 = .ok (.iaload, 1) := by decide +kernel
theorem dX1_makeOne_65 : decode cX1_makeOne 65 = .ok (.iadd, 1) := by decide +kernel
theorem dX1_makeOne_66 : decode cX1_makeOne 66 = .ok (.iastore, 1) := by decide +kernel
theorem dX1_makeOne_67 : decode cX1_makeOne 67 = .ok (.iconst 0, 1) := by decide +kernel
theorem dX1_makeOne_68 : decode cX1_makeOne 68 = .ok (.istore 6, 2) := by decide +kernel
theorem dX1_makeOne_70 : decode cX1_makeOne 70 = .ok (.iload 6, 2) := by decide +kernel
theorem dX1_makeOne_72 : decode cX1_makeOne 72 = .ok (.aload_n 0, 1) := by decide +kernel
theorem dX1_makeOne_73 : decode cX1_makeOne 73 = .ok (.getfield 23, 3) := by decide +kernel
theorem dX1_makeOne_76 : decode cX1_makeOne 76 = .ok (.if_icmp .ge 34, 3) := by decide +kernel
theorem dX1_makeOne_79 : decode cX1_makeOne 79 = .ok (.aload_n 0, 1) := by decide +kernel
theorem dX1_makeOne_80 : decode cX1_makeOne 80 = .ok (.getfield 37, 3) := by decide +kernel
theorem dX1_makeOne_83 : decode cX1_makeOne 83 = .ok (.iload_n 1, 1) := by decide +kernel
theorem dX1_makeOne_84 : decode cX1_makeOne 84 = .ok (.aaload, 1) := by decide +kernel
theorem dX1_makeOne_85 : decode cX1_makeOne 85 = .ok (.iload 6, 2) := by decide +kernel
theorem dX1_makeOne_87 : decode cX1_makeOne 87 = .ok (.iaload, 1) := by decide +kernel
theorem dX1_makeOne_88 : decode cX1_makeOne 88 = .ok (.iload 5, 2) := by decide +kernel
theorem dX1_makeOne_90 : decode cX1_makeOne 90 = .ok (.if_icmp .ne 14, 3) := by decide +kernel
theorem dX1_makeOne_93 : decode cX1_makeOne 93 = .ok (.aload_n 0, 1) := by decide +kernel
theorem dX1_makeOne_94 : decode cX1_makeOne 94 = .ok (.getfield 37, 3) := by decide +kernel
theorem dX1_makeOne_97 : decode cX1_makeOne 97 = .ok (.iload_n 1, 1) := by decide +kernel
theorem dX1_makeOne_98 : decode cX1_makeOne 98 = .ok (.aaload, 1) := by decide +kernel
theorem dX1_makeOne_99 : decode cX1_makeOne 99 = .ok (.iload 6, 2) := by decide +kernel
theorem dX1_makeOne_101 : decode cX1_makeOne 101 = .ok (.iload 4, 2) := by decide +kernel
theorem dX1_makeOne_103 : decode cX1_makeOne 103 = .ok (.iastore, 1) := by decide +kernel
theorem dX1_makeOne_104 : decode cX1_makeOne 104 = .ok (.iinc 6 1, 3) := by decide +kernel
theorem dX1_makeOne_107 : decode cX1_makeOne 107 = .ok (.goto (-37), 3) := by decide +kernel
theorem dX1_makeOne_110 : decode cX1_makeOne 110 = .ok (.aload_n 0, 1) := by decide +kernel
theorem dX1_makeOne_111 : decode cX1_makeOne 111 = .ok (.getfield 40, 3) := by decide +kernel
theorem dX1_makeOne_114 : decode cX1_makeOne 114 = .ok (.iload_n 1, 1) := by decide +kernel
theorem dX1_makeOne_115 : decode cX1_makeOne 115 = .ok (.aaload, 1) := by decide +kernel
theorem dX1_makeOne_116 : decode cX1_makeOne 116 = .ok (.iload 4, 2) := by decide +kernel
theorem dX1_makeOne_118 : decode cX1_makeOne 118 = .ok (.iaload, 1) := by decide +kernel
theorem dX1_makeOne_119 : decode cX1_makeOne 119 = .ok (.iconst 4, 1) := by decide +kernel
theorem dX1_makeOne_120 : decode cX1_makeOne 120 = .ok (.if_icmp .gt 7, 3) := by decide +kernel
theorem dX1_makeOne_123 : decode cX1_makeOne 123 = .ok (.iconst 1, 1) := by decide +kernel
theorem dX1_makeOne_124 : decode cX1_makeOne 124 = .ok (.goto 4, 3) := by decide +kernel
theorem dX1_makeOne_127 : decode cX1_makeOne 127 = .ok (.iconst 0, 1) := by decide +kernel
theorem dX1_makeOne_128 : decode cX1_makeOne 128 = .ok (.ireturn, 1) := by decide +kernel
theorem dX1_unpack_0 : decode cX1_unpack 0 = .ok (.iload_n 1, 1) := by decide +kernel
theorem dX1_unpack_1 : decode cX1_unpack 1 = .ok (.ifCond .lt 11, 3) := by decide +kernel
theorem dX1_unpack_4 : decode cX1_unpack 4 = .ok (.iload_n 1, 1) := by decide +kernel
theorem dX1_unpack_5 : decode cX1_unpack 5 = .ok (.aload_n 0, 1) := by decide +kernel
theorem dX1_unpack_6 : decode cX1_unpack 6 = .ok (.getfield 15, 3) := by decide +kernel
theorem dX1_unpack_9 : decode cX1_unpack 9 = .ok (.if_icmp .lt 5, 3) := by decide +kernel
theorem dX1_unpack_12 : decode cX1_unpack 12 = .ok (.iconst 0, 1) := by decide +kernel
theorem dX1_unpack_13 : decode cX1_unpack 13 = .ok (.ireturn, 1) := by decide +kernel
theorem dX1_unpack_14 : decode cX1_unpack 14 = .ok (.iconst 0, 1) := by decide +kernel
theorem dX1_unpack_15 : decode cX1_unpack 15 = .ok (.istore_n 2, 1) := by decide +kernel
theorem dX1_unpack_16 : decode cX1_unpack 16 = .ok (.iload_n 2, 1) := by decide +kernel
theorem dX1_unpack_17 : decode cX1_unpack 17 = .ok (.aload_n 0, 1) := by decide +kernel
theorem dX1_unpack_18 : decode cX1_unpack 18 = .ok (.getfield 23, 3) := by decide +kernel
theorem dX1_unpack_21 : decode cX1_unpack 21 = .ok (.if_icmp .ge 16, 3) := by decide +kernel
theorem dX1_unpack_24 : decode cX1_unpack 24 = .ok (.aload_n 0, 1) := by decide +kernel
theorem dX1_unpack_25 : decode cX1_unpack 25 = .ok (.getfield 19, 3) := by decide +kernel
theorem dX1_unpack_28 : decode cX1_unpack 28 = .ok (.iload_n 2, 1) := by decide +kernel
theorem dX1_unpack_29 : decode cX1_unpack 29 = .ok (.iconst (-1), 1) := by decide +kernel
theorem dX1_unpack_30 : decode cX1_unpack 30 = .ok (.iastore, 1) := by decide +kernel
theorem dX1_unpack_31 : decode cX1_unpack 31 = .ok (.iinc 2 1, 3) := by decide +kernel
theorem dX1_unpack_34 : decode cX1_unpack 34 = .ok (.goto (-18), 3) := by decide +kernel
theorem dX1_unpack_37 : decode cX1_unpack 37 = .ok (.iconst 0, 1) := by decide +kernel
theorem dX1_unpack_38 : decode cX1_unpack 38 = .ok (.istore_n 2, 1) := by decide +kernel
theorem dX1_unpack_39 : decode cX1_unpack 39 = .ok (.iload_n 2, 1) := by decide +kernel
theorem dX1_unpack_40 : decode cX1_unpack 40 = .ok (.aload_n 0, 1) := by decide +kernel
theorem dX1_unpack_41 : decode cX1_unpack 41 = .ok (.getfield 23, 3) := by decide +kernel
theorem dX1_unpack_44 : decode cX1_unpack 44 = .ok (.if_icmp .ge 33, 3) := by decide +kernel
theorem dX1_unpack_47 : decode cX1_unpack 47 = .ok (.aload_n 0, 1) := by decide +kernel
theorem dX1_unpack_48 : decode cX1_unpack 48 = .ok (.getfield 26, 3) := by decide +kernel
theorem dX1_unpack_51 : decode cX1_unpack 51 = .ok (.iload_n 1, 1) := by decide +kernel
theorem dX1_unpack_52 : decode cX1_unpack 52 = .ok (.iaload, 1) := by decide +kernel
theorem dX1_unpack_53 : decode cX1_unpack 53 = .ok (.iload_n 2, 1) := by decide +kernel
theorem dX1_unpack_54 : decode cX1_unpack 54 = .ok (.iushr, 1) := by decide +kernel
theorem dX1_unpack_55 : decode cX1_unpack 55 = .ok (.iconst 1, 1) := by decide +kernel
theorem dX1_unpack_56 : decode cX1_unpack 56 = .ok (.iand, 1) := by decide +kernel
theorem dX1_unpack_57 : decode cX1_unpack 57 = .ok (.ifCond .ne 14, 3) := by decide +kernel
theorem dX1_unpack_60 : decode cX1_unpack 60 = .ok (.aload_n 0, 1) := by decide +kernel
theorem dX1_unpack_61 : decode cX1_unpack 61 = .ok (.aload_n 0, 1) := by decide +kernel
theorem dX1_unpack_62 : decode cX1_unpack 62 = .ok (.getfield 26, 3) := by decide +kernel
theorem dX1_unpack_65 : decode cX1_unpack 65 = .ok (.iload_n 1, 1) := by decide +kernel
theorem dX1_unpack_66 : decode cX1_unpack 66 = .ok (.iaload, 1) := by decide +kernel
theorem dX1_unpack_67 : decode cX1_unpack 67 = .ok (.iload_n 2, 1) := by decide +kernel
theorem dX1_unpack_68 : decode cX1_unpack 68 = .ok (.invokevirtual 91, 3) := by decide +kernel
theorem dX1_unpack_71 : decode cX1_unpack 71 = .ok (.iinc 2 1, 3) := by decide +kernel
theorem dX1_unpack_74 : decode cX1_unpack 74 = .ok (.goto (-35), 3) := by decide +kernel
theorem dX1_unpack_77 : decode cX1_unpack 77 = .ok (.iconst 1, 1) := by decide +kernel
theorem dX1_unpack_78 : decode cX1_unpack 78 = .ok (.ireturn, 1) := by decide +kernel
theorem dX1_glueWithLastOpen_0 : decode cX1_glueWithLastOpen 0 = .ok (.iload_n 2, 1) := by decide +kernel
theorem dX1_glueWithLastOpen_1 : decode cX1_glueWithLastOpen 1 = .ok (.iconst 1, 1) := by decide +kernel
theorem dX1_glueWithLastOpen_2 : decode cX1_glueWithLastOpen 2 = .ok (.isub, 1) := by decide +kernel
theorem dX1_glueWithLastOpen_3 : decode cX1_glueWithLastOpen 3 = .ok (.istore_n 3, 1) := by decide +kernel
theorem dX1_glueWithLastOpen_4 : decode cX1_glueWithLastOpen 4 = .ok (.iload_n 3, 1) := by decide +kernel
theorem dX1_glueWithLastOpen_5 : decode cX1_glueWithLastOpen 5 = .ok (.ifCond .lt 42, 3) := by decide +kernel
theorem dX1_glueWithLastOpen_8 : decode cX1_glueWithLastOpen 8 = .ok (.aload_n 0, 1) := by decide +kernel
theorem dX1_glueWithLastOpen_9 : decode cX1_glueWithLastOpen 9 = .ok (.getfield 19, 3) := by decide +kernel
theorem dX1_glueWithLastOpen_12 : decode cX1_glueWithLastOpen 12 = .ok (.iload_n 3, 1) := by decide +kernel
theorem dX1_glueWithLastOpen_13 : decode cX1_glueWithLastOpen 13 = .ok (.iaload, 1) := by decide +kernel
theorem dX1_glueWithLastOpen_14 : decode cX1_glueWithLastOpen 14 = .ok (.iconst (-1), 1) := by decide +kernel
theorem dX1_glueWithLastOpen_15 : decode cX1_glueWithLastOpen 15 = .ok (.if_icmp .ne 26, 3) := by decide +kernel
theorem dX1_glueWithLastOpen_18 : decode cX1_glueWithLastOpen 18 = .ok (.iload_n 1, 1) := by decide +kernel
theorem dX1_glueWithLastOpen_19 : decode cX1_glueWithLastOpen 19 = .ok (.iload_n 3, 1) := by decide +kernel
theorem dX1_glueWithLastOpen_20 : decode cX1_glueWithLastOpen 20 = .ok (.iushr, 1) := by decide +kernel
theorem dX1_glueWithLastOpen_21 : decode cX1_glueWithLastOpen 21 = .ok (.iconst 1, 1) := by decide +kernel
theorem dX1_glueWithLastOpen_22 : decode cX1_glueWithLastOpen 22 = .ok (.iand, 1) := by decide +kernel
theorem dX1_glueWithLastOpen_23 : decode cX1_glueWithLastOpen 23 = .ok (.ifCond .eq 18, 3) := by decide +kernel
theorem dX1_glueWithLastOpen_26 : decode cX1_glueWithLastOpen 26 = .ok (.aload_n 0, 1) := by decide +kernel
theorem dX1_glueWithLastOpen_27 : decode cX1_glueWithLastOpen 27 = .ok (.getfield 19, 3) := by decide +kernel
theorem dX1_glueWithLastOpen_30 : decode cX1_glueWithLastOpen 30 = .ok (.iload_n 2, 1) := by decide +kernel
theorem dX1_glueWithLastOpen_31 : decode cX1_glueWithLastOpen 31 = .ok (.iload_n 3, 1) := by decide +kernel
theorem dX1_glueWithLastOpen_32 : decode cX1_glueWithLastOpen 32 = .ok (.iastore, 1) := by decide +kernel
theorem dX1_glueWithLastOpen_33 : decode cX1_glueWithLastOpen 33 = .ok (.aload_n 0, 1) := by decide +kernel
theorem dX1_glueWithLastOpen_34 : decode cX1_glueWithLastOpen 34 = .ok (.getfield 19, 3) := by decide +kernel
theorem dX1_glueWithLastOpen_37 : decode cX1_glueWithLastOpen 37 = .ok (.iload_n 3, 1) := by decide +kernel
theorem dX1_glueWithLastOpen_38 : decode cX1_glueWithLastOpen 38 = .ok (.iload_n 2, 1) := by decide +kernel
theorem dX1_glueWithLastOpen_39 : decode cX1_glueWithLastOpen 39 = .ok (.iastore, 1) := by decide +kernel
theorem dX1_glueWithLastOpen_40 : decode cX1_glueWithLastOpen 40 = .ok (.return_, 1) := by decide +kernel
theorem dX1_glueWithLastOpen_41 : decode cX1_glueWithLastOpen 41 = .ok (.iinc 3 (-1), 3) := by decide +kernel
theorem dX1_glueWithLastOpen_44 : decode cX1_glueWithLastOpen 44 = .ok (.goto (-40), 3) := by decide +kernel
theorem dX1_glueWithLastOpen_47 : decode cX1_glueWithLastOpen 47 = .ok (.return_, 1) := by decide +kernel
theorem dX1_measure_0 : decode cX1_measure 0 = .ok (.iconst 0, 1) := by decide +kernel
theorem dX1_measure_1 : decode cX1_measure 1 = .ok (.istore_n 3, 1) := by decide +kernel
theorem dX1_measure_2 : decode cX1_measure 2 = .ok (.iload_n 3, 1) := by decide +kernel
theorem dX1_measure_3 : decode cX1_measure 3 = .ok (.aload_n 0, 1) := by decide +kernel
theorem dX1_measure_4 : decode cX1_measure 4 = .ok (.getfield 23, 3) := by decide +kernel
theorem dX1_measure_7 : decode cX1_measure 7 = .ok (.if_icmp .ge 32, 3) := by decide +kernel
theorem dX1_measure_10 : decode cX1_measure 10 = .ok (.aload_n 0, 1) := by decide +kernel
theorem dX1_measure_11 : decode cX1_measure 11 = .ok (.getfield 37, 3) := by decide +kernel
theorem dX1_measure_14 : decode cX1_measure 14 = .ok (.iconst 0, 1) := by decide +kernel
theorem dX1_measure_15 : decode cX1_measure 15 = .ok (.aaload, 1) := by decide +kernel
theorem dX1_measure_16 : decode cX1_measure 16 = .ok (.iload_n 3, 1) := by decide +kernel
theorem dX1_measure_17 : decode cX1_measure 17 = .ok (.iload_n 3, 1) := by decide +kernel
theorem dX1_measure_18 : decode cX1_measure 18 = .ok (.iastore, 1) := by decide +kernel
theorem dX1_measure_19 : decode cX1_measure 19 = .ok (.aload_n 0, 1) := by decide +kernel
theorem dX1_measure_20 : decode cX1_measure 20 = .ok (.getfield 40, 3) := by decide +kernel
theorem dX1_measure_23 : decode cX1_measure 23 = .ok (.iconst 0, 1) := by decide +kernel
theorem dX1_measure_24 : decode cX1_measure 24 = .ok (.aaload, 1) := by decide +kernel
theorem dX1_measure_25 : decode cX1_measure 25 = .ok (.iload_n 3, 1) := by decide +kernel
theorem dX1_measure_26 : decode cX1_measure 26 = .ok (.aload_n 1, 1) := by decide +kernel
theorem dX1_measure_27 : decode cX1_measure 27 = .ok (.getfield 71, 3) := by decide +kernel
theorem dX1_measure_30 : decode cX1_measure 30 = .ok (.iload_n 3, 1) := by decide +kernel
theorem dX1_measure_31 : decode cX1_measure 31 = .ok (.iaload, 1) := by decide +kernel
theorem dX1_measure_32 : decode cX1_measure 32 = .ok (.iastore, 1) := by decide +kernel
theorem dX1_measure_33 : decode cX1_measure 33 = .ok (.iinc 3 1, 3) := by decide +kernel
theorem dX1_measure_36 : decode cX1_measure 36 = .ok (.goto (-34), 3) := by decide +kernel
theorem dX1_measure_39 : decode cX1_measure 39 = .ok (.iconst 0, 1) := by decide +kernel
theorem dX1_measure_40 : decode cX1_measure 40 = .ok (.istore_n 3, 1) := by decide +kernel
theorem dX1_measure_41 : decode cX1_measure 41 = .ok (.iload_n 3, 1) := by decide +kernel
theorem dX1_measure_42 : decode cX1_measure 42 = .ok (.aload_n 0, 1) := by decide +kernel
theorem dX1_measure_43 : decode cX1_measure 43 = .ok (.getfield 23, 3) := by decide +kernel
theorem dX1_measure_46 : decode cX1_measure 46 = .ok (.if_icmp .ge 32, 3) := by decide +kernel
theorem dX1_measure_49 : decode cX1_measure 49 = .ok (.aload_n 0, 1) := by decide +kernel
theorem dX1_measure_50 : decode cX1_measure 50 = .ok (.getfield 19, 3) := by decide +kernel
theorem dX1_measure_53 : decode cX1_measure 53 = .ok (.iload_n 3, 1) := by decide +kernel
theorem dX1_measure_54 : decode cX1_measure 54 = .ok (.iaload, 1) := by decide +kernel
theorem dX1_measure_55 : decode cX1_measure 55 = .ok (.iload_n 3, 1) := by decide +kernel
theorem dX1_measure_56 : decode cX1_measure 56 = .ok (.if_icmp .le 16, 3) := by decide +kernel
theorem dX1_measure_59 : decode cX1_measure 59 = .ok (.aload_n 0, 1) := by decide +kernel
theorem dX1_measure_60 : decode cX1_measure 60 = .ok (.iconst 0, 1) := by decide +kernel
theorem dX1_measure_61 : decode cX1_measure 61 = .ok (.iload_n 3, 1) := by decide +kernel
theorem dX1_measure_62 : decode cX1_measure 62 = .ok (.aload_n 0, 1) := by decide +kernel
theorem dX1_measure_63 : decode cX1_measure 63 = .ok (.getfield 19, 3) := by decide +kernel
theorem dX1_measure_66 : decode cX1_measure 66 = .ok (.iload_n 3, 1) := by decide +kernel
theorem dX1_measure_67 : decode cX1_measure 67 = .ok (.iaload, 1) := by decide +kernel
theorem dX1_measure_68 : decode cX1_measure 68 = .ok (.invokevirtual 80, 3) := by decide +kernel
theorem dX1_measure_71 : decode cX1_measure 71 = .ok (.pop, 1) := by decide +kernel
theorem dX1_measure_72 : decode cX1_measure 72 = .ok (.iinc 3 1, 3) := by decide +kernel
theorem dX1_measure_75 : decode cX1_measure 75 = .ok (.goto (-34), 3) := by decide +kernel
theorem dX1_measure_78 : decode cX1_measure 78 = .ok (.iconst 0, 1) := by decide +kernel
theorem dX1_measure_79 : decode cX1_measure 79 = .ok (.istore_n 3, 1) := by decide +kernel
theorem dX1_measure_80 : decode cX1_measure 80 = .ok (.iconst 0, 1) := by decide +kernel
theorem dX1_measure_81 : decode cX1_measure 81 = .ok (.istore 4, 2) := by decide +kernel
theorem dX1_measure_83 : decode cX1_measure 83 = .ok (.iconst 4, 1) := by decide +kernel
theorem dX1_measure_84 : decode cX1_measure 84 = .ok (.istore 5, 2) := by decide +kernel
theorem dX1_measure_86 : decode cX1_measure 86 = .ok (.iconst 0, 1) := by decide +kernel
theorem dX1_measure_87 : decode cX1_measure 87 = .ok (.istore 6, 2) := by decide +kernel
theorem dX1_measure_89 : decode cX1_measure 89 = .ok (.iload 6, 2) := by decide +kernel
theorem dX1_measure_91 : decode cX1_measure 91 = .ok (.aload_n 0, 1) := by decide +kernel
theorem dX1_measure_92 : decode cX1_measure 92 = .ok (.getfield 23, 3) := by decide +kernel
theorem dX1_measure_95 : decode cX1_measure 95 = .ok (.if_icmp .ge 65, 3) := by decide +kernel
theorem dX1_measure_98 : decode cX1_measure 98 = .ok (.aload_n 0, 1) := by decide +kernel
theorem dX1_measure_99 : decode cX1_measure 99 = .ok (.getfield 37, 3) := by decide +kernel
theorem dX1_measure_102 : decode cX1_measure 102 = .ok (.iconst 0, 1) := by decide +kernel
theorem dX1_measure_103 : decode cX1_measure 103 = .ok (.aaload, 1) := by decide +kernel
theorem dX1_measure_104 : decode cX1_measure 104 = .ok (.iload 6, 2) := by decide +kernel
theorem dX1_measure_106 : decode cX1_measure 106 = .ok (.iaload, 1) := by decide +kernel
theorem dX1_measure_107 : decode cX1_measure 107 = .ok (.iload 6, 2) := by decide +kernel
theorem dX1_measure_109 : decode cX1_measure 109 = .ok (.if_icmp .ne 45, 3) := by decide +kernel
theorem dX1_measure_112 : decode cX1_measure 112 = .ok (.iinc 3 1, 3) := by decide +kernel
theorem dX1_measure_115 : decode cX1_measure 115 = .ok (.iload 4, 2) := by decide +kernel
theorem dX1_measure_117 : decode cX1_measure 117 = .ok (.aload_n 0, 1) := by decide +kernel
theorem dX1_measure_118 : decode cX1_measure 118 = .ok (.getfield 40, 3) := by decide +kernel
theorem dX1_measure_121 : decode cX1_measure 121 = .ok (.iconst 0, 1) := by decide +kernel
theorem dX1_measure_122 : decode cX1_measure 122 = .ok (.aaload, 1) := by decide +kernel
theorem dX1_measure_123 : decode cX1_measure 123 = .ok (.iload 6, 2) := by decide +kernel
theorem dX1_measure_125 : decode cX1_measure 125 = .ok (.iaload, 1) := by decide +kernel
theorem dX1_measure_126 : decode cX1_measure 126 = .ok (.iconst 4, 1) := by decide +kernel
theorem dX1_measure_127 : decode cX1_measure 127 = .ok (.if_icmp .ge 7, 3) := by decide +kernel
theorem dX1_measure_130 : decode cX1_measure 130 = .ok (.iconst 1, 1) := by decide +kernel
theorem dX1_measure_131 : decode cX1_measure 131 = .ok (.goto 4, 3) := by decide +kernel
theorem dX1_measure_134 : decode cX1_measure 134 = .ok (.iconst 0, 1) := by decide +kernel
theorem dX1_measure_135 : decode cX1_measure 135 = .ok (.iadd, 1) := by decide +kernel
theorem dX1_measure_136 : decode cX1_measure 136 = .ok (.istore 4, 2) := by decide +kernel
theorem dX1_measure_138 : decode cX1_measure 138 = .ok (.iload 5, 2) := by decide +kernel
theorem dX1_measure_140 : decode cX1_measure 140 = .ok (.aload_n 0, 1) := by decide +kernel
theorem dX1_measure_141 : decode cX1_measure 141 = .ok (.getfield 40, 3) := by decide +kernel
theorem dX1_measure_144 : decode cX1_measure 144 = .ok (.iconst 0, 1) := by decide +kernel
theorem dX1_measure_145 : decode cX1_measure 145 = .ok (.aaload, 1) := by decide +kernel
theorem dX1_measure_146 : decode cX1_measure 146 = .ok (.iload 6, 2) := by decide +kernel
theorem dX1_measure_148 : decode cX1_measure 148 = .ok (.iaload, 1) := by decide +kernel
theorem dX1_measure_149 : decode cX1_measure 149 = .ok (.invokestatic 65, 3) := by decide +kernel
theorem dX1_measure_152 : decode cX1_measure 152 = .ok (.istore 5, 2) := by decide +kernel
theorem dX1_measure_154 : decode cX1_measure 154 = .ok (.iinc 6 1, 3) := by decide +kernel
theorem dX1_measure_157 : decode cX1_measure 157 = .ok (.goto (-68), 3) := by decide +kernel
theorem dX1_measure_160 : decode cX1_measure 160 = .ok (.iload_n 2, 1) := by decide +kernel
theorem dX1_measure_161 : decode cX1_measure 161 = .ok (.ifCond .ne 5, 3) := by decide +kernel
theorem dX1_measure_164 : decode cX1_measure 164 = .ok (.iload_n 3, 1) := by decide +kernel
theorem dX1_measure_165 : decode cX1_measure 165 = .ok (.ireturn, 1) := by decide +kernel
theorem dX1_measure_166 : decode cX1_measure 166 = .ok (.iload_n 2, 1) := by decide +kernel
theorem dX1_measure_167 : decode cX1_measure 167 = .ok (.iconst 1, 1) := by decide +kernel
theorem dX1_measure_168 : decode cX1_measure 168 = .ok (.if_icmp .ne 8, 3) := by decide +kernel
theorem dX1_measure_171 : decode cX1_measure 171 = .ok (.iload 4, 2) := by decide +kernel
theorem dX1_measure_173 : decode cX1_measure 173 = .ok (.goto 5, 3) := by decide +kernel
theorem dX1_measure_176 : decode cX1_measure 176 = .ok (.iload 5, 2) := by decide +kernel
theorem dX1_measure_178 : decode cX1_measure 178 = .ok (.ireturn, 1) := by decide +kernel
theorem dX1_numberOf_0 : decode cX1_numberOf 0 = .ok (.aload_n 0, 1) := by decide +kernel
theorem dX1_numberOf_1 : decode cX1_numberOf 1 = .ok (.aload_n 1, 1) := by decide +kernel
theorem dX1_numberOf_2 : decode cX1_numberOf 2 = .ok (.getfield 95, 3) := by decide +kernel
theorem dX1_numberOf_5 : decode cX1_numberOf 5 = .ok (.invokevirtual 84, 3) := by decide +kernel
theorem dX1_numberOf_8 : decode cX1_numberOf 8 = .ok (.istore_n 2, 1) := by decide +kernel
theorem dX1_numberOf_9 : decode cX1_numberOf 9 = .ok (.iconst 0, 1) := by decide +kernel
theorem dX1_numberOf_10 : decode cX1_numberOf 10 = .ok (.istore_n 3, 1) := by decide +kernel
theorem dX1_numberOf_11 : decode cX1_numberOf 11 = .ok (.iload_n 3, 1) := by decide +kernel
theorem dX1_numberOf_12 : decode cX1_numberOf 12 = .ok (.aload_n 0, 1) := by decide +kernel
theorem dX1_numberOf_13 : decode cX1_numberOf 13 = .ok (.getfield 15, 3) := by decide +kernel
theorem dX1_numberOf_16 : decode cX1_numberOf 16 = .ok (.if_icmp .ge 40, 3) := by decide +kernel
theorem dX1_numberOf_19 : decode cX1_numberOf 19 = .ok (.aload_n 0, 1) := by decide +kernel
theorem dX1_numberOf_20 : decode cX1_numberOf 20 = .ok (.getfield 26, 3) := by decide +kernel
theorem dX1_numberOf_23 : decode cX1_numberOf 23 = .ok (.iload_n 3, 1) := by decide +kernel
theorem dX1_numberOf_24 : decode cX1_numberOf 24 = .ok (.iaload, 1) := by decide +kernel
theorem dX1_numberOf_25 : decode cX1_numberOf 25 = .ok (.iload_n 2, 1) := by decide +kernel
theorem dX1_numberOf_26 : decode cX1_numberOf 26 = .ok (.if_icmp .ne 24, 3) := by decide +kernel
theorem dX1_numberOf_29 : decode cX1_numberOf 29 = .ok (.aload_n 0, 1) := by decide +kernel
theorem dX1_numberOf_30 : decode cX1_numberOf 30 = .ok (.iload_n 3, 1) := by decide +kernel
theorem dX1_numberOf_31 : decode cX1_numberOf 31 = .ok (.invokevirtual 98, 3) := by decide +kernel
theorem dX1_numberOf_34 : decode cX1_numberOf 34 = .ok (.ifCond .eq 16, 3) := by decide +kernel
theorem dX1_numberOf_37 : decode cX1_numberOf 37 = .ok (.aload_n 0, 1) := by decide +kernel
theorem dX1_numberOf_38 : decode cX1_numberOf 38 = .ok (.aload_n 1, 1) := by decide +kernel
theorem dX1_numberOf_39 : decode cX1_numberOf 39 = .ok (.getfield 95, 3) := by decide +kernel
theorem dX1_numberOf_42 : decode cX1_numberOf 42 = .ok (.invokevirtual 101, 3) := by decide +kernel
theorem dX1_numberOf_45 : decode cX1_numberOf 45 = .ok (.ifCond .eq 5, 3) := by decide +kernel
theorem dX1_numberOf_48 : decode cX1_numberOf 48 = .ok (.iload_n 3, 1) := by decide +kernel
theorem dX1_numberOf_49 : decode cX1_numberOf 49 = .ok (.ireturn, 1) := by decide +kernel
theorem dX1_numberOf_50 : decode cX1_numberOf 50 = .ok (.iinc 3 1, 3) := by decide +kernel
theorem dX1_numberOf_53 : decode cX1_numberOf 53 = .ok (.goto (-42), 3) := by decide +kernel
theorem dX1_numberOf_56 : decode cX1_numberOf 56 = .ok (.bipush (-2), 2) := by decide +kernel
theorem dX1_numberOf_58 : decode cX1_numberOf 58 = .ok (.ireturn, 1) := by decide +kernel
theorem dX1_isGluedLike_0 : decode cX1_isGluedLike 0 = .ok (.iconst 0, 1) := by decide +kernel
theorem dX1_isGluedLike_1 : decode cX1_isGluedLike 1 = .ok (.istore_n 2, 1) := by decide +kernel
theorem dX1_isGluedLike_2 : decode cX1_isGluedLike 2 = .ok (.iload_n 2, 1) := by decide +kernel
theorem dX1_isGluedLike_3 : decode cX1_isGluedLike 3 = .ok (.aload_n 0, 1) := by decide +kernel
theorem dX1_isGluedLike_4 : decode cX1_isGluedLike 4 = .ok (.getfield 23, 3) := by decide +kernel
theorem dX1_isGluedLike_7 : decode cX1_isGluedLike 7 = .ok (.if_icmp .ge 23, 3) := by decide +kernel
theorem dX1_isGluedLike_10 : decode cX1_isGluedLike 10 = .ok (.aload_n 0, 1) := by decide +kernel
theorem dX1_isGluedLike_11 : decode cX1_isGluedLike 11 = .ok (.getfield 19, 3) := by decide +kernel
theorem dX1_isGluedLike_14 : decode cX1_isGluedLike 14 = .ok (.iload_n 2, 1) := by decide +kernel
theorem dX1_isGluedLike_15 : decode cX1_isGluedLike 15 = .ok (.iaload, 1) := by decide +kernel
theorem dX1_isGluedLike_16 : decode cX1_isGluedLike 16 = .ok (.aload_n 1, 1) := by decide +kernel
theorem dX1_isGluedLike_17 : decode cX1_isGluedLike 17 = .ok (.iload_n 2, 1) := by decide +kernel
theorem dX1_isGluedLike_18 : decode cX1_isGluedLike 18 = .ok (.iaload, 1) := by decide +kernel
theorem dX1_isGluedLike_19 : decode cX1_isGluedLike 19 = .ok (.if_icmp .eq 5, 3) := by decide +kernel
theorem dX1_isGluedLike_22 : decode cX1_isGluedLike 22 = .ok (.iconst 0, 1) := by decide +kernel
theorem dX1_isGluedLike_23 : decode cX1_isGluedLike 23 = .ok (.ireturn, 1) := by decide +kernel
theorem dX1_isGluedLike_24 : decode cX1_isGluedLike 24 = .ok (.iinc 2 1, 3) := by decide +kernel
theorem dX1_isGluedLike_27 : decode cX1_isGluedLike 27 = .ok (.goto (-25), 3) := by decide +kernel
theorem dX1_isGluedLike_30 : decode cX1_isGluedLike 30 = .ok (.iconst 1, 1) := by decide +kernel
theorem dX1_isGluedLike_31 : decode cX1_isGluedLike 31 = .ok (.ireturn, 1) := by decide +kernel
theorem dX2_init_0 : decode cX2_init 0 = .ok (.aload_n 0, 1) := by decide +kernel
theorem dX2_init_1 : decode cX2_init 1 = .ok (.invokespecial 3, 3) := by decide +kernel
theorem dX2_init_4 : decode cX2_init 4 = .ok (.aload_n 0, 1) := by decide +kernel
theorem dX2_init_5 : decode cX2_init 5 = .ok (.iconst 0, 1) := by decide +kernel
theorem dX2_init_6 : decode cX2_init 6 = .ok (.putfield 9, 3) := by decide +kernel
theorem dX2_init_9 : decode cX2_init 9 = .ok (.aload_n 0, 1) := by decide +kernel
theorem dX2_init_10 : decode cX2_init 10 = .ok (.iconst 0, 1) := by decide +kernel
theorem dX2_init_11 : decode cX2_init 11 = .ok (.putfield 15, 3) := by decide +kernel
theorem dX2_init_14 : decode cX2_init 14 = .ok (.aload_n 0, 1) := by decide +kernel
theorem dX2_init_15 : decode cX2_init 15 = .ok (.bipush 10, 2) := by decide +kernel
theorem dX2_init_17 : decode cX2_init 17 = .ok (.anewarray 18, 3) := by decide +kernel
theorem dX2_init_20 : decode cX2_init 20 = .ok (.putfield 20, 3) := by decide +kernel
theorem dX2_init_23 : decode cX2_init 23 = .ok (.iconst 0, 1) := by decide +kernel
theorem dX2_init_24 : decode cX2_init 24 = .ok (.istore_n 1, 1) := by decide +kernel
theorem dX2_init_25 : decode cX2_init 25 = .ok (.iload_n 1, 1) := by decide +kernel
theorem dX2_init_26 : decode cX2_init 26 = .ok (.bipush 10, 2) := by decide +kernel
theorem dX2_init_28 : decode cX2_init 28 = .ok (.if_icmp .ge 22, 3) := by decide +kernel
theorem dX2_init_31 : decode cX2_init 31 = .ok (.aload_n 0, 1) := by decide +kernel
theorem dX2_init_32 : decode cX2_init 32 = .ok (.getfield 20, 3) := by decide +kernel
theorem dX2_init_35 : decode cX2_init 35 = .ok (.iload_n 1, 1) := by decide +kernel
theorem dX2_init_36 : decode cX2_init 36 = .ok (.new 18, 3) := by decide +kernel
theorem dX2_init_39 : decode cX2_init 39 = .ok (.dup, 1) := by decide +kernel
theorem dX2_init_40 : decode cX2_init 40 = .ok (.invokespecial 24, 3) := by decide +kernel
theorem dX2_init_43 : decode cX2_init 43 = .ok (.aastore, 1) := by decide +kernel
theorem dX2_init_44 : decode cX2_init 44 = .ok (.iinc 1 1, 3) := by decide +kernel
theorem dX2_init_47 : decode cX2_init 47 = .ok (.goto (-22), 3) := by decide +kernel
theorem dX2_init_50 : decode cX2_init 50 = .ok (.return_, 1) := by decide +kernel
theorem dX2_forget_0 : decode cX2_forget 0 = .ok (.aload_n 0, 1) := by decide +kernel
theorem dX2_forget_1 : decode cX2_forget 1 = .ok (.iconst 0, 1) := by decide +kernel
theorem dX2_forget_2 : decode cX2_forget 2 = .ok (.putfield 9, 3) := by decide +kernel
theorem dX2_forget_5 : decode cX2_forget 5 = .ok (.return_, 1) := by decide +kernel
theorem dX2_remember_0 : decode cX2_remember 0 = .ok (.aload_n 0, 1) := by decide +kernel
theorem dX2_remember_1 : decode cX2_remember 1 = .ok (.getfield 20, 3) := by decide +kernel
theorem dX2_remember_4 : decode cX2_remember 4 = .ok (.aload_n 0, 1) := by decide +kernel
theorem dX2_remember_5 : decode cX2_remember 5 = .ok (.getfield 15, 3) := by decide +kernel
theorem dX2_remember_8 : decode cX2_remember 8 = .ok (.aaload, 1) := by decide +kernel
theorem dX2_remember_9 : decode cX2_remember 9 = .ok (.aload_n 1, 1) := by decide +kernel
theorem dX2_remember_10 : decode cX2_remember 10 = .ok (.invokevirtual 25, 3) := by decide +kernel
theorem dX2_remember_13 : decode cX2_remember 13 = .ok (.aload_n 0, 1) := by decide +kernel
theorem dX2_remember_14 : decode cX2_remember 14 = .ok (.aload_n 0, 1) := by decide +kernel
theorem dX2_remember_15 : decode cX2_remember 15 = .ok (.getfield 15, 3) := by decide +kernel
theorem dX2_remember_18 : decode cX2_remember 18 = .ok (.iconst 1, 1) := by decide +kernel
theorem dX2_remember_19 : decode cX2_remember 19 = .ok (.iadd, 1) := by decide +kernel
theorem dX2_remember_20 : decode cX2_remember 20 = .ok (.bipush 10, 2) := by decide +kernel
theorem dX2_remember_22 : decode cX2_remember 22 = .ok (.if_icmp .ge 12, 3) := by decide +kernel
theorem dX2_remember_25 : decode cX2_remember 25 = .ok (.aload_n 0, 1) := by decide +kernel
theorem dX2_remember_26 : decode cX2_remember 26 = .ok (.getfield 15, 3) := by decide +kernel
theorem dX2_remember_29 : decode cX2_remember 29 = .ok (.iconst 1, 1) := by decide +kernel
theorem dX2_remember_30 : decode cX2_remember 30 = .ok (.iadd, 1) := by decide +kernel
theorem dX2_remember_31 : decode cX2_remember 31 = .ok (.goto 4, 3) := by decide +kernel
theorem dX2_remember_34 : decode cX2_remember 34 = .ok (.iconst 0, 1) := by decide +kernel
theorem dX2_remember_35 : decode cX2_remember 35 = .ok (.putfield 15, 3) := by decide +kernel
theorem dX2_remember_38 : decode cX2_remember 38 = .ok (.aload_n 0, 1) := by decide +kernel
theorem dX2_remember_39 : decode cX2_remember 39 = .ok (.aload_n 0, 1) := by decide +kernel
theorem dX2_remember_40 : decode cX2_remember 40 = .ok (.getfield 9, 3) := by decide +kernel
theorem dX2_remember_43 : decode cX2_remember 43 = .ok (.iconst 1, 1) := by decide +kernel
theorem dX2_remember_44 : decode cX2_remember 44 = .ok (.iadd, 1) := by decide +kernel
theorem dX2_remember_45 : decode cX2_remember 45 = .ok (.bipush 10, 2) := by decide +kernel
theorem dX2_remember_47 : decode cX2_remember 47 = .ok (.invokestatic 29, 3) := by decide +kernel
theorem dX2_remember_50 : decode cX2_remember 50 = .ok (.putfield 9, 3) := by decide +kernel
theorem dX2_remember_53 : decode cX2_remember 53 = .ok (.return_, 1) := by decide +kernel
theorem dX2_bringBack_0 : decode cX2_bringBack 0 = .ok (.aload_n 0, 1) := by decide +kernel
theorem dX2_bringBack_1 : decode cX2_bringBack 1 = .ok (.getfield 9, 3) := by decide +kernel
theorem dX2_bringBack_4 : decode cX2_bringBack 4 = .ok (.ifCond .ne 5, 3) := by decide +kernel
theorem dX2_bringBack_7 : decode cX2_bringBack 7 = .ok (.iconst 0, 1) := by decide +kernel
theorem dX2_bringBack_8 : decode cX2_bringBack 8 = .ok (.ireturn, 1) := by decide +kernel
theorem dX2_bringBack_9 : decode cX2_bringBack 9 = .ok (.aload_n 0, 1) := by decide +kernel
theorem dX2_bringBack_10 : decode cX2_bringBack 10 = .ok (.aload_n 0, 1) := by decide +kernel
theorem dX2_bringBack_11 : decode cX2_bringBack 11 = .ok (.getfield 15, 3) := by decide +kernel
theorem dX2_bringBack_14 : decode cX2_bringBack 14 = .ok (.ifCond .le 12, 3) := by decide +kernel
theorem dX2_bringBack_17 : decode cX2_bringBack 17 = .ok (.aload_n 0, 1) := by decide +kernel
theorem dX2_bringBack_18 : decode cX2_bringBack 18 = .ok (.getfield 15, 3) := by decide +kernel
theorem dX2_bringBack_21 : decode cX2_bringBack 21 = .ok (.iconst 1, 1) := by decide +kernel
theorem dX2_bringBack_22 : decode cX2_bringBack 22 = .ok (.isub, 1) := by decide +kernel
theorem dX2_bringBack_23 : decode cX2_bringBack 23 = .ok (.goto 5, 3) := by decide +kernel
theorem dX2_bringBack_26 : decode cX2_bringBack 26 = .ok (.bipush 9, 2) := by decide +kernel
theorem dX2_bringBack_28 : decode cX2_bringBack 28 = .ok (.putfield 15, 3) := by decide +kernel
theorem dX2_bringBack_31 : decode cX2_bringBack 31 = .ok (.aload_n 0, 1) := by decide +kernel
theorem dX2_bringBack_32 : decode cX2_bringBack 32 = .ok (.dup, 1) := by decide +kernel
theorem dX2_bringBack_33 : decode cX2_bringBack 33 = .ok (.getfield 9, 3) := by decide +kernel
theorem dX2_bringBack_36 : decode cX2_bringBack 36 = .ok (.iconst 1, 1) := by decide +kernel
theorem dX2_bringBack_37 : decode cX2_bringBack 37 = .ok (.isub, 1) := by decide +kernel
theorem dX2_bringBack_38 : decode cX2_bringBack 38 = .ok (.putfield 9, 3) := by decide +kernel
theorem dX2_bringBack_41 : decode cX2_bringBack 41 = .ok (.aload_n 1, 1) := by decide +kernel
theorem dX2_bringBack_42 : decode cX2_bringBack 42 = .ok (.aload_n 0, 1) := by decide +kernel
theorem dX2_bringBack_43 : decode cX2_bringBack 43 = .ok (.getfield 20, 3) := by decide +kernel
theorem dX2_bringBack_46 : decode cX2_bringBack 46 = .ok (.aload_n 0, 1) := by decide +kernel
theorem dX2_bringBack_47 : decode cX2_bringBack 47 = .ok (.getfield 15, 3) := by decide +kernel
theorem dX2_bringBack_50 : decode cX2_bringBack 50 = .ok (.aaload, 1) := by decide +kernel
theorem dX2_bringBack_51 : decode cX2_bringBack 51 = .ok (.invokevirtual 25, 3) := by decide +kernel
theorem dX2_bringBack_54 : decode cX2_bringBack 54 = .ok (.iconst 1, 1) := by decide +kernel
theorem dX2_bringBack_55 : decode cX2_bringBack 55 = .ok (.ireturn, 1) := by decide +kernel
theorem dX3_init_0 : decode cX3_init 0 = .ok (.aload_n 0, 1) := by decide +kernel
theorem dX3_init_1 : decode cX3_init 1 = .ok (.invokespecial 3, 3) := by decide +kernel
theorem dX3_init_4 : decode cX3_init 4 = .ok (.aload_n 0, 1) := by decide +kernel
theorem dX3_init_5 : decode cX3_init 5 = .ok (.lconst 0, 1) := by decide +kernel
theorem dX3_init_6 : decode cX3_init 6 = .ok (.putfield 9, 3) := by decide +kernel
theorem dX3_init_9 : decode cX3_init 9 = .ok (.aload_n 0, 1) := by decide +kernel
theorem dX3_init_10 : decode cX3_init 10 = .ok (.iconst 0, 1) := by decide +kernel
theorem dX3_init_11 : decode cX3_init 11 = .ok (.putfield 15, 3) := by decide +kernel
theorem dX3_init_14 : decode cX3_init 14 = .ok (.aload_n 0, 1) := by decide +kernel
theorem dX3_init_15 : decode cX3_init 15 = .ok (.bipush 60, 2) := by decide +kernel
theorem dX3_init_17 : decode cX3_init 17 = .ok (.newarray .int, 2) := by decide +kernel
theorem dX3_init_19 : decode cX3_init 19 = .ok (.putfield 19, 3) := by decide +kernel
theorem dX3_init_22 : decode cX3_init 22 = .ok (.return_, 1) := by decide +kernel
theorem dX3_begin_0 : decode cX3_begin 0 = .ok (.aload_n 0, 1) := by decide +kernel
theorem dX3_begin_1 : decode cX3_begin 1 = .ok (.lconst 0, 1) := by decide +kernel
theorem dX3_begin_2 : decode cX3_begin 2 = .ok (.putfield 9, 3) := by decide +kernel
theorem dX3_begin_5 : decode cX3_begin 5 = .ok (.aload_n 0, 1) := by decide +kernel
theorem dX3_begin_6 : decode cX3_begin 6 = .ok (.iconst 0, 1) := by decide +kernel
theorem dX3_begin_7 : decode cX3_begin 7 = .ok (.putfield 15, 3) := by decide +kernel
theorem dX3_begin_10 : decode cX3_begin 10 = .ok (.iconst 0, 1) := by decide +kernel
theorem dX3_begin_11 : decode cX3_begin 11 = .ok (.istore_n 1, 1) := by decide +kernel
theorem dX3_begin_12 : decode cX3_begin 12 = .ok (.iload_n 1, 1) := by decide +kernel
theorem dX3_begin_13 : decode cX3_begin 13 = .ok (.bipush 60, 2) := by decide +kernel
theorem dX3_begin_15 : decode cX3_begin 15 = .ok (.if_icmp .ge 16, 3) := by decide +kernel
theorem dX3_begin_18 : decode cX3_begin 18 = .ok (.aload_n 0, 1) := by decide +kernel
theorem dX3_begin_19 : decode cX3_begin 19 = .ok (.getfield 19, 3) := by decide +kernel
theorem dX3_begin_22 : decode cX3_begin 22 = .ok (.iload_n 1, 1) := by decide +kernel
theorem dX3_begin_23 : decode cX3_begin 23 = .ok (.iconst 1, 1) := by decide +kernel
theorem dX3_begin_24 : decode cX3_begin 24 = .ok (.iastore, 1) := by decide +kernel
theorem dX3_begin_25 : decode cX3_begin 25 = .ok (.iinc 1 1, 3) := by decide +kernel
theorem dX3_begin_28 : decode cX3_begin 28 = .ok (.goto (-16), 3) := by decide +kernel
theorem dX3_begin_31 : decode cX3_begin 31 = .ok (.return_, 1) := by decide +kernel
theorem dX3_copy_0 : decode cX3_copy 0 = .ok (.aload_n 0, 1) := by decide +kernel
theorem dX3_copy_1 : decode cX3_copy 1 = .ok (.aload_n 1, 1) := by decide +kernel
theorem dX3_copy_2 : decode cX3_copy 2 = .ok (.getfield 9, 3) := by decide +kernel
theorem dX3_copy_5 : decode cX3_copy 5 = .ok (.putfield 9, 3) := by decide +kernel
theorem dX3_copy_8 : decode cX3_copy 8 = .ok (.aload_n 0, 1) := by decide +kernel
theorem dX3_copy_9 : decode cX3_copy 9 = .ok (.aload_n 1, 1) := by decide +kernel
theorem dX3_copy_10 : decode cX3_copy 10 = .ok (.getfield 15, 3) := by decide +kernel
theorem dX3_copy_13 : decode cX3_copy 13 = .ok (.putfield 15, 3) := by decide +kernel
theorem dX3_copy_16 : decode cX3_copy 16 = .ok (.aload_n 1, 1) := by decide +kernel
theorem dX3_copy_17 : decode cX3_copy 17 = .ok (.getfield 19, 3) := by decide +kernel
theorem dX3_copy_20 : decode cX3_copy 20 = .ok (.iconst 0, 1) := by decide +kernel
theorem dX3_copy_21 : decode cX3_copy 21 = .ok (.aload_n 0, 1) := by decide +kernel
theorem dX3_copy_22 : decode cX3_copy 22 = .ok (.getfield 19, 3) := by decide +kernel
theorem dX3_copy_25 : decode cX3_copy 25 = .ok (.iconst 0, 1) := by decide +kernel
theorem dX3_copy_26 : decode cX3_copy 26 = .ok (.bipush 60, 2) := by decide +kernel
theorem dX3_copy_28 : decode cX3_copy 28 = .ok (.invokestatic 23, 3) := by decide +kernel
theorem dX3_copy_31 : decode cX3_copy 31 = .ok (.return_, 1) := by decide +kernel
theorem dX3_isHinge_0 : decode cX3_isHinge 0 = .ok (.aload_n 0, 1) := by decide +kernel
theorem dX3_isHinge_1 : decode cX3_isHinge 1 = .ok (.getfield 9, 3) := by decide +kernel
theorem dX3_isHinge_4 : decode cX3_isHinge 4 = .ok (.iload_n 1, 1) := by decide +kernel
theorem dX3_isHinge_5 : decode cX3_isHinge 5 = .ok (.lushr, 1) := by decide +kernel
theorem dX3_isHinge_6 : decode cX3_isHinge 6 = .ok (.lconst 1, 1) := by decide +kernel
theorem dX3_isHinge_7 : decode cX3_isHinge 7 = .ok (.land, 1) := by decide +kernel
theorem dX3_isHinge_8 : decode cX3_isHinge 8 = .ok (.lconst 0, 1) := by decide +kernel
theorem dX3_isHinge_9 : decode cX3_isHinge 9 = .ok (.lcmp, 1) := by decide +kernel
theorem dX3_isHinge_10 : decode cX3_isHinge 10 = .ok (.ifCond .eq 7, 3) := by decide +kernel
theorem dX3_isHinge_13 : decode cX3_isHinge 13 = .ok (.iconst 1, 1) := by decide +kernel
theorem dX3_isHinge_14 : decode cX3_isHinge 14 = .ok (.goto 4, 3) := by decide +kernel
theorem dX3_isHinge_17 : decode cX3_isHinge 17 = .ok (.iconst 0, 1) := by decide +kernel
theorem dX3_isHinge_18 : decode cX3_isHinge 18 = .ok (.ireturn, 1) := by decide +kernel
theorem dX3_setHinge_0 : decode cX3_setHinge 0 = .ok (.aload_n 0, 1) := by decide +kernel
theorem dX3_setHinge_1 : decode cX3_setHinge 1 = .ok (.dup, 1) := by decide +kernel
theorem dX3_setHinge_2 : decode cX3_setHinge 2 = .ok (.getfield 9, 3) := by decide +kernel
theorem dX3_setHinge_5 : decode cX3_setHinge 5 = .ok (.lconst 1, 1) := by decide +kernel
theorem dX3_setHinge_6 : decode cX3_setHinge 6 = .ok (.iload_n 1, 1) := by decide +kernel
theorem dX3_setHinge_7 : decode cX3_setHinge 7 = .ok (.lshl, 1) := by decide +kernel
theorem dX3_setHinge_8 : decode cX3_setHinge 8 = .ok (.lor, 1) := by decide +kernel
theorem dX3_setHinge_9 : decode cX3_setHinge 9 = .ok (.putfield 9, 3) := by decide +kernel
theorem dX3_setHinge_12 : decode cX3_setHinge 12 = .ok (.return_, 1) := by decide +kernel
theorem dX3_setCut_0 : decode cX3_setCut 0 = .ok (.aload_n 0, 1) := by decide +kernel
theorem dX3_setCut_1 : decode cX3_setCut 1 = .ok (.dup, 1) := by decide +kernel
theorem dX3_setCut_2 : decode cX3_setCut 2 = .ok (.getfield 9, 3) := by decide +kernel
theorem dX3_setCut_5 : decode cX3_setCut 5 = .ok (.lconst 1, 1) := by decide +kernel
theorem dX3_setCut_6 : decode cX3_setCut 6 = .ok (.iload_n 1, 1) := by decide +kernel
theorem dX3_setCut_7 : decode cX3_setCut 7 = .ok (.lshl, 1) := by decide +kernel
theorem dX3_setCut_8 : decode cX3_setCut 8 = .ok (.ldc2_w 29, 3) := by decide +kernel
theorem dX3_setCut_11 : decode cX3_setCut 11 = .ok (.lxor, 1) := by decide +kernel
theorem dX3_setCut_12 : decode cX3_setCut 12 = .ok (.land, 1) := by decide +kernel
theorem dX3_setCut_13 : decode cX3_setCut 13 = .ok (.putfield 9, 3) := by decide +kernel
theorem dX3_setCut_16 : decode cX3_setCut 16 = .ok (.return_, 1) := by decide +kernel
theorem dX3_swap_0 : decode cX3_swap 0 = .ok (.aload_n 0, 1) := by decide +kernel
theorem dX3_swap_1 : decode cX3_swap 1 = .ok (.iload_n 2, 1) := by decide +kernel
theorem dX3_swap_2 : decode cX3_swap 2 = .ok (.invokevirtual 31, 3) := by decide +kernel
theorem dX3_swap_5 : decode cX3_swap 5 = .ok (.aload_n 0, 1) := by decide +kernel
theorem dX3_swap_6 : decode cX3_swap 6 = .ok (.iload_n 1, 1) := by decide +kernel
theorem dX3_swap_7 : decode cX3_swap 7 = .ok (.invokevirtual 35, 3) := by decide +kernel
theorem dX3_swap_10 : decode cX3_swap 10 = .ok (.return_, 1) := by decide +kernel
theorem dX3_howMany_0 : decode cX3_howMany 0 = .ok (.aload_n 0, 1) := by decide +kernel
theorem dX3_howMany_1 : decode cX3_howMany 1 = .ok (.getfield 9, 3) := by decide +kernel
theorem dX3_howMany_4 : decode cX3_howMany 4 = .ok (.invokestatic 38, 3) := by decide +kernel
theorem dX3_howMany_7 : decode cX3_howMany 7 = .ok (.ireturn, 1) := by decide +kernel
theorem dX4_init_0 : decode cX4_init 0 = .ok (.aload_n 0, 1) := by decide +kernel
theorem dX4_init_1 : decode cX4_init 1 = .ok (.invokespecial 3, 3) := by decide +kernel
theorem dX4_init_4 : decode cX4_init 4 = .ok (.aload_n 0, 1) := by decide +kernel
theorem dX4_init_5 : decode cX4_init 5 = .ok (.bipush 21, 2) := by decide +kernel
theorem dX4_init_7 : decode cX4_init 7 = .ok (.newarray .int, 2) := by decide +kernel
theorem dX4_init_9 : decode cX4_init 9 = .ok (.putfield 9, 3) := by decide +kernel
theorem dX4_init_12 : decode cX4_init 12 = .ok (.aload_n 0, 1) := by decide +kernel
theorem dX4_init_13 : decode cX4_init 13 = .ok (.iconst 0, 1) := by decide +kernel
theorem dX4_init_14 : decode cX4_init 14 = .ok (.putfield 15, 3) := by decide +kernel
theorem dX4_init_17 : decode cX4_init 17 = .ok (.aload_n 0, 1) := by decide +kernel
theorem dX4_init_18 : decode cX4_init 18 = .ok (.iconst 0, 1) := by decide +kernel
theorem dX4_init_19 : decode cX4_init 19 = .ok (.newarray .int, 2) := by decide +kernel
theorem dX4_init_21 : decode cX4_init 21 = .ok (.putfield 19, 3) := by decide +kernel
theorem dX4_init_24 : decode cX4_init 24 = .ok (.aload_n 0, 1) := by decide +kernel
theorem dX4_init_25 : decode cX4_init 25 = .ok (.iconst 0, 1) := by decide +kernel
theorem dX4_init_26 : decode cX4_init 26 = .ok (.putfield 22, 3) := by decide +kernel
theorem dX4_init_29 : decode cX4_init 29 = .ok (.aload_n 0, 1) := by decide +kernel
theorem dX4_init_30 : decode cX4_init 30 = .ok (.iconst 0, 1) := by decide +kernel
theorem dX4_init_31 : decode cX4_init 31 = .ok (.putfield 25, 3) := by decide +kernel
theorem dX4_init_34 : decode cX4_init 34 = .ok (.return_, 1) := by decide +kernel
theorem dX4_read_0 : decode cX4_read 0 = .ok (.aload_n 0, 1) := by decide +kernel
theorem dX4_read_1 : decode cX4_read 1 = .ok (.aload_n 1, 1) := by decide +kernel
theorem dX4_read_2 : decode cX4_read 2 = .ok (.putfield 19, 3) := by decide +kernel
theorem dX4_read_5 : decode cX4_read 5 = .ok (.aload_n 0, 1) := by decide +kernel
theorem dX4_read_6 : decode cX4_read 6 = .ok (.iload_n 2, 1) := by decide +kernel
theorem dX4_read_7 : decode cX4_read 7 = .ok (.aload_n 1, 1) := by decide +kernel
theorem dX4_read_8 : decode cX4_read 8 = .ok (.arraylength, 1) := by decide +kernel
theorem dX4_read_9 : decode cX4_read 9 = .ok (.invokestatic 28, 3) := by decide +kernel
theorem dX4_read_12 : decode cX4_read 12 = .ok (.putfield 22, 3) := by decide +kernel
theorem dX4_read_15 : decode cX4_read 15 = .ok (.aload_n 0, 1) := by decide +kernel
theorem dX4_read_16 : decode cX4_read 16 = .ok (.iconst 0, 1) := by decide +kernel
theorem dX4_read_17 : decode cX4_read 17 = .ok (.putfield 25, 3) := by decide +kernel
theorem dX4_read_20 : decode cX4_read 20 = .ok (.aload_n 0, 1) := by decide +kernel
theorem dX4_read_21 : decode cX4_read 21 = .ok (.iconst 0, 1) := by decide +kernel
theorem dX4_read_22 : decode cX4_read 22 = .ok (.putfield 15, 3) := by decide +kernel
theorem dX4_read_25 : decode cX4_read 25 = .ok (.iconst 0, 1) := by decide +kernel
theorem dX4_read_26 : decode cX4_read 26 = .ok (.istore_n 3, 1) := by decide +kernel
theorem dX4_read_27 : decode cX4_read 27 = .ok (.iload_n 3, 1) := by decide +kernel
theorem dX4_read_28 : decode cX4_read 28 = .ok (.bipush 7, 2) := by decide +kernel
theorem dX4_read_30 : decode cX4_read 30 = .ok (.if_icmp .gt 90, 3) := by decide +kernel
theorem dX4_read_33 : decode cX4_read 33 = .ok (.aload_n 0, 1) := by decide +kernel
theorem dX4_read_34 : decode cX4_read 34 = .ok (.invokevirtual 34, 3) := by decide +kernel
theorem dX4_read_37 : decode cX4_read 37 = .ok (.istore 4, 2) := by decide +kernel
theorem dX4_read_39 : decode cX4_read 39 = .ok (.iload 4, 2) := by decide +kernel
theorem dX4_read_41 : decode cX4_read 41 = .ok (.iconst (-1), 1) := by decide +kernel
theorem dX4_read_42 : decode cX4_read 42 = .ok (.if_icmp .eq 6, 3) := by decide +kernel
theorem dX4_read_45 : decode cX4_read 45 = .ok (.iload 4, 2) := by decide +kernel
theorem dX4_read_47 : decode cX4_read 47 = .ok (.ireturn, 1) := by decide +kernel
theorem dX4_read_48 : decode cX4_read 48 = .ok (.aload_n 0, 1) := by decide +kernel
theorem dX4_read_49 : decode cX4_read 49 = .ok (.invokevirtual 38, 3) := by decide +kernel
theorem dX4_read_52 : decode cX4_read 52 = .ok (.aload_n 0, 1) := by decide +kernel
theorem dX4_read_53 : decode cX4_read 53 = .ok (.getfield 22, 3) := by decide +kernel
theorem dX4_read_56 : decode cX4_read 56 = .ok (.if_icmp .ne 24, 3) := by decide +kernel
theorem dX4_read_59 : decode cX4_read 59 = .ok (.aload_n 0, 1) := by decide +kernel
theorem dX4_read_60 : decode cX4_read 60 = .ok (.invokevirtual 41, 3) := by decide +kernel
theorem dX4_read_63 : decode cX4_read 63 = .ok (.ifCond .eq 7, 3) := by decide +kernel
theorem dX4_read_66 : decode cX4_read 66 = .ok (.iconst (-1), 1) := by decide +kernel
theorem dX4_read_67 : decode cX4_read 67 = .ok (.goto 12, 3) := by decide +kernel
theorem dX4_read_70 : decode cX4_read 70 = .ok (.bipush 8, 2) := by decide +kernel
theorem dX4_read_72 : decode cX4_read 72 = .ok (.aload_n 0, 1) := by decide +kernel
theorem dX4_read_73 : decode cX4_read 73 = .ok (.getfield 22, 3) := by decide +kernel
theorem dX4_read_76 : decode cX4_read 76 = .ok (.imul, 1) := by decide +kernel
theorem dX4_read_77 : decode cX4_read 77 = .ok (.iconst 5, 1) := by decide +kernel
theorem dX4_read_78 : decode cX4_read 78 = .ok (.iadd, 1) := by decide +kernel
theorem dX4_read_79 : decode cX4_read 79 = .ok (.ireturn, 1) := by decide +kernel
theorem dX4_read_80 : decode cX4_read 80 = .ok (.aload_n 0, 1) := by decide +kernel
theorem dX4_read_81 : decode cX4_read 81 = .ok (.getfield 19, 3) := by decide +kernel
theorem dX4_read_84 : decode cX4_read 84 = .ok (.aload_n 0, 1) := by decide +kernel
theorem dX4_read_85 : decode cX4_read 85 = .ok (.getfield 25, 3) := by decide +kernel
theorem dX4_read_88 : decode cX4_read 88 = .ok (.iaload, 1) := by decide +kernel
theorem dX4_read_89 : decode cX4_read 89 = .ok (.bipush 59, 2) := by decide +kernel
theorem dX4_read_91 : decode cX4_read 91 = .ok (.if_icmp .eq 13, 3) := by decide +kernel
theorem dX4_read_94 : decode cX4_read 94 = .ok (.bipush 8, 2) := by decide +kernel
theorem dX4_read_96 : decode cX4_read 96 = .ok (.aload_n 0, 1) := by decide +kernel
theorem dX4_read_97 : decode cX4_read 97 = .ok (.getfield 25, 3) := by decide +kernel
theorem dX4_read_100 : decode cX4_read 100 = .ok (.imul, 1) := by decide +kernel
theorem dX4_read_101 : decode cX4_read 101 = .ok (.iconst 1, 1) := by decide +kernel
theorem dX4_read_102 : decode cX4_read 102 = .ok (.iadd, 1) := by decide +kernel
theorem dX4_read_103 : decode cX4_read 103 = .ok (.ireturn, 1) := by decide +kernel
theorem dX4_read_104 : decode cX4_read 104 = .ok (.aload_n 0, 1) := by decide +kernel
theorem dX4_read_105 : decode cX4_read 105 = .ok (.dup, 1) := by decide +kernel
theorem dX4_read_106 : decode cX4_read 106 = .ok (.getfield 25, 3) := by decide +kernel
theorem dX4_read_109 : decode cX4_read 109 = .ok (.iconst 1, 1) := by decide +kernel
theorem dX4_read_110 : decode cX4_read 110 = .ok (.iadd, 1) := by decide +kernel
theorem dX4_read_111 : decode cX4_read 111 = .ok (.putfield 25, 3) := by decide +kernel
theorem dX4_read_114 : decode cX4_read 114 = .ok (.iinc 3 1, 3) := by decide +kernel
theorem dX4_read_117 : decode cX4_read 117 = .ok (.goto (-90), 3) := by decide +kernel
theorem dX4_read_120 : decode cX4_read 120 = .ok (.bipush 8, 2) := by decide +kernel
theorem dX4_read_122 : decode cX4_read 122 = .ok (.aload_n 0, 1) := by decide +kernel
theorem dX4_read_123 : decode cX4_read 123 = .ok (.getfield 22, 3) := by decide +kernel
theorem dX4_read_126 : decode cX4_read 126 = .ok (.imul, 1) := by decide +kernel
theorem dX4_read_127 : decode cX4_read 127 = .ok (.iconst 1, 1) := by decide +kernel
theorem dX4_read_128 : decode cX4_read 128 = .ok (.iadd, 1) := by decide +kernel
theorem dX4_read_129 : decode cX4_read 129 = .ok (.ireturn, 1) := by decide +kernel
theorem dX4_readCube_0 : decode cX4_readCube 0 = .ok (.aload_n 0, 1) := by decide +kernel
theorem dX4_readCube_1 : decode cX4_readCube 1 = .ok (.invokevirtual 38, 3) := by decide +kernel
theorem dX4_readCube_4 : decode cX4_readCube 4 = .ok (.istore_n 1, 1) := by decide +kernel
theorem dX4_readCube_5 : decode cX4_readCube 5 = .ok (.aload_n 0, 1) := by decide +kernel
theorem dX4_readCube_6 : decode cX4_readCube 6 = .ok (.invokevirtual 45, 3) := by decide +kernel
theorem dX4_readCube_9 : decode cX4_readCube 9 = .ok (.ifCond .ne 10, 3) := by decide +kernel
theorem dX4_readCube_12 : decode cX4_readCube 12 = .ok (.bipush 8, 2) := by decide +kernel
theorem dX4_readCube_14 : decode cX4_readCube 14 = .ok (.iload_n 1, 1) := by decide +kernel
theorem dX4_readCube_15 : decode cX4_readCube 15 = .ok (.imul, 1) := by decide +kernel
theorem dX4_readCube_16 : decode cX4_readCube 16 = .ok (.iconst 1, 1) := by decide +kernel
theorem dX4_readCube_17 : decode cX4_readCube 17 = .ok (.iadd, 1) := by decide +kernel
theorem dX4_readCube_18 : decode cX4_readCube 18 = .ok (.ireturn, 1) := by decide +kernel
theorem dX4_readCube_19 : decode cX4_readCube 19 = .ok (.aload_n 0, 1) := by decide +kernel
theorem dX4_readCube_20 : decode cX4_readCube 20 = .ok (.getfield 15, 3) := by decide +kernel
theorem dX4_readCube_23 : decode cX4_readCube 23 = .ok (.bipush 7, 2) := by decide +kernel
theorem dX4_readCube_25 : decode cX4_readCube 25 = .ok (.if_icmp .lt 10, 3) := by decide +kernel
theorem dX4_readCube_28 : decode cX4_readCube 28 = .ok (.bipush 8, 2) := by decide +kernel
theorem dX4_readCube_30 : decode cX4_readCube 30 = .ok (.iload_n 1, 1) := by decide +kernel
theorem dX4_readCube_31 : decode cX4_readCube 31 = .ok (.imul, 1) := by decide +kernel
theorem dX4_readCube_32 : decode cX4_readCube 32 = .ok (.iconst 3, 1) := by decide +kernel
theorem dX4_readCube_33 : decode cX4_readCube 33 = .ok (.iadd, 1) := by decide +kernel
theorem dX4_readCube_34 : decode cX4_readCube 34 = .ok (.ireturn, 1) := by decide +kernel
theorem dX4_readCube_35 : decode cX4_readCube 35 = .ok (.iconst 0, 1) := by decide +kernel
theorem dX4_readCube_36 : decode cX4_readCube 36 = .ok (.istore_n 2, 1) := by decide +kernel
theorem dX4_readCube_37 : decode cX4_readCube 37 = .ok (.iload_n 2, 1) := by decide +kernel
theorem dX4_readCube_38 : decode cX4_readCube 38 = .ok (.iconst 3, 1) := by decide +kernel
theorem dX4_readCube_39 : decode cX4_readCube 39 = .ok (.if_icmp .ge 58, 3) := by decide +kernel
theorem dX4_readCube_42 : decode cX4_readCube 42 = .ok (.aload_n 0, 1) := by decide +kernel
theorem dX4_readCube_43 : decode cX4_readCube 43 = .ok (.invokevirtual 38, 3) := by decide +kernel
theorem dX4_readCube_46 : decode cX4_readCube 46 = .ok (.istore_n 1, 1) := by decide +kernel
theorem dX4_readCube_47 : decode cX4_readCube 47 = .ok (.aload_n 0, 1) := by decide +kernel
theorem dX4_readCube_48 : decode cX4_readCube 48 = .ok (.invokevirtual 48, 3) := by decide +kernel
theorem dX4_readCube_51 : decode cX4_readCube 51 = .ok (.istore_n 3, 1) := by decide +kernel
theorem dX4_readCube_52 : decode cX4_readCube 52 = .ok (.iload_n 3, 1) := by decide +kernel
theorem dX4_readCube_53 : decode cX4_readCube 53 = .ok (.iconst (-1), 1) := by decide +kernel
theorem dX4_readCube_54 : decode cX4_readCube 54 = .ok (.if_icmp .ne 10, 3) := by decide +kernel
theorem dX4_readCube_57 : decode cX4_readCube 57 = .ok (.bipush 8, 2) := by decide +kernel
theorem dX4_readCube_59 : decode cX4_readCube 59 = .ok (.iload_n 1, 1) := by decide +kernel
theorem dX4_readCube_60 : decode cX4_readCube 60 = .ok (.imul, 1) := by decide +kernel
theorem dX4_readCube_61 : decode cX4_readCube 61 = .ok (.iconst 1, 1) := by decide +kernel
theorem dX4_readCube_62 : decode cX4_readCube 62 = .ok (.iadd, 1) := by decide +kernel
theorem dX4_readCube_63 : decode cX4_readCube 63 = .ok (.ireturn, 1) := by decide +kernel
theorem dX4_readCube_64 : decode cX4_readCube 64 = .ok (.iload_n 3, 1) := by decide +kernel
theorem dX4_readCube_65 : decode cX4_readCube 65 = .ok (.bipush 6, 2) := by decide +kernel
theorem dX4_readCube_67 : decode cX4_readCube 67 = .ok (.if_icmp .le 10, 3) := by decide +kernel
theorem dX4_readCube_70 : decode cX4_readCube 70 = .ok (.bipush 8, 2) := by decide +kernel
theorem dX4_readCube_72 : decode cX4_readCube 72 = .ok (.iload_n 1, 1) := by decide +kernel
theorem dX4_readCube_73 : decode cX4_readCube 73 = .ok (.imul, 1) := by decide +kernel
theorem dX4_readCube_74 : decode cX4_readCube 74 = .ok (.iconst 2, 1) := by decide +kernel
theorem dX4_readCube_75 : decode cX4_readCube 75 = .ok (.iadd, 1) := by decide +kernel
theorem dX4_readCube_76 : decode cX4_readCube 76 = .ok (.ireturn, 1) := by decide +kernel
theorem dX4_readCube_77 : decode cX4_readCube 77 = .ok (.aload_n 0, 1) := by decide +kernel
theorem dX4_readCube_78 : decode cX4_readCube 78 = .ok (.getfield 9, 3) := by decide +kernel
theorem dX4_readCube_81 : decode cX4_readCube 81 = .ok (.iconst 3, 1) := by decide +kernel
theorem dX4_readCube_82 : decode cX4_readCube 82 = .ok (.aload_n 0, 1) := by decide +kernel
theorem dX4_readCube_83 : decode cX4_readCube 83 = .ok (.getfield 15, 3) := by decide +kernel
theorem dX4_readCube_86 : decode cX4_readCube 86 = .ok (.imul, 1) := by decide +kernel
theorem dX4_readCube_87 : decode cX4_readCube 87 = .ok (.iload_n 2, 1) := by decide +kernel
theorem dX4_readCube_88 : decode cX4_readCube 88 = .ok (.iadd, 1) := by decide +kernel
theorem dX4_readCube_89 : decode cX4_readCube 89 = .ok (.iload_n 3, 1) := by decide +kernel
theorem dX4_readCube_90 : decode cX4_readCube 90 = .ok (.iastore, 1) := by decide +kernel
theorem dX4_readCube_91 : decode cX4_readCube 91 = .ok (.iinc 2 1, 3) := by decide +kernel
theorem dX4_readCube_94 : decode cX4_readCube 94 = .ok (.goto (-57), 3) := by decide +kernel
theorem dX4_readCube_97 : decode cX4_readCube 97 = .ok (.aload_n 0, 1) := by decide +kernel
theorem dX4_readCube_98 : decode cX4_readCube 98 = .ok (.aload_n 0, 1) := by decide +kernel
theorem dX4_readCube_99 : decode cX4_readCube 99 = .ok (.getfield 15, 3) := by decide +kernel
theorem dX4_readCube_102 : decode cX4_readCube 102 = .ok (.invokevirtual 51, 3) := by decide +kernel
theorem dX4_readCube_105 : decode cX4_readCube 105 = .ok (.ifCond .ne 10, 3) := by decide +kernel
theorem dX4_readCube_108 : decode cX4_readCube 108 = .ok (.bipush 8, 2) := by decide +kernel
theorem dX4_readCube_110 : decode cX4_readCube 110 = .ok (.iload_n 1, 1) := by decide +kernel
theorem dX4_readCube_111 : decode cX4_readCube 111 = .ok (.imul, 1) := by decide +kernel
theorem dX4_readCube_112 : decode cX4_readCube 112 = .ok (.iconst 4, 1) := by decide +kernel
theorem dX4_readCube_113 : decode cX4_readCube 113 = .ok (.iadd, 1) := by decide +kernel
theorem dX4_readCube_114 : decode cX4_readCube 114 = .ok (.ireturn, 1) := by decide +kernel
theorem dX4_readCube_115 : decode cX4_readCube 115 = .ok (.aload_n 0, 1) := by decide +kernel
theorem dX4_readCube_116 : decode cX4_readCube 116 = .ok (.dup, 1) := by decide +kernel
theorem dX4_readCube_117 : decode cX4_readCube 117 = .ok (.getfield 15, 3) := by decide +kernel
theorem dX4_readCube_120 : decode cX4_readCube 120 = .ok (.iconst 1, 1) := by decide +kernel
theorem dX4_readCube_121 : decode cX4_readCube 121 = .ok (.iadd, 1) := by decide +kernel
theorem dX4_readCube_122 : decode cX4_readCube 122 = .ok (.putfield 15, 3) := by decide +kernel
theorem dX4_readCube_125 : decode cX4_readCube 125 = .ok (.iconst (-1), 1) := by decide +kernel
theorem dX4_readCube_126 : decode cX4_readCube 126 = .ok (.ireturn, 1) := by decide +kernel
theorem dX4_toNext_0 : decode cX4_toNext 0 = .ok (.aload_n 0, 1) := by decide +kernel
theorem dX4_toNext_1 : decode cX4_toNext 1 = .ok (.getfield 25, 3) := by decide +kernel
theorem dX4_toNext_4 : decode cX4_toNext 4 = .ok (.aload_n 0, 1) := by decide +kernel
theorem dX4_toNext_5 : decode cX4_toNext 5 = .ok (.getfield 22, 3) := by decide +kernel
theorem dX4_toNext_8 : decode cX4_toNext 8 = .ok (.if_icmp .ge 30, 3) := by decide +kernel
theorem dX4_toNext_11 : decode cX4_toNext 11 = .ok (.aload_n 0, 1) := by decide +kernel
theorem dX4_toNext_12 : decode cX4_toNext 12 = .ok (.getfield 19, 3) := by decide +kernel
theorem dX4_toNext_15 : decode cX4_toNext 15 = .ok (.aload_n 0, 1) := by decide +kernel
theorem dX4_toNext_16 : decode cX4_toNext 16 = .ok (.getfield 25, 3) := by decide +kernel
theorem dX4_toNext_19 : decode cX4_toNext 19 = .ok (.iaload, 1) := by decide +kernel
theorem dX4_toNext_20 : decode cX4_toNext 20 = .ok (.bipush 32, 2) := by decide +kernel
theorem dX4_toNext_22 : decode cX4_toNext 22 = .ok (.if_icmp .ne 16, 3) := by decide +kernel
theorem dX4_toNext_25 : decode cX4_toNext 25 = .ok (.aload_n 0, 1) := by decide +kernel
theorem dX4_toNext_26 : decode cX4_toNext 26 = .ok (.dup, 1) := by decide +kernel
theorem dX4_toNext_27 : decode cX4_toNext 27 = .ok (.getfield 25, 3) := by decide +kernel
theorem dX4_toNext_30 : decode cX4_toNext 30 = .ok (.iconst 1, 1) := by decide +kernel
theorem dX4_toNext_31 : decode cX4_toNext 31 = .ok (.iadd, 1) := by decide +kernel
theorem dX4_toNext_32 : decode cX4_toNext 32 = .ok (.putfield 25, 3) := by decide +kernel
theorem dX4_toNext_35 : decode cX4_toNext 35 = .ok (.goto (-35), 3) := by decide +kernel
theorem dX4_toNext_38 : decode cX4_toNext 38 = .ok (.aload_n 0, 1) := by decide +kernel
theorem dX4_toNext_39 : decode cX4_toNext 39 = .ok (.getfield 25, 3) := by decide +kernel
theorem dX4_toNext_42 : decode cX4_toNext 42 = .ok (.ireturn, 1) := by decide +kernel
theorem dX4_passWord_0 : decode cX4_passWord 0 = .ok (.aload_n 0, 1) := by decide +kernel
theorem dX4_passWord_1 : decode cX4_passWord 1 = .ok (.getfield 25, 3) := by decide +kernel
theorem dX4_passWord_4 : decode cX4_passWord 4 = .ok (.istore_n 1, 1) := by decide +kernel
theorem dX4_passWord_5 : decode cX4_passWord 5 = .ok (.aload_n 0, 1) := by decide +kernel
theorem dX4_passWord_6 : decode cX4_passWord 6 = .ok (.getfield 25, 3) := by decide +kernel
theorem dX4_passWord_9 : decode cX4_passWord 9 = .ok (.aload_n 0, 1) := by decide +kernel
theorem dX4_passWord_10 : decode cX4_passWord 10 = .ok (.getfield 22, 3) := by decide +kernel
theorem dX4_passWord_13 : decode cX4_passWord 13 = .ok (.if_icmp .ge 44, 3) := by decide +kernel
theorem dX4_passWord_16 : decode cX4_passWord 16 = .ok (.aload_n 0, 1) := by decide +kernel
theorem dX4_passWord_17 : decode cX4_passWord 17 = .ok (.getfield 19, 3) := by decide +kernel
theorem dX4_passWord_20 : decode cX4_passWord 20 = .ok (.aload_n 0, 1) := by decide +kernel
theorem dX4_passWord_21 : decode cX4_passWord 21 = .ok (.getfield 25, 3) := by decide +kernel
theorem dX4_passWord_24 : decode cX4_passWord 24 = .ok (.iaload, 1) := by decide +kernel
theorem dX4_passWord_25 : decode cX4_passWord 25 = .ok (.bipush 97, 2) := by decide +kernel
theorem dX4_passWord_27 : decode cX4_passWord 27 = .ok (.if_icmp .lt 30, 3) := by decide +kernel
theorem dX4_passWord_30 : decode cX4_passWord 30 = .ok (.aload_n 0, 1) := by decide +kernel
theorem dX4_passWord_31 : decode cX4_passWord 31 = .ok (.getfield 19, 3) := by decide +kernel
theorem dX4_passWord_34 : decode cX4_passWord 34 = .ok (.aload_n 0, 1) := by decide +kernel
theorem dX4_passWord_35 : decode cX4_passWord 35 = .ok (.getfield 25, 3) := by decide +kernel
theorem dX4_passWord_38 : decode cX4_passWord 38 = .ok (.iaload, 1) := by decide +kernel
theorem dX4_passWord_39 : decode cX4_passWord 39 = .ok (.bipush 122, 2) := by decide +kernel
theorem dX4_passWord_41 : decode cX4_passWord 41 = .ok (.if_icmp .gt 16, 3) := by decide +kernel
theorem dX4_passWord_44 : decode cX4_passWord 44 = .ok (.aload_n 0, 1) := by decide +kernel
theorem dX4_passWord_45 : decode cX4_passWord 45 = .ok (.dup, 1) := by decide +kernel
theorem dX4_passWord_46 : decode cX4_passWord 46 = .ok (.getfield 25, 3) := by decide +kernel
theorem dX4_passWord_49 : decode cX4_passWord 49 = .ok (.iconst 1, 1) := by decide +kernel
theorem dX4_passWord_50 : decode cX4_passWord 50 = .ok (.iadd, 1) := by decide +kernel
theorem dX4_passWord_51 : decode cX4_passWord 51 = .ok (.putfield 25, 3) := by decide +kernel
theorem dX4_passWord_54 : decode cX4_passWord 54 = .ok (.goto (-49), 3) := by decide +kernel
theorem dX4_passWord_57 : decode cX4_passWord 57 = .ok (.aload_n 0, 1) := by decide +kernel
theorem dX4_passWord_58 : decode cX4_passWord 58 = .ok (.getfield 25, 3) := by decide +kernel
theorem dX4_passWord_61 : decode cX4_passWord 61 = .ok (.iload_n 1, 1) := by decide +kernel
theorem dX4_passWord_62 : decode cX4_passWord 62 = .ok (.isub, 1) := by decide +kernel
theorem dX4_passWord_63 : decode cX4_passWord 63 = .ok (.iconst 4, 1) := by decide +kernel
theorem dX4_passWord_64 : decode cX4_passWord 64 = .ok (.if_icmp .ne 57, 3) := by decide +kernel
theorem dX4_passWord_67 : decode cX4_passWord 67 = .ok (.aload_n 0, 1) := by decide +kernel
theorem dX4_passWord_68 : decode cX4_passWord 68 = .ok (.getfield 19, 3) := by decide +kernel
theorem dX4_passWord_71 : decode cX4_passWord 71 = .ok (.iload_n 1, 1) := by decide +kernel
theorem dX4_passWord_72 : decode cX4_passWord 72 = .ok (.iaload, 1) := by decide +kernel
theorem dX4_passWord_73 : decode cX4_passWord 73 = .ok (.bipush 99, 2) := by decide +kernel
theorem dX4_passWord_75 : decode cX4_passWord 75 = .ok (.if_icmp .ne 46, 3) := by decide +kernel
theorem dX4_passWord_78 : decode cX4_passWord 78 = .ok (.aload_n 0, 1) := by decide +kernel
theorem dX4_passWord_79 : decode cX4_passWord 79 = .ok (.getfield 19, 3) := by decide +kernel
theorem dX4_passWord_82 : decode cX4_passWord 82 = .ok (.iload_n 1, 1) := by decide +kernel
theorem dX4_passWord_83 : decode cX4_passWord 83 = .ok (.iconst 1, 1) := by decide +kernel
theorem dX4_passWord_84 : decode cX4_passWord 84 = .ok (.iadd, 1) := by decide +kernel
theorem dX4_passWord_85 : decode cX4_passWord 85 = .ok (.iaload, 1) := by decide +kernel
theorem dX4_passWord_86 : decode cX4_passWord 86 = .ok (.bipush 117, 2) := by decide +kernel
theorem dX4_passWord_88 : decode cX4_passWord 88 = .ok (.if_icmp .ne 33, 3) := by decide +kernel
theorem dX4_passWord_91 : decode cX4_passWord 91 = .ok (.aload_n 0, 1) := by decide +kernel
theorem dX4_passWord_92 : decode cX4_passWord 92 = .ok (.getfield 19, 3) := by decide +kernel
theorem dX4_passWord_95 : decode cX4_passWord 95 = .ok (.iload_n 1, 1) := by decide +kernel
theorem dX4_passWord_96 : decode cX4_passWord 96 = .ok (.iconst 2, 1) := by decide +kernel
theorem dX4_passWord_97 : decode cX4_passWord 97 = .ok (.iadd, 1) := by decide +kernel
theorem dX4_passWord_98 : decode cX4_passWord 98 = .ok (.iaload, 1) := by decide +kernel
theorem dX4_passWord_99 : decode cX4_passWord 99 = .ok (.bipush 98, 2) := by decide +kernel
theorem dX4_passWord_101 : decode cX4_passWord 101 = .ok (.if_icmp .ne 20, 3) := by decide +kernel
theorem dX4_passWord_104 : decode cX4_passWord 104 = .ok (.aload_n 0, 1) := by decide +kernel
theorem dX4_passWord_105 : decode cX4_passWord 105 = .ok (.getfield 19, 3) := by decide +kernel
theorem dX4_passWord_108 : decode cX4_passWord 108 = .ok (.iload_n 1, 1) := by decide +kernel
theorem dX4_passWord_109 : decode cX4_passWord 109 = .ok (.iconst 3, 1) := by decide +kernel
theorem dX4_passWord_110 : decode cX4_passWord 110 = .ok (.iadd, 1) := by decide +kernel
theorem dX4_passWord_111 : decode cX4_passWord 111 = .ok (.iaload, 1) := by decide +kernel
theorem dX4_passWord_112 : decode cX4_passWord 112 = .ok (.bipush 101, 2) := by decide +kernel
theorem dX4_passWord_114 : decode cX4_passWord 114 = .ok (.if_icmp .ne 7, 3) := by decide +kernel
theorem dX4_passWord_117 : decode cX4_passWord 117 = .ok (.iconst 1, 1) := by decide +kernel
theorem dX4_passWord_118 : decode cX4_passWord 118 = .ok (.goto 4, 3) := by decide +kernel
theorem dX4_passWord_121 : decode cX4_passWord 121 = .ok (.iconst 0, 1) := by decide +kernel
theorem dX4_passWord_122 : decode cX4_passWord 122 = .ok (.ireturn, 1) := by decide +kernel
theorem dX4_passNumber_0 : decode cX4_passNumber 0 = .ok (.iconst (-1), 1) := by decide +kernel
theorem dX4_passNumber_1 : decode cX4_passNumber 1 = .ok (.istore_n 1, 1) := by decide +kernel
theorem dX4_passNumber_2 : decode cX4_passNumber 2 = .ok (.aload_n 0, 1) := by decide +kernel
theorem dX4_passNumber_3 : decode cX4_passNumber 3 = .ok (.getfield 25, 3) := by decide +kernel
theorem dX4_passNumber_6 : decode cX4_passNumber 6 = .ok (.aload_n 0, 1) := by decide +kernel
theorem dX4_passNumber_7 : decode cX4_passNumber 7 = .ok (.getfield 22, 3) := by decide +kernel
theorem dX4_passNumber_10 : decode cX4_passNumber 10 = .ok (.if_icmp .ge 78, 3) := by decide +kernel
theorem dX4_passNumber_13 : decode cX4_passNumber 13 = .ok (.aload_n 0, 1) := by decide +kernel
theorem dX4_passNumber_14 : decode cX4_passNumber 14 = .ok (.getfield 19, 3) := by decide +kernel
theorem dX4_passNumber_17 : decode cX4_passNumber 17 = .ok (.aload_n 0, 1) := by decide +kernel
theorem dX4_passNumber_18 : decode cX4_passNumber 18 = .ok (.getfield 25, 3) := by decide +kernel
theorem dX4_passNumber_21 : decode cX4_passNumber 21 = .ok (.iaload, 1) := by decide +kernel
theorem dX4_passNumber_22 : decode cX4_passNumber 22 = .ok (.bipush 48, 2) := by decide +kernel
theorem dX4_passNumber_24 : decode cX4_passNumber 24 = .ok (.if_icmp .lt 64, 3) := by decide +kernel
theorem dX4_passNumber_27 : decode cX4_passNumber 27 = .ok (.aload_n 0, 1) := by decide +kernel
theorem dX4_passNumber_28 : decode cX4_passNumber 28 = .ok (.getfield 19, 3) := by decide +kernel
theorem dX4_passNumber_31 : decode cX4_passNumber 31 = .ok (.aload_n 0, 1) := by decide +kernel
theorem dX4_passNumber_32 : decode cX4_passNumber 32 = .ok (.getfield 25, 3) := by decide +kernel
theorem dX4_passNumber_35 : decode cX4_passNumber 35 = .ok (.iaload, 1) := by decide +kernel
theorem dX4_passNumber_36 : decode cX4_passNumber 36 = .ok (.bipush 57, 2) := by decide +kernel
theorem dX4_passNumber_38 : decode cX4_passNumber 38 = .ok (.if_icmp .gt 50, 3) := by decide +kernel
theorem dX4_passNumber_41 : decode cX4_passNumber 41 = .ok (.iload_n 1, 1) := by decide +kernel
theorem dX4_passNumber_42 : decode cX4_passNumber 42 = .ok (.iconst (-1), 1) := by decide +kernel
theorem dX4_passNumber_43 : decode cX4_passNumber 43 = .ok (.if_icmp .ne 7, 3) := by decide +kernel
theorem dX4_passNumber_46 : decode cX4_passNumber 46 = .ok (.iconst 0, 1) := by decide +kernel
theorem dX4_passNumber_47 : decode cX4_passNumber 47 = .ok (.goto 9, 3) := by decide +kernel
theorem dX4_passNumber_50 : decode cX4_passNumber 50 = .ok (.iload_n 1, 1) := by decide +kernel
theorem dX4_passNumber_51 : decode cX4_passNumber 51 = .ok (.bipush 7, 2) := by decide +kernel
theorem dX4_passNumber_53 : decode cX4_passNumber 53 = .ok (.invokestatic 28, 3) := by decide +kernel
theorem dX4_passNumber_56 : decode cX4_passNumber 56 = .ok (.istore_n 2, 1) := by decide +kernel
theorem dX4_passNumber_57 : decode cX4_passNumber 57 = .ok (.bipush 10, 2) := by decide +kernel
theorem dX4_passNumber_59 : decode cX4_passNumber 59 = .ok (.iload_n 2, 1) := by decide +kernel
theorem dX4_passNumber_60 : decode cX4_passNumber 60 = .ok (.imul, 1) := by decide +kernel
theorem dX4_passNumber_61 : decode cX4_passNumber 61 = .ok (.aload_n 0, 1) := by decide +kernel
theorem dX4_passNumber_62 : decode cX4_passNumber 62 = .ok (.getfield 19, 3) := by decide +kernel
theorem dX4_passNumber_65 : decode cX4_passNumber 65 = .ok (.aload_n 0, 1) := by decide +kernel
theorem dX4_passNumber_66 : decode cX4_passNumber 66 = .ok (.getfield 25, 3) := by decide +kernel
theorem dX4_passNumber_69 : decode cX4_passNumber 69 = .ok (.iaload, 1) := by decide +kernel
theorem dX4_passNumber_70 : decode cX4_passNumber 70 = .ok (.iadd, 1) := by decide +kernel
theorem dX4_passNumber_71 : decode cX4_passNumber 71 = .ok (.bipush 48, 2) := by decide +kernel
theorem dX4_passNumber_73 : decode cX4_passNumber 73 = .ok (.isub, 1) := by decide +kernel
theorem dX4_passNumber_74 : decode cX4_passNumber 74 = .ok (.istore_n 1, 1) := by decide +kernel
theorem dX4_passNumber_75 : decode cX4_passNumber 75 = .ok (.aload_n 0, 1) := by decide +kernel
theorem dX4_passNumber_76 : decode cX4_passNumber 76 = .ok (.dup, 1) := by decide +kernel
theorem dX4_passNumber_77 : decode cX4_passNumber 77 = .ok (.getfield 25, 3) := by decide +kernel
theorem dX4_passNumber_80 : decode cX4_passNumber 80 = .ok (.iconst 1, 1) := by decide +kernel
theorem dX4_passNumber_81 : decode cX4_passNumber 81 = .ok (.iadd, 1) := by decide +kernel
theorem dX4_passNumber_82 : decode cX4_passNumber 82 = .ok (.putfield 25, 3) := by decide +kernel
theorem dX4_passNumber_85 : decode cX4_passNumber 85 = .ok (.goto (-83), 3) := by decide +kernel
theorem dX4_passNumber_88 : decode cX4_passNumber 88 = .ok (.iload_n 1, 1) := by decide +kernel
theorem dX4_passNumber_89 : decode cX4_passNumber 89 = .ok (.ireturn, 1) := by decide +kernel
theorem dX4_canStand_0 : decode cX4_canStand 0 = .ok (.iload_n 1, 1) := by decide +kernel
theorem dX4_canStand_1 : decode cX4_canStand 1 = .ok (.ifCond .ne 7, 3) := by decide +kernel
theorem dX4_canStand_4 : decode cX4_canStand 4 = .ok (.iconst 1, 1) := by decide +kernel
theorem dX4_canStand_5 : decode cX4_canStand 5 = .ok (.goto 4, 3) := by decide +kernel
theorem dX4_canStand_8 : decode cX4_canStand 8 = .ok (.iconst 0, 1) := by decide +kernel
theorem dX4_canStand_9 : decode cX4_canStand 9 = .ok (.istore_n 2, 1) := by decide +kernel
theorem dX4_canStand_10 : decode cX4_canStand 10 = .ok (.iconst 0, 1) := by decide +kernel
theorem dX4_canStand_11 : decode cX4_canStand 11 = .ok (.istore_n 3, 1) := by decide +kernel
theorem dX4_canStand_12 : decode cX4_canStand 12 = .ok (.iload_n 3, 1) := by decide +kernel
theorem dX4_canStand_13 : decode cX4_canStand 13 = .ok (.iload_n 1, 1) := by decide +kernel
theorem dX4_canStand_14 : decode cX4_canStand 14 = .ok (.if_icmp .ge 32, 3) := by decide +kernel
theorem dX4_canStand_17 : decode cX4_canStand 17 = .ok (.aload_n 0, 1) := by decide +kernel
theorem dX4_canStand_18 : decode cX4_canStand 18 = .ok (.iload_n 1, 1) := by decide +kernel
theorem dX4_canStand_19 : decode cX4_canStand 19 = .ok (.iload_n 3, 1) := by decide +kernel
theorem dX4_canStand_20 : decode cX4_canStand 20 = .ok (.invokevirtual 55, 3) := by decide +kernel
theorem dX4_canStand_23 : decode cX4_canStand 23 = .ok (.istore 4, 2) := by decide +kernel
theorem dX4_canStand_25 : decode cX4_canStand 25 = .ok (.iload 4, 2) := by decide +kernel
theorem dX4_canStand_27 : decode cX4_canStand 27 = .ok (.ifCond .ne 5, 3) := by decide +kernel
theorem dX4_canStand_30 : decode cX4_canStand 30 = .ok (.iconst 0, 1) := by decide +kernel
theorem dX4_canStand_31 : decode cX4_canStand 31 = .ok (.ireturn, 1) := by decide +kernel
theorem dX4_canStand_32 : decode cX4_canStand 32 = .ok (.iload 4, 2) := by decide +kernel
theorem dX4_canStand_34 : decode cX4_canStand 34 = .ok (.iconst 1, 1) := by decide +kernel
theorem dX4_canStand_35 : decode cX4_canStand 35 = .ok (.if_icmp .ne 5, 3) := by decide +kernel
theorem dX4_canStand_38 : decode cX4_canStand 38 = .ok (.iconst 1, 1) := by decide +kernel
theorem dX4_canStand_39 : decode cX4_canStand 39 = .ok (.istore_n 2, 1) := by decide +kernel
theorem dX4_canStand_40 : decode cX4_canStand 40 = .ok (.iinc 3 1, 3) := by decide +kernel
theorem dX4_canStand_43 : decode cX4_canStand 43 = .ok (.goto (-31), 3) := by decide +kernel
theorem dX4_canStand_46 : decode cX4_canStand 46 = .ok (.iload_n 2, 1) := by decide +kernel
theorem dX4_canStand_47 : decode cX4_canStand 47 = .ok (.ireturn, 1) := by decide +kernel
theorem dX4_apart_0 : decode cX4_apart 0 = .ok (.aload_n 0, 1) := by decide +kernel
theorem dX4_apart_1 : decode cX4_apart 1 = .ok (.getfield 9, 3) := by decide +kernel
theorem dX4_apart_4 : decode cX4_apart 4 = .ok (.iconst 3, 1) := by decide +kernel
theorem dX4_apart_5 : decode cX4_apart 5 = .ok (.iload_n 1, 1) := by decide +kernel
theorem dX4_apart_6 : decode cX4_apart 6 = .ok (.imul, 1) := by decide +kernel
theorem dX4_apart_7 : decode cX4_apart 7 = .ok (.iload_n 3, 1) := by decide +kernel
theorem dX4_apart_8 : decode cX4_apart 8 = .ok (.iadd, 1) := by decide +kernel
theorem dX4_apart_9 : decode cX4_apart 9 = .ok (.iaload, 1) := by decide +kernel
theorem dX4_apart_10 : decode cX4_apart 10 = .ok (.aload_n 0, 1) := by decide +kernel
theorem dX4_apart_11 : decode cX4_apart 11 = .ok (.getfield 9, 3) := by decide +kernel
theorem dX4_apart_14 : decode cX4_apart 14 = .ok (.iconst 3, 1) := by decide +kernel
theorem dX4_apart_15 : decode cX4_apart 15 = .ok (.iload_n 2, 1) := by decide +kernel
theorem dX4_apart_16 : decode cX4_apart 16 = .ok (.imul, 1) := by decide +kernel
theorem dX4_apart_17 : decode cX4_apart 17 = .ok (.iload_n 3, 1) := by decide +kernel
theorem dX4_apart_18 : decode cX4_apart 18 = .ok (.iadd, 1) := by decide +kernel
theorem dX4_apart_19 : decode cX4_apart 19 = .ok (.iaload, 1) := by decide +kernel
theorem dX4_apart_20 : decode cX4_apart 20 = .ok (.isub, 1) := by decide +kernel
theorem dX4_apart_21 : decode cX4_apart 21 = .ok (.invokestatic 58, 3) := by decide +kernel
theorem dX4_apart_24 : decode cX4_apart 24 = .ok (.ireturn, 1) := by decide +kernel
theorem dX4_distance_0 : decode cX4_distance 0 = .ok (.aload_n 0, 1) := by decide +kernel
theorem dX4_distance_1 : decode cX4_distance 1 = .ok (.iload_n 1, 1) := by decide +kernel
theorem dX4_distance_2 : decode cX4_distance 2 = .ok (.iload_n 2, 1) := by decide +kernel
theorem dX4_distance_3 : decode cX4_distance 3 = .ok (.iconst 0, 1) := by decide +kernel
theorem dX4_distance_4 : decode cX4_distance 4 = .ok (.invokevirtual 62, 3) := by decide +kernel
theorem dX4_distance_7 : decode cX4_distance 7 = .ok (.aload_n 0, 1) := by decide +kernel
theorem dX4_distance_8 : decode cX4_distance 8 = .ok (.iload_n 1, 1) := by decide +kernel
theorem dX4_distance_9 : decode cX4_distance 9 = .ok (.iload_n 2, 1) := by decide +kernel
theorem dX4_distance_10 : decode cX4_distance 10 = .ok (.iconst 1, 1) := by decide +kernel
theorem dX4_distance_11 : decode cX4_distance 11 = .ok (.invokevirtual 62, 3) := by decide +kernel
theorem dX4_distance_14 : decode cX4_distance 14 = .ok (.iadd, 1) := by decide +kernel
theorem dX4_distance_15 : decode cX4_distance 15 = .ok (.aload_n 0, 1) := by decide +kernel
theorem dX4_distance_16 : decode cX4_distance 16 = .ok (.iload_n 1, 1) := by decide +kernel
theorem dX4_distance_17 : decode cX4_distance 17 = .ok (.iload_n 2, 1) := by decide +kernel
theorem dX4_distance_18 : decode cX4_distance 18 = .ok (.iconst 2, 1) := by decide +kernel
theorem dX4_distance_19 : decode cX4_distance 19 = .ok (.invokevirtual 62, 3) := by decide +kernel
theorem dX4_distance_22 : decode cX4_distance 22 = .ok (.iadd, 1) := by decide +kernel
theorem dX4_distance_23 : decode cX4_distance 23 = .ok (.ireturn, 1) := by decide +kernel
theorem dX4_isSolid_0 : decode cX4_isSolid 0 = .ok (.iconst 0, 1) := by decide +kernel
theorem dX4_isSolid_1 : decode cX4_isSolid 1 = .ok (.istore_n 1, 1) := by decide +kernel
theorem dX4_isSolid_2 : decode cX4_isSolid 2 = .ok (.iload_n 1, 1) := by decide +kernel
theorem dX4_isSolid_3 : decode cX4_isSolid 3 = .ok (.aload_n 0, 1) := by decide +kernel
theorem dX4_isSolid_4 : decode cX4_isSolid 4 = .ok (.getfield 15, 3) := by decide +kernel
theorem dX4_isSolid_7 : decode cX4_isSolid 7 = .ok (.if_icmp .ge 42, 3) := by decide +kernel
theorem dX4_isSolid_10 : decode cX4_isSolid 10 = .ok (.iconst 0, 1) := by decide +kernel
theorem dX4_isSolid_11 : decode cX4_isSolid 11 = .ok (.istore_n 2, 1) := by decide +kernel
theorem dX4_isSolid_12 : decode cX4_isSolid 12 = .ok (.iload_n 2, 1) := by decide +kernel
theorem dX4_isSolid_13 : decode cX4_isSolid 13 = .ok (.iload_n 1, 1) := by decide +kernel
theorem dX4_isSolid_14 : decode cX4_isSolid 14 = .ok (.if_icmp .ge 29, 3) := by decide +kernel
theorem dX4_isSolid_17 : decode cX4_isSolid 17 = .ok (.aload_n 0, 1) := by decide +kernel
theorem dX4_isSolid_18 : decode cX4_isSolid 18 = .ok (.iload_n 1, 1) := by decide +kernel
theorem dX4_isSolid_19 : decode cX4_isSolid 19 = .ok (.iload_n 2, 1) := by decide +kernel
theorem dX4_isSolid_20 : decode cX4_isSolid 20 = .ok (.invokevirtual 66, 3) := by decide +kernel
theorem dX4_isSolid_23 : decode cX4_isSolid 23 = .ok (.ifCond .eq 14, 3) := by decide +kernel
theorem dX4_isSolid_26 : decode cX4_isSolid 26 = .ok (.aload_n 0, 1) := by decide +kernel
theorem dX4_isSolid_27 : decode cX4_isSolid 27 = .ok (.iload_n 1, 1) := by decide +kernel
theorem dX4_isSolid_28 : decode cX4_isSolid 28 = .ok (.iload_n 2, 1) := by decide +kernel
theorem dX4_isSolid_29 : decode cX4_isSolid 29 = .ok (.invokevirtual 70, 3) := by decide +kernel
theorem dX4_isSolid_32 : decode cX4_isSolid 32 = .ok (.ifCond .ne 5, 3) := by decide +kernel
theorem dX4_isSolid_35 : decode cX4_isSolid 35 = .ok (.iconst 0, 1) := by decide +kernel
theorem dX4_isSolid_36 : decode cX4_isSolid 36 = .ok (.ireturn, 1) := by decide +kernel
theorem dX4_isSolid_37 : decode cX4_isSolid 37 = .ok (.iinc 2 1, 3) := by decide +kernel
theorem dX4_isSolid_40 : decode cX4_isSolid 40 = .ok (.goto (-28), 3) := by decide +kernel
theorem dX4_isSolid_43 : decode cX4_isSolid 43 = .ok (.iinc 1 1, 3) := by decide +kernel
theorem dX4_isSolid_46 : decode cX4_isSolid 46 = .ok (.goto (-44), 3) := by decide +kernel
theorem dX4_isSolid_49 : decode cX4_isSolid 49 = .ok (.iconst 1, 1) := by decide +kernel
theorem dX4_isSolid_50 : decode cX4_isSolid 50 = .ok (.ireturn, 1) := by decide +kernel
theorem dX4_shareEdge_0 : decode cX4_shareEdge 0 = .ok (.aload_n 0, 1) := by decide +kernel
theorem dX4_shareEdge_1 : decode cX4_shareEdge 1 = .ok (.iload_n 1, 1) := by decide +kernel
theorem dX4_shareEdge_2 : decode cX4_shareEdge 2 = .ok (.iload_n 2, 1) := by decide +kernel
theorem dX4_shareEdge_3 : decode cX4_shareEdge 3 = .ok (.invokevirtual 55, 3) := by decide +kernel
theorem dX4_shareEdge_6 : decode cX4_shareEdge 6 = .ok (.iconst 2, 1) := by decide +kernel
theorem dX4_shareEdge_7 : decode cX4_shareEdge 7 = .ok (.if_icmp .ne 40, 3) := by decide +kernel
theorem dX4_shareEdge_10 : decode cX4_shareEdge 10 = .ok (.aload_n 0, 1) := by decide +kernel
theorem dX4_shareEdge_11 : decode cX4_shareEdge 11 = .ok (.iload_n 1, 1) := by decide +kernel
theorem dX4_shareEdge_12 : decode cX4_shareEdge 12 = .ok (.iload_n 2, 1) := by decide +kernel
theorem dX4_shareEdge_13 : decode cX4_shareEdge 13 = .ok (.iconst 0, 1) := by decide +kernel
theorem dX4_shareEdge_14 : decode cX4_shareEdge 14 = .ok (.invokevirtual 62, 3) := by decide +kernel
theorem dX4_shareEdge_17 : decode cX4_shareEdge 17 = .ok (.iconst 2, 1) := by decide +kernel
theorem dX4_shareEdge_18 : decode cX4_shareEdge 18 = .ok (.if_icmp .ge 29, 3) := by decide +kernel
theorem dX4_shareEdge_21 : decode cX4_shareEdge 21 = .ok (.aload_n 0, 1) := by decide +kernel
theorem dX4_shareEdge_22 : decode cX4_shareEdge 22 = .ok (.iload_n 1, 1) := by decide +kernel
theorem dX4_shareEdge_23 : decode cX4_shareEdge 23 = .ok (.iload_n 2, 1) := by decide +kernel
theorem dX4_shareEdge_24 : decode cX4_shareEdge 24 = .ok (.iconst 1, 1) := by decide +kernel
theorem dX4_shareEdge_25 : decode cX4_shareEdge 25 = .ok (.invokevirtual 62, 3) := by decide +kernel
theorem dX4_shareEdge_28 : decode cX4_shareEdge 28 = .ok (.iconst 2, 1) := by decide +kernel
theorem dX4_shareEdge_29 : decode cX4_shareEdge 29 = .ok (.if_icmp .ge 18, 3) := by decide +kernel
theorem dX4_shareEdge_32 : decode cX4_shareEdge 32 = .ok (.aload_n 0, 1) := by decide +kernel
theorem dX4_shareEdge_33 : decode cX4_shareEdge 33 = .ok (.iload_n 1, 1) := by decide +kernel
theorem dX4_shareEdge_34 : decode cX4_shareEdge 34 = .ok (.iload_n 2, 1) := by decide +kernel
theorem dX4_shareEdge_35 : decode cX4_shareEdge 35 = .ok (.iconst 2, 1) := by decide +kernel
theorem dX4_shareEdge_36 : decode cX4_shareEdge 36 = .ok (.invokevirtual 62, 3) := by decide +kernel
theorem dX4_shareEdge_39 : decode cX4_shareEdge 39 = .ok (.iconst 2, 1) := by decide +kernel
theorem dX4_shareEdge_40 : decode cX4_shareEdge 40 = .ok (.if_icmp .ge 7, 3) := by decide +kernel
theorem dX4_shareEdge_43 : decode cX4_shareEdge 43 = .ok (.iconst 1, 1) := by decide +kernel
theorem dX4_shareEdge_44 : decode cX4_shareEdge 44 = .ok (.goto 4, 3) := by decide +kernel
theorem dX4_shareEdge_47 : decode cX4_shareEdge 47 = .ok (.iconst 0, 1) := by decide +kernel
theorem dX4_shareEdge_48 : decode cX4_shareEdge 48 = .ok (.ireturn, 1) := by decide +kernel
theorem dX4_haveThird_0 : decode cX4_haveThird 0 = .ok (.iconst 0, 1) := by decide +kernel
theorem dX4_haveThird_1 : decode cX4_haveThird 1 = .ok (.istore_n 3, 1) := by decide +kernel
theorem dX4_haveThird_2 : decode cX4_haveThird 2 = .ok (.iload_n 3, 1) := by decide +kernel
theorem dX4_haveThird_3 : decode cX4_haveThird 3 = .ok (.aload_n 0, 1) := by decide +kernel
theorem dX4_haveThird_4 : decode cX4_haveThird 4 = .ok (.getfield 15, 3) := by decide +kernel
theorem dX4_haveThird_7 : decode cX4_haveThird 7 = .ok (.if_icmp .ge 31, 3) := by decide +kernel
theorem dX4_haveThird_10 : decode cX4_haveThird 10 = .ok (.aload_n 0, 1) := by decide +kernel
theorem dX4_haveThird_11 : decode cX4_haveThird 11 = .ok (.iload_n 1, 1) := by decide +kernel
theorem dX4_haveThird_12 : decode cX4_haveThird 12 = .ok (.iload_n 3, 1) := by decide +kernel
theorem dX4_haveThird_13 : decode cX4_haveThird 13 = .ok (.invokevirtual 55, 3) := by decide +kernel
theorem dX4_haveThird_16 : decode cX4_haveThird 16 = .ok (.iconst 1, 1) := by decide +kernel
theorem dX4_haveThird_17 : decode cX4_haveThird 17 = .ok (.if_icmp .ne 15, 3) := by decide +kernel
theorem dX4_haveThird_20 : decode cX4_haveThird 20 = .ok (.aload_n 0, 1) := by decide +kernel
theorem dX4_haveThird_21 : decode cX4_haveThird 21 = .ok (.iload_n 3, 1) := by decide +kernel
theorem dX4_haveThird_22 : decode cX4_haveThird 22 = .ok (.iload_n 2, 1) := by decide +kernel
theorem dX4_haveThird_23 : decode cX4_haveThird 23 = .ok (.invokevirtual 55, 3) := by decide +kernel
theorem dX4_haveThird_26 : decode cX4_haveThird 26 = .ok (.iconst 1, 1) := by decide +kernel
theorem dX4_haveThird_27 : decode cX4_haveThird 27 = .ok (.if_icmp .ne 5, 3) := by decide +kernel
theorem dX4_haveThird_30 : decode cX4_haveThird 30 = .ok (.iconst 1, 1) := by decide +kernel
theorem dX4_haveThird_31 : decode cX4_haveThird 31 = .ok (.ireturn, 1) := by decide +kernel
theorem dX4_haveThird_32 : decode cX4_haveThird 32 = .ok (.iinc 3 1, 3) := by decide +kernel
theorem dX4_haveThird_35 : decode cX4_haveThird 35 = .ok (.goto (-33), 3) := by decide +kernel
theorem dX4_haveThird_38 : decode cX4_haveThird 38 = .ok (.iconst 0, 1) := by decide +kernel
theorem dX4_haveThird_39 : decode cX4_haveThird 39 = .ok (.ireturn, 1) := by decide +kernel
theorem dX5_init_0 : decode cX5_init 0 = .ok (.aload_n 0, 1) := by decide +kernel
theorem dX5_init_1 : decode cX5_init 1 = .ok (.invokespecial 3, 3) := by decide +kernel
theorem dX5_init_4 : decode cX5_init 4 = .ok (.aload_n 0, 1) := by decide +kernel
theorem dX5_init_5 : decode cX5_init 5 = .ok (.lconst 0, 1) := by decide +kernel
theorem dX5_init_6 : decode cX5_init 6 = .ok (.putfield 9, 3) := by decide +kernel
theorem dX5_init_9 : decode cX5_init 9 = .ok (.aload_n 0, 1) := by decide +kernel
theorem dX5_init_10 : decode cX5_init 10 = .ok (.new 15, 3) := by decide +kernel
theorem dX5_init_13 : decode cX5_init 13 = .ok (.dup, 1) := by decide +kernel
theorem dX5_init_14 : decode cX5_init 14 = .ok (.invokespecial 17, 3) := by decide +kernel
theorem dX5_init_17 : decode cX5_init 17 = .ok (.putfield 18, 3) := by decide +kernel
theorem dX5_init_20 : decode cX5_init 20 = .ok (.aload_n 0, 1) := by decide +kernel
theorem dX5_init_21 : decode cX5_init 21 = .ok (.bipush 60, 2) := by decide +kernel
theorem dX5_init_23 : decode cX5_init 23 = .ok (.newarray .int, 2) := by decide +kernel
theorem dX5_init_25 : decode cX5_init 25 = .ok (.putfield 22, 3) := by decide +kernel
theorem dX5_init_28 : decode cX5_init 28 = .ok (.aload_n 0, 1) := by decide +kernel
theorem dX5_init_29 : decode cX5_init 29 = .ok (.iconst 0, 1) := by decide +kernel
theorem dX5_init_30 : decode cX5_init 30 = .ok (.putfield 26, 3) := by decide +kernel
theorem dX5_init_33 : decode cX5_init 33 = .ok (.aload_n 0, 1) := by decide +kernel
theorem dX5_init_34 : decode cX5_init 34 = .ok (.lconst 0, 1) := by decide +kernel
theorem dX5_init_35 : decode cX5_init 35 = .ok (.putfield 30, 3) := by decide +kernel
theorem dX5_init_38 : decode cX5_init 38 = .ok (.return_, 1) := by decide +kernel
theorem dX5_find_0 : decode cX5_find 0 = .ok (.aload_n 0, 1) := by decide +kernel
theorem dX5_find_1 : decode cX5_find 1 = .ok (.lconst 0, 1) := by decide +kernel
theorem dX5_find_2 : decode cX5_find 2 = .ok (.putfield 9, 3) := by decide +kernel
theorem dX5_find_5 : decode cX5_find 5 = .ok (.aload_n 0, 1) := by decide +kernel
theorem dX5_find_6 : decode cX5_find 6 = .ok (.lconst 0, 1) := by decide +kernel
theorem dX5_find_7 : decode cX5_find 7 = .ok (.putfield 30, 3) := by decide +kernel
theorem dX5_find_10 : decode cX5_find 10 = .ok (.aload_n 0, 1) := by decide +kernel
theorem dX5_find_11 : decode cX5_find 11 = .ok (.iconst 0, 1) := by decide +kernel
theorem dX5_find_12 : decode cX5_find 12 = .ok (.putfield 26, 3) := by decide +kernel
theorem dX5_find_15 : decode cX5_find 15 = .ok (.aload_n 0, 1) := by decide +kernel
theorem dX5_find_16 : decode cX5_find 16 = .ok (.getfield 18, 3) := by decide +kernel
theorem dX5_find_19 : decode cX5_find 19 = .ok (.iload_n 2, 1) := by decide +kernel
theorem dX5_find_20 : decode cX5_find 20 = .ok (.aload_n 1, 1) := by decide +kernel
theorem dX5_find_21 : decode cX5_find 21 = .ok (.getfield 33, 3) := by decide +kernel
theorem dX5_find_24 : decode cX5_find 24 = .ok (.invokevirtual 38, 3) := by decide +kernel
theorem dX5_find_27 : decode cX5_find 27 = .ok (.iconst 1, 1) := by decide +kernel
theorem dX5_find_28 : decode cX5_find 28 = .ok (.istore_n 3, 1) := by decide +kernel
theorem dX5_find_29 : decode cX5_find 29 = .ok (.iload_n 3, 1) := by decide +kernel
theorem dX5_find_30 : decode cX5_find 30 = .ok (.sipush 3000, 3) := by decide +kernel
theorem dX5_find_33 : decode cX5_find 33 = .ok (.if_icmp .gt 58, 3) := by decide +kernel
theorem dX5_find_36 : decode cX5_find 36 = .ok (.aload_n 0, 1) := by decide +kernel
theorem dX5_find_37 : decode cX5_find 37 = .ok (.getfield 18, 3) := by decide +kernel
theorem dX5_find_40 : decode cX5_find 40 = .ok (.getfield 42, 3) := by decide +kernel
theorem dX5_find_43 : decode cX5_find 43 = .ok (.aload_n 1, 1) := by decide +kernel
theorem dX5_find_44 : decode cX5_find 44 = .ok (.getfield 33, 3) := by decide +kernel
theorem dX5_find_47 : decode cX5_find 47 = .ok (.if_icmp .ne 5, 3) := by decide +kernel
theorem dX5_find_50 : decode cX5_find 50 = .ok (.iload_n 3, 1) := by decide +kernel
theorem dX5_find_51 : decode cX5_find 51 = .ok (.ireturn, 1) := by decide +kernel
theorem dX5_find_52 : decode cX5_find 52 = .ok (.aload_n 0, 1) := by decide +kernel
theorem dX5_find_53 : decode cX5_find 53 = .ok (.aload_n 1, 1) := by decide +kernel
theorem dX5_find_54 : decode cX5_find 54 = .ok (.invokevirtual 45, 3) := by decide +kernel
theorem dX5_find_57 : decode cX5_find 57 = .ok (.istore 4, 2) := by decide +kernel
theorem dX5_find_59 : decode cX5_find 59 = .ok (.iload 4, 2) := by decide +kernel
theorem dX5_find_61 : decode cX5_find 61 = .ok (.iconst (-1), 1) := by decide +kernel
theorem dX5_find_62 : decode cX5_find 62 = .ok (.if_icmp .eq 13, 3) := by decide +kernel
theorem dX5_find_65 : decode cX5_find 65 = .ok (.aload_n 0, 1) := by decide +kernel
theorem dX5_find_66 : decode cX5_find 66 = .ok (.aload_n 1, 1) := by decide +kernel
theorem dX5_find_67 : decode cX5_find 67 = .ok (.iload 4, 2) := by decide +kernel
theorem dX5_find_69 : decode cX5_find 69 = .ok (.invokevirtual 49, 3) := by decide +kernel
theorem dX5_find_72 : decode cX5_find 72 = .ok (.goto 13, 3) := by decide +kernel
theorem dX5_find_75 : decode cX5_find 75 = .ok (.aload_n 0, 1) := by decide +kernel
theorem dX5_find_76 : decode cX5_find 76 = .ok (.invokevirtual 53, 3) := by decide +kernel
theorem dX5_find_79 : decode cX5_find 79 = .ok (.ifCond .ne 6, 3) := by decide +kernel
theorem dX5_find_82 : decode cX5_find 82 = .ok (.bipush (-2), 2) := by decide +kernel
theorem dX5_find_84 : decode cX5_find 84 = .ok (.ireturn, 1) := by decide +kernel
theorem dX5_find_85 : decode cX5_find 85 = .ok (.iinc 3 1, 3) := by decide +kernel
theorem dX5_find_88 : decode cX5_find 88 = .ok (.goto (-59), 3) := by decide +kernel
theorem dX5_find_91 : decode cX5_find 91 = .ok (.bipush (-3), 2) := by decide +kernel
theorem dX5_find_93 : decode cX5_find 93 = .ok (.ireturn, 1) := by decide +kernel
theorem dX5_leastEdge_0 : decode cX5_leastEdge 0 = .ok (.iconst 0, 1) := by decide +kernel
theorem dX5_leastEdge_1 : decode cX5_leastEdge 1 = .ok (.istore_n 2, 1) := by decide +kernel
theorem dX5_leastEdge_2 : decode cX5_leastEdge 2 = .ok (.iload_n 2, 1) := by decide +kernel
theorem dX5_leastEdge_3 : decode cX5_leastEdge 3 = .ok (.aload_n 1, 1) := by decide +kernel
theorem dX5_leastEdge_4 : decode cX5_leastEdge 4 = .ok (.getfield 57, 3) := by decide +kernel
theorem dX5_leastEdge_7 : decode cX5_leastEdge 7 = .ok (.if_icmp .ge 53, 3) := by decide +kernel
theorem dX5_leastEdge_10 : decode cX5_leastEdge 10 = .ok (.aload_n 0, 1) := by decide +kernel
theorem dX5_leastEdge_11 : decode cX5_leastEdge 11 = .ok (.getfield 30, 3) := by decide +kernel
theorem dX5_leastEdge_14 : decode cX5_leastEdge 14 = .ok (.iload_n 2, 1) := by decide +kernel
theorem dX5_leastEdge_15 : decode cX5_leastEdge 15 = .ok (.lushr, 1) := by decide +kernel
theorem dX5_leastEdge_16 : decode cX5_leastEdge 16 = .ok (.lconst 1, 1) := by decide +kernel
theorem dX5_leastEdge_17 : decode cX5_leastEdge 17 = .ok (.land, 1) := by decide +kernel
theorem dX5_leastEdge_18 : decode cX5_leastEdge 18 = .ok (.lconst 0, 1) := by decide +kernel
theorem dX5_leastEdge_19 : decode cX5_leastEdge 19 = .ok (.lcmp, 1) := by decide +kernel
theorem dX5_leastEdge_20 : decode cX5_leastEdge 20 = .ok (.ifCond .ne 34, 3) := by decide +kernel
theorem dX5_leastEdge_23 : decode cX5_leastEdge 23 = .ok (.aload_n 0, 1) := by decide +kernel
theorem dX5_leastEdge_24 : decode cX5_leastEdge 24 = .ok (.getfield 18, 3) := by decide +kernel
theorem dX5_leastEdge_27 : decode cX5_leastEdge 27 = .ok (.aload_n 1, 1) := by decide +kernel
theorem dX5_leastEdge_28 : decode cX5_leastEdge 28 = .ok (.iload_n 2, 1) := by decide +kernel
theorem dX5_leastEdge_29 : decode cX5_leastEdge 29 = .ok (.iconst 0, 1) := by decide +kernel
theorem dX5_leastEdge_30 : decode cX5_leastEdge 30 = .ok (.invokevirtual 60, 3) := by decide +kernel
theorem dX5_leastEdge_33 : decode cX5_leastEdge 33 = .ok (.invokevirtual 64, 3) := by decide +kernel
theorem dX5_leastEdge_36 : decode cX5_leastEdge 36 = .ok (.aload_n 0, 1) := by decide +kernel
theorem dX5_leastEdge_37 : decode cX5_leastEdge 37 = .ok (.getfield 18, 3) := by decide +kernel
theorem dX5_leastEdge_40 : decode cX5_leastEdge 40 = .ok (.aload_n 1, 1) := by decide +kernel
theorem dX5_leastEdge_41 : decode cX5_leastEdge 41 = .ok (.iload_n 2, 1) := by decide +kernel
theorem dX5_leastEdge_42 : decode cX5_leastEdge 42 = .ok (.iconst 1, 1) := by decide +kernel
theorem dX5_leastEdge_43 : decode cX5_leastEdge 43 = .ok (.invokevirtual 60, 3) := by decide +kernel
theorem dX5_leastEdge_46 : decode cX5_leastEdge 46 = .ok (.invokevirtual 64, 3) := by decide +kernel
theorem dX5_leastEdge_49 : decode cX5_leastEdge 49 = .ok (.if_icmp .eq 5, 3) := by decide +kernel
theorem dX5_leastEdge_52 : decode cX5_leastEdge 52 = .ok (.iload_n 2, 1) := by decide +kernel
theorem dX5_leastEdge_53 : decode cX5_leastEdge 53 = .ok (.ireturn, 1) := by decide +kernel
theorem dX5_leastEdge_54 : decode cX5_leastEdge 54 = .ok (.iinc 2 1, 3) := by decide +kernel
theorem dX5_leastEdge_57 : decode cX5_leastEdge 57 = .ok (.goto (-55), 3) := by decide +kernel
theorem dX5_leastEdge_60 : decode cX5_leastEdge 60 = .ok (.iconst (-1), 1) := by decide +kernel
theorem dX5_leastEdge_61 : decode cX5_leastEdge 61 = .ok (.ireturn, 1) := by decide +kernel
theorem dX5_tell_0 : decode cX5_tell 0 = .ok (.aload_n 0, 1) := by decide +kernel
theorem dX5_tell_1 : decode cX5_tell 1 = .ok (.getfield 18, 3) := by decide +kernel
theorem dX5_tell_4 : decode cX5_tell 4 = .ok (.aload_n 1, 1) := by decide +kernel
theorem dX5_tell_5 : decode cX5_tell 5 = .ok (.iload_n 2, 1) := by decide +kernel
theorem dX5_tell_6 : decode cX5_tell 6 = .ok (.iconst 0, 1) := by decide +kernel
theorem dX5_tell_7 : decode cX5_tell 7 = .ok (.invokevirtual 60, 3) := by decide +kernel
theorem dX5_tell_10 : decode cX5_tell 10 = .ok (.invokevirtual 64, 3) := by decide +kernel
theorem dX5_tell_13 : decode cX5_tell 13 = .ok (.istore_n 3, 1) := by decide +kernel
theorem dX5_tell_14 : decode cX5_tell 14 = .ok (.aload_n 1, 1) := by decide +kernel
theorem dX5_tell_15 : decode cX5_tell 15 = .ok (.getfield 68, 3) := by decide +kernel
theorem dX5_tell_18 : decode cX5_tell 18 = .ok (.iconst 2, 1) := by decide +kernel
theorem dX5_tell_19 : decode cX5_tell 19 = .ok (.iload_n 2, 1) := by decide +kernel
theorem dX5_tell_20 : decode cX5_tell 20 = .ok (.imul, 1) := by decide +kernel
theorem dX5_tell_21 : decode cX5_tell 21 = .ok (.iload_n 3, 1) := by decide +kernel
theorem dX5_tell_22 : decode cX5_tell 22 = .ok (.ifCond .eq 7, 3) := by decide +kernel
theorem dX5_tell_25 : decode cX5_tell 25 = .ok (.iconst 0, 1) := by decide +kernel
theorem dX5_tell_26 : decode cX5_tell 26 = .ok (.goto 4, 3) := by decide +kernel
theorem dX5_tell_29 : decode cX5_tell 29 = .ok (.iconst 1, 1) := by decide +kernel
theorem dX5_tell_30 : decode cX5_tell 30 = .ok (.iadd, 1) := by decide +kernel
theorem dX5_tell_31 : decode cX5_tell 31 = .ok (.iaload, 1) := by decide +kernel
theorem dX5_tell_32 : decode cX5_tell 32 = .ok (.istore 4, 2) := by decide +kernel
theorem dX5_tell_34 : decode cX5_tell 34 = .ok (.aload_n 0, 1) := by decide +kernel
theorem dX5_tell_35 : decode cX5_tell 35 = .ok (.dup, 1) := by decide +kernel
theorem dX5_tell_36 : decode cX5_tell 36 = .ok (.getfield 30, 3) := by decide +kernel
theorem dX5_tell_39 : decode cX5_tell 39 = .ok (.lconst 1, 1) := by decide +kernel
theorem dX5_tell_40 : decode cX5_tell 40 = .ok (.iload_n 2, 1) := by decide +kernel
theorem dX5_tell_41 : decode cX5_tell 41 = .ok (.lshl, 1) := by decide +kernel
theorem dX5_tell_42 : decode cX5_tell 42 = .ok (.lor, 1) := by decide +kernel
theorem dX5_tell_43 : decode cX5_tell 43 = .ok (.putfield 30, 3) := by decide +kernel
theorem dX5_tell_46 : decode cX5_tell 46 = .ok (.aload_n 0, 1) := by decide +kernel
theorem dX5_tell_47 : decode cX5_tell 47 = .ok (.getfield 26, 3) := by decide +kernel
theorem dX5_tell_50 : decode cX5_tell 50 = .ok (.bipush 60, 2) := by decide +kernel
theorem dX5_tell_52 : decode cX5_tell 52 = .ok (.if_icmp .ge 23, 3) := by decide +kernel
theorem dX5_tell_55 : decode cX5_tell 55 = .ok (.aload_n 0, 1) := by decide +kernel
theorem dX5_tell_56 : decode cX5_tell 56 = .ok (.getfield 22, 3) := by decide +kernel
theorem dX5_tell_59 : decode cX5_tell 59 = .ok (.aload_n 0, 1) := by decide +kernel
theorem dX5_tell_60 : decode cX5_tell 60 = .ok (.getfield 26, 3) := by decide +kernel
theorem dX5_tell_63 : decode cX5_tell 63 = .ok (.iload_n 2, 1) := by decide +kernel
theorem dX5_tell_64 : decode cX5_tell 64 = .ok (.iastore, 1) := by decide +kernel
theorem dX5_tell_65 : decode cX5_tell 65 = .ok (.aload_n 0, 1) := by decide +kernel
theorem dX5_tell_66 : decode cX5_tell 66 = .ok (.dup, 1) := by decide +kernel
theorem dX5_tell_67 : decode cX5_tell 67 = .ok (.getfield 26, 3) := by decide +kernel
theorem dX5_tell_70 : decode cX5_tell 70 = .ok (.iconst 1, 1) := by decide +kernel
theorem dX5_tell_71 : decode cX5_tell 71 = .ok (.iadd, 1) := by decide +kernel
theorem dX5_tell_72 : decode cX5_tell 72 = .ok (.putfield 26, 3) := by decide +kernel
theorem dX5_tell_75 : decode cX5_tell 75 = .ok (.aload_n 0, 1) := by decide +kernel
theorem dX5_tell_76 : decode cX5_tell 76 = .ok (.getfield 18, 3) := by decide +kernel
theorem dX5_tell_79 : decode cX5_tell 79 = .ok (.aload_n 0, 1) := by decide +kernel
theorem dX5_tell_80 : decode cX5_tell 80 = .ok (.getfield 18, 3) := by decide +kernel
theorem dX5_tell_83 : decode cX5_tell 83 = .ok (.iload 4, 2) := by decide +kernel
theorem dX5_tell_85 : decode cX5_tell 85 = .ok (.invokevirtual 71, 3) := by decide +kernel
theorem dX5_tell_88 : decode cX5_tell 88 = .ok (.aload_n 0, 1) := by decide +kernel
theorem dX5_tell_89 : decode cX5_tell 89 = .ok (.getfield 18, 3) := by decide +kernel
theorem dX5_tell_92 : decode cX5_tell 92 = .ok (.iload 4, 2) := by decide +kernel
theorem dX5_tell_94 : decode cX5_tell 94 = .ok (.invokevirtual 75, 3) := by decide +kernel
theorem dX5_tell_97 : decode cX5_tell 97 = .ok (.invokevirtual 78, 3) := by decide +kernel
theorem dX5_tell_100 : decode cX5_tell 100 = .ok (.ifCond .ne 31, 3) := by decide +kernel
theorem dX5_tell_103 : decode cX5_tell 103 = .ok (.aload_n 0, 1) := by decide +kernel
theorem dX5_tell_104 : decode cX5_tell 104 = .ok (.dup, 1) := by decide +kernel
theorem dX5_tell_105 : decode cX5_tell 105 = .ok (.getfield 9, 3) := by decide +kernel
theorem dX5_tell_108 : decode cX5_tell 108 = .ok (.lconst 1, 1) := by decide +kernel
theorem dX5_tell_109 : decode cX5_tell 109 = .ok (.iload_n 2, 1) := by decide +kernel
theorem dX5_tell_110 : decode cX5_tell 110 = .ok (.lshl, 1) := by decide +kernel
theorem dX5_tell_111 : decode cX5_tell 111 = .ok (.lor, 1) := by decide +kernel
theorem dX5_tell_112 : decode cX5_tell 112 = .ok (.putfield 9, 3) := by decide +kernel
theorem dX5_tell_115 : decode cX5_tell 115 = .ok (.aload_n 0, 1) := by decide +kernel
theorem dX5_tell_116 : decode cX5_tell 116 = .ok (.getfield 18, 3) := by decide +kernel
theorem dX5_tell_119 : decode cX5_tell 119 = .ok (.iload 4, 2) := by decide +kernel
theorem dX5_tell_121 : decode cX5_tell 121 = .ok (.aload_n 1, 1) := by decide +kernel
theorem dX5_tell_122 : decode cX5_tell 122 = .ok (.getfield 82, 3) := by decide +kernel
theorem dX5_tell_125 : decode cX5_tell 125 = .ok (.iload 4, 2) := by decide +kernel
theorem dX5_tell_127 : decode cX5_tell 127 = .ok (.iaload, 1) := by decide +kernel
theorem dX5_tell_128 : decode cX5_tell 128 = .ok (.invokevirtual 85, 3) := by decide +kernel
theorem dX5_tell_131 : decode cX5_tell 131 = .ok (.return_, 1) := by decide +kernel
theorem dX5_turnBack_0 : decode cX5_turnBack 0 = .ok (.aload_n 0, 1) := by decide +kernel
theorem dX5_turnBack_1 : decode cX5_turnBack 1 = .ok (.getfield 26, 3) := by decide +kernel
theorem dX5_turnBack_4 : decode cX5_turnBack 4 = .ok (.ifCond .le 82, 3) := by decide +kernel
theorem dX5_turnBack_7 : decode cX5_turnBack 7 = .ok (.aload_n 0, 1) := by decide +kernel
theorem dX5_turnBack_8 : decode cX5_turnBack 8 = .ok (.getfield 22, 3) := by decide +kernel
theorem dX5_turnBack_11 : decode cX5_turnBack 11 = .ok (.aload_n 0, 1) := by decide +kernel
theorem dX5_turnBack_12 : decode cX5_turnBack 12 = .ok (.getfield 26, 3) := by decide +kernel
theorem dX5_turnBack_15 : decode cX5_turnBack 15 = .ok (.iconst 1, 1) := by decide +kernel
theorem dX5_turnBack_16 : decode cX5_turnBack 16 = .ok (.isub, 1) := by decide +kernel
theorem dX5_turnBack_17 : decode cX5_turnBack 17 = .ok (.iaload, 1) := by decide +kernel
theorem dX5_turnBack_18 : decode cX5_turnBack 18 = .ok (.istore_n 1, 1) := by decide +kernel
theorem dX5_turnBack_19 : decode cX5_turnBack 19 = .ok (.aload_n 0, 1) := by decide +kernel
theorem dX5_turnBack_20 : decode cX5_turnBack 20 = .ok (.getfield 9, 3) := by decide +kernel
theorem dX5_turnBack_23 : decode cX5_turnBack 23 = .ok (.iload_n 1, 1) := by decide +kernel
theorem dX5_turnBack_24 : decode cX5_turnBack 24 = .ok (.lushr, 1) := by decide +kernel
theorem dX5_turnBack_25 : decode cX5_turnBack 25 = .ok (.lconst 1, 1) := by decide +kernel
theorem dX5_turnBack_26 : decode cX5_turnBack 26 = .ok (.land, 1) := by decide +kernel
theorem dX5_turnBack_27 : decode cX5_turnBack 27 = .ok (.lconst 0, 1) := by decide +kernel
theorem dX5_turnBack_28 : decode cX5_turnBack 28 = .ok (.lcmp, 1) := by decide +kernel
theorem dX5_turnBack_29 : decode cX5_turnBack 29 = .ok (.ifCond .eq 28, 3) := by decide +kernel
theorem dX5_turnBack_32 : decode cX5_turnBack 32 = .ok (.aload_n 0, 1) := by decide +kernel
theorem dX5_turnBack_33 : decode cX5_turnBack 33 = .ok (.dup, 1) := by decide +kernel
theorem dX5_turnBack_34 : decode cX5_turnBack 34 = .ok (.getfield 9, 3) := by decide +kernel
theorem dX5_turnBack_37 : decode cX5_turnBack 37 = .ok (.lconst 1, 1) := by decide +kernel
theorem dX5_turnBack_38 : decode cX5_turnBack 38 = .ok (.iload_n 1, 1) := by decide +kernel
theorem dX5_turnBack_39 : decode cX5_turnBack 39 = .ok (.lshl, 1) := by decide +kernel
theorem dX5_turnBack_40 : decode cX5_turnBack 40 = .ok (.ldc2_w 88, 3) := by decide +kernel
theorem dX5_turnBack_43 : decode cX5_turnBack 43 = .ok (.lxor, 1) := by decide +kernel
theorem dX5_turnBack_44 : decode cX5_turnBack 44 = .ok (.land, 1) := by decide +kernel
theorem dX5_turnBack_45 : decode cX5_turnBack 45 = .ok (.putfield 9, 3) := by decide +kernel
theorem dX5_turnBack_48 : decode cX5_turnBack 48 = .ok (.aload_n 0, 1) := by decide +kernel
theorem dX5_turnBack_49 : decode cX5_turnBack 49 = .ok (.getfield 18, 3) := by decide +kernel
theorem dX5_turnBack_52 : decode cX5_turnBack 52 = .ok (.invokevirtual 90, 3) := by decide +kernel
theorem dX5_turnBack_55 : decode cX5_turnBack 55 = .ok (.iconst 1, 1) := by decide +kernel
theorem dX5_turnBack_56 : decode cX5_turnBack 56 = .ok (.ireturn, 1) := by decide +kernel
theorem dX5_turnBack_57 : decode cX5_turnBack 57 = .ok (.aload_n 0, 1) := by decide +kernel
theorem dX5_turnBack_58 : decode cX5_turnBack 58 = .ok (.dup, 1) := by decide +kernel
theorem dX5_turnBack_59 : decode cX5_turnBack 59 = .ok (.getfield 30, 3) := by decide +kernel
theorem dX5_turnBack_62 : decode cX5_turnBack 62 = .ok (.lconst 1, 1) := by decide +kernel
theorem dX5_turnBack_63 : decode cX5_turnBack 63 = .ok (.iload_n 1, 1) := by decide +kernel
theorem dX5_turnBack_64 : decode cX5_turnBack 64 = .ok (.lshl, 1) := by decide +kernel
theorem dX5_turnBack_65 : decode cX5_turnBack 65 = .ok (.ldc2_w 88, 3) := by decide +kernel
theorem dX5_turnBack_68 : decode cX5_turnBack 68 = .ok (.lxor, 1) := by decide +kernel
theorem dX5_turnBack_69 : decode cX5_turnBack 69 = .ok (.land, 1) := by decide +kernel
theorem dX5_turnBack_70 : decode cX5_turnBack 70 = .ok (.putfield 30, 3) := by decide +kernel
theorem dX5_turnBack_73 : decode cX5_turnBack 73 = .ok (.aload_n 0, 1) := by decide +kernel
theorem dX5_turnBack_74 : decode cX5_turnBack 74 = .ok (.dup, 1) := by decide +kernel
theorem dX5_turnBack_75 : decode cX5_turnBack 75 = .ok (.getfield 26, 3) := by decide +kernel
theorem dX5_turnBack_78 : decode cX5_turnBack 78 = .ok (.iconst 1, 1) := by decide +kernel
theorem dX5_turnBack_79 : decode cX5_turnBack 79 = .ok (.isub, 1) := by decide +kernel
theorem dX5_turnBack_80 : decode cX5_turnBack 80 = .ok (.putfield 26, 3) := by decide +kernel
theorem dX5_turnBack_83 : decode cX5_turnBack 83 = .ok (.goto (-83), 3) := by decide +kernel
theorem dX5_turnBack_86 : decode cX5_turnBack 86 = .ok (.iconst 0, 1) := by decide +kernel
theorem dX5_turnBack_87 : decode cX5_turnBack 87 = .ok (.ireturn, 1) := by decide +kernel
theorem dX6_init_0 : decode cX6_init 0 = .ok (.aload_n 0, 1) := by decide +kernel
theorem dX6_init_1 : decode cX6_init 1 = .ok (.invokespecial 3, 3) := by decide +kernel
theorem dX6_init_4 : decode cX6_init 4 = .ok (.aload_n 0, 1) := by decide +kernel
theorem dX6_init_5 : decode cX6_init 5 = .ok (.bipush 30, 2) := by decide +kernel
theorem dX6_init_7 : decode cX6_init 7 = .ok (.newarray .int, 2) := by decide +kernel
theorem dX6_init_9 : decode cX6_init 9 = .ok (.putfield 9, 3) := by decide +kernel
theorem dX6_init_12 : decode cX6_init 12 = .ok (.aload_n 0, 1) := by decide +kernel
theorem dX6_init_13 : decode cX6_init 13 = .ok (.bipush 30, 2) := by decide +kernel
theorem dX6_init_15 : decode cX6_init 15 = .ok (.newarray .int, 2) := by decide +kernel
theorem dX6_init_17 : decode cX6_init 17 = .ok (.putfield 15, 3) := by decide +kernel
theorem dX6_init_20 : decode cX6_init 20 = .ok (.aload_n 0, 1) := by decide +kernel
theorem dX6_init_21 : decode cX6_init 21 = .ok (.bipush 30, 2) := by decide +kernel
theorem dX6_init_23 : decode cX6_init 23 = .ok (.newarray .int, 2) := by decide +kernel
theorem dX6_init_25 : decode cX6_init 25 = .ok (.putfield 18, 3) := by decide +kernel
theorem dX6_init_28 : decode cX6_init 28 = .ok (.aload_n 0, 1) := by decide +kernel
theorem dX6_init_29 : decode cX6_init 29 = .ok (.bipush 30, 2) := by decide +kernel
theorem dX6_init_31 : decode cX6_init 31 = .ok (.newarray .int, 2) := by decide +kernel
theorem dX6_init_33 : decode cX6_init 33 = .ok (.putfield 21, 3) := by decide +kernel
theorem dX6_init_36 : decode cX6_init 36 = .ok (.aload_n 0, 1) := by decide +kernel
theorem dX6_init_37 : decode cX6_init 37 = .ok (.bipush 30, 2) := by decide +kernel
theorem dX6_init_39 : decode cX6_init 39 = .ok (.newarray .int, 2) := by decide +kernel
theorem dX6_init_41 : decode cX6_init 41 = .ok (.putfield 24, 3) := by decide +kernel
theorem dX6_init_44 : decode cX6_init 44 = .ok (.aload_n 0, 1) := by decide +kernel
theorem dX6_init_45 : decode cX6_init 45 = .ok (.iconst 0, 1) := by decide +kernel
theorem dX6_init_46 : decode cX6_init 46 = .ok (.putfield 27, 3) := by decide +kernel
theorem dX6_init_49 : decode cX6_init 49 = .ok (.aload_n 0, 1) := by decide +kernel
theorem dX6_init_50 : decode cX6_init 50 = .ok (.iconst 0, 1) := by decide +kernel
theorem dX6_init_51 : decode cX6_init 51 = .ok (.putfield 31, 3) := by decide +kernel
theorem dX6_init_54 : decode cX6_init 54 = .ok (.return_, 1) := by decide +kernel
theorem dX6_lay_0 : decode cX6_lay 0 = .ok (.aload_n 0, 1) := by decide +kernel
theorem dX6_lay_1 : decode cX6_lay 1 = .ok (.aload_n 2, 1) := by decide +kernel
theorem dX6_lay_2 : decode cX6_lay 2 = .ok (.getfield 34, 3) := by decide +kernel
theorem dX6_lay_5 : decode cX6_lay 5 = .ok (.aload_n 1, 1) := by decide +kernel
theorem dX6_lay_6 : decode cX6_lay 6 = .ok (.getfield 39, 3) := by decide +kernel
theorem dX6_lay_9 : decode cX6_lay 9 = .ok (.invokevirtual 44, 3) := by decide +kernel
theorem dX6_lay_12 : decode cX6_lay 12 = .ok (.iconst 0, 1) := by decide +kernel
theorem dX6_lay_13 : decode cX6_lay 13 = .ok (.istore_n 3, 1) := by decide +kernel
theorem dX6_lay_14 : decode cX6_lay 14 = .ok (.iload_n 3, 1) := by decide +kernel
theorem dX6_lay_15 : decode cX6_lay 15 = .ok (.aload_n 0, 1) := by decide +kernel
theorem dX6_lay_16 : decode cX6_lay 16 = .ok (.getfield 31, 3) := by decide +kernel
theorem dX6_lay_19 : decode cX6_lay 19 = .ok (.if_icmp .ge 89, 3) := by decide +kernel
theorem dX6_lay_22 : decode cX6_lay 22 = .ok (.iload_n 3, 1) := by decide +kernel
theorem dX6_lay_23 : decode cX6_lay 23 = .ok (.bipush 30, 2) := by decide +kernel
theorem dX6_lay_25 : decode cX6_lay 25 = .ok (.if_icmp .ge 83, 3) := by decide +kernel
theorem dX6_lay_28 : decode cX6_lay 28 = .ok (.aload_n 0, 1) := by decide +kernel
theorem dX6_lay_29 : decode cX6_lay 29 = .ok (.getfield 21, 3) := by decide +kernel
theorem dX6_lay_32 : decode cX6_lay 32 = .ok (.iload_n 3, 1) := by decide +kernel
theorem dX6_lay_33 : decode cX6_lay 33 = .ok (.iaload, 1) := by decide +kernel
theorem dX6_lay_34 : decode cX6_lay 34 = .ok (.istore 4, 2) := by decide +kernel
theorem dX6_lay_36 : decode cX6_lay 36 = .ok (.iconst 4, 1) := by decide +kernel
theorem dX6_lay_37 : decode cX6_lay 37 = .ok (.iload 4, 2) := by decide +kernel
theorem dX6_lay_39 : decode cX6_lay 39 = .ok (.imul, 1) := by decide +kernel
theorem dX6_lay_40 : decode cX6_lay 40 = .ok (.istore 5, 2) := by decide +kernel
theorem dX6_lay_42 : decode cX6_lay 42 = .ok (.iload 5, 2) := by decide +kernel
theorem dX6_lay_44 : decode cX6_lay 44 = .ok (.iconst 4, 1) := by decide +kernel
theorem dX6_lay_45 : decode cX6_lay 45 = .ok (.iload 4, 2) := by decide +kernel
theorem dX6_lay_47 : decode cX6_lay 47 = .ok (.imul, 1) := by decide +kernel
theorem dX6_lay_48 : decode cX6_lay 48 = .ok (.iconst 4, 1) := by decide +kernel
theorem dX6_lay_49 : decode cX6_lay 49 = .ok (.iadd, 1) := by decide +kernel
theorem dX6_lay_50 : decode cX6_lay 50 = .ok (.if_icmp .ge 52, 3) := by decide +kernel
theorem dX6_lay_53 : decode cX6_lay 53 = .ok (.aload_n 2, 1) := by decide +kernel
theorem dX6_lay_54 : decode cX6_lay 54 = .ok (.aload_n 1, 1) := by decide +kernel
theorem dX6_lay_55 : decode cX6_lay 55 = .ok (.getfield 48, 3) := by decide +kernel
theorem dX6_lay_58 : decode cX6_lay 58 = .ok (.iload 5, 2) := by decide +kernel
theorem dX6_lay_60 : decode cX6_lay 60 = .ok (.iaload, 1) := by decide +kernel
theorem dX6_lay_61 : decode cX6_lay 61 = .ok (.invokevirtual 51, 3) := by decide +kernel
theorem dX6_lay_64 : decode cX6_lay 64 = .ok (.ifCond .eq 32, 3) := by decide +kernel
theorem dX6_lay_67 : decode cX6_lay 67 = .ok (.aload_n 0, 1) := by decide +kernel
theorem dX6_lay_68 : decode cX6_lay 68 = .ok (.aload_n 1, 1) := by decide +kernel
theorem dX6_lay_69 : decode cX6_lay 69 = .ok (.getfield 55, 3) := by decide +kernel
theorem dX6_lay_72 : decode cX6_lay 72 = .ok (.iload 5, 2) := by decide +kernel
theorem dX6_lay_74 : decode cX6_lay 74 = .ok (.iaload, 1) := by decide +kernel
theorem dX6_lay_75 : decode cX6_lay 75 = .ok (.iconst 2, 1) := by decide +kernel
theorem dX6_lay_76 : decode cX6_lay 76 = .ok (.ishr, 1) := by decide +kernel
theorem dX6_lay_77 : decode cX6_lay 77 = .ok (.invokevirtual 58, 3) := by decide +kernel
theorem dX6_lay_80 : decode cX6_lay 80 = .ok (.ifCond .ne 16, 3) := by decide +kernel
theorem dX6_lay_83 : decode cX6_lay 83 = .ok (.aload_n 0, 1) := by decide +kernel
theorem dX6_lay_84 : decode cX6_lay 84 = .ok (.iload 5, 2) := by decide +kernel
theorem dX6_lay_86 : decode cX6_lay 86 = .ok (.aload_n 1, 1) := by decide +kernel
theorem dX6_lay_87 : decode cX6_lay 87 = .ok (.getfield 55, 3) := by decide +kernel
theorem dX6_lay_90 : decode cX6_lay 90 = .ok (.iload 5, 2) := by decide +kernel
theorem dX6_lay_92 : decode cX6_lay 92 = .ok (.iaload, 1) := by decide +kernel
theorem dX6_lay_93 : decode cX6_lay 93 = .ok (.invokevirtual 61, 3) := by decide +kernel
theorem dX6_lay_96 : decode cX6_lay 96 = .ok (.iinc 5 1, 3) := by decide +kernel
theorem dX6_lay_99 : decode cX6_lay 99 = .ok (.goto (-57), 3) := by decide +kernel
theorem dX6_lay_102 : decode cX6_lay 102 = .ok (.iinc 3 1, 3) := by decide +kernel
theorem dX6_lay_105 : decode cX6_lay 105 = .ok (.goto (-91), 3) := by decide +kernel
theorem dX6_lay_108 : decode cX6_lay 108 = .ok (.return_, 1) := by decide +kernel
theorem dX6_putRoot_0 : decode cX6_putRoot 0 = .ok (.aload_n 0, 1) := by decide +kernel
theorem dX6_putRoot_1 : decode cX6_putRoot 1 = .ok (.iconst 0, 1) := by decide +kernel
theorem dX6_putRoot_2 : decode cX6_putRoot 2 = .ok (.putfield 27, 3) := by decide +kernel
theorem dX6_putRoot_5 : decode cX6_putRoot 5 = .ok (.aload_n 0, 1) := by decide +kernel
theorem dX6_putRoot_6 : decode cX6_putRoot 6 = .ok (.iconst 0, 1) := by decide +kernel
theorem dX6_putRoot_7 : decode cX6_putRoot 7 = .ok (.putfield 31, 3) := by decide +kernel
theorem dX6_putRoot_10 : decode cX6_putRoot 10 = .ok (.iload_n 1, 1) := by decide +kernel
theorem dX6_putRoot_11 : decode cX6_putRoot 11 = .ok (.ifCond .lt 35, 3) := by decide +kernel
theorem dX6_putRoot_14 : decode cX6_putRoot 14 = .ok (.iload_n 1, 1) := by decide +kernel
theorem dX6_putRoot_15 : decode cX6_putRoot 15 = .ok (.iload_n 2, 1) := by decide +kernel
theorem dX6_putRoot_16 : decode cX6_putRoot 16 = .ok (.if_icmp .ge 30, 3) := by decide +kernel
theorem dX6_putRoot_19 : decode cX6_putRoot 19 = .ok (.aload_n 0, 1) := by decide +kernel
theorem dX6_putRoot_20 : decode cX6_putRoot 20 = .ok (.iload_n 1, 1) := by decide +kernel
theorem dX6_putRoot_21 : decode cX6_putRoot 21 = .ok (.iconst (-1), 1) := by decide +kernel
theorem dX6_putRoot_22 : decode cX6_putRoot 22 = .ok (.invokevirtual 64, 3) := by decide +kernel
theorem dX6_putRoot_25 : decode cX6_putRoot 25 = .ok (.aload_n 0, 1) := by decide +kernel
theorem dX6_putRoot_26 : decode cX6_putRoot 26 = .ok (.getfield 9, 3) := by decide +kernel
theorem dX6_putRoot_29 : decode cX6_putRoot 29 = .ok (.iload_n 1, 1) := by decide +kernel
theorem dX6_putRoot_30 : decode cX6_putRoot 30 = .ok (.iconst 0, 1) := by decide +kernel
theorem dX6_putRoot_31 : decode cX6_putRoot 31 = .ok (.iastore, 1) := by decide +kernel
theorem dX6_putRoot_32 : decode cX6_putRoot 32 = .ok (.aload_n 0, 1) := by decide +kernel
theorem dX6_putRoot_33 : decode cX6_putRoot 33 = .ok (.getfield 15, 3) := by decide +kernel
theorem dX6_putRoot_36 : decode cX6_putRoot 36 = .ok (.iload_n 1, 1) := by decide +kernel
theorem dX6_putRoot_37 : decode cX6_putRoot 37 = .ok (.iconst 0, 1) := by decide +kernel
theorem dX6_putRoot_38 : decode cX6_putRoot 38 = .ok (.iastore, 1) := by decide +kernel
theorem dX6_putRoot_39 : decode cX6_putRoot 39 = .ok (.aload_n 0, 1) := by decide +kernel
theorem dX6_putRoot_40 : decode cX6_putRoot 40 = .ok (.getfield 18, 3) := by decide +kernel
theorem dX6_putRoot_43 : decode cX6_putRoot 43 = .ok (.iload_n 1, 1) := by decide +kernel
theorem dX6_putRoot_44 : decode cX6_putRoot 44 = .ok (.iconst 0, 1) := by decide +kernel
theorem dX6_putRoot_45 : decode cX6_putRoot 45 = .ok (.iastore, 1) := by decide +kernel
theorem dX6_putRoot_46 : decode cX6_putRoot 46 = .ok (.return_, 1) := by decide +kernel
theorem dX6_putBehind_0 : decode cX6_putBehind 0 = .ok (.iload_n 2, 1) := by decide +kernel
theorem dX6_putBehind_1 : decode cX6_putBehind 1 = .ok (.iconst 2, 1) := by decide +kernel
theorem dX6_putBehind_2 : decode cX6_putBehind 2 = .ok (.ishr, 1) := by decide +kernel
theorem dX6_putBehind_3 : decode cX6_putBehind 3 = .ok (.istore_n 3, 1) := by decide +kernel
theorem dX6_putBehind_4 : decode cX6_putBehind 4 = .ok (.aload_n 0, 1) := by decide +kernel
theorem dX6_putBehind_5 : decode cX6_putBehind 5 = .ok (.getfield 9, 3) := by decide +kernel
theorem dX6_putBehind_8 : decode cX6_putBehind 8 = .ok (.iload_n 3, 1) := by decide +kernel
theorem dX6_putBehind_9 : decode cX6_putBehind 9 = .ok (.aload_n 0, 1) := by decide +kernel
theorem dX6_putBehind_10 : decode cX6_putBehind 10 = .ok (.iload_n 1, 1) := by decide +kernel
theorem dX6_putBehind_11 : decode cX6_putBehind 11 = .ok (.invokevirtual 67, 3) := by decide +kernel
theorem dX6_putBehind_14 : decode cX6_putBehind 14 = .ok (.iastore, 1) := by decide +kernel
theorem dX6_putBehind_15 : decode cX6_putBehind 15 = .ok (.aload_n 0, 1) := by decide +kernel
theorem dX6_putBehind_16 : decode cX6_putBehind 16 = .ok (.getfield 15, 3) := by decide +kernel
theorem dX6_putBehind_19 : decode cX6_putBehind 19 = .ok (.iload_n 3, 1) := by decide +kernel
theorem dX6_putBehind_20 : decode cX6_putBehind 20 = .ok (.aload_n 0, 1) := by decide +kernel
theorem dX6_putBehind_21 : decode cX6_putBehind 21 = .ok (.iload_n 1, 1) := by decide +kernel
theorem dX6_putBehind_22 : decode cX6_putBehind 22 = .ok (.invokevirtual 71, 3) := by decide +kernel
theorem dX6_putBehind_25 : decode cX6_putBehind 25 = .ok (.iastore, 1) := by decide +kernel
theorem dX6_putBehind_26 : decode cX6_putBehind 26 = .ok (.aload_n 0, 1) := by decide +kernel
theorem dX6_putBehind_27 : decode cX6_putBehind 27 = .ok (.getfield 18, 3) := by decide +kernel
theorem dX6_putBehind_30 : decode cX6_putBehind 30 = .ok (.iload_n 3, 1) := by decide +kernel
theorem dX6_putBehind_31 : decode cX6_putBehind 31 = .ok (.aload_n 0, 1) := by decide +kernel
theorem dX6_putBehind_32 : decode cX6_putBehind 32 = .ok (.iload_n 1, 1) := by decide +kernel
theorem dX6_putBehind_33 : decode cX6_putBehind 33 = .ok (.iload_n 2, 1) := by decide +kernel
theorem dX6_putBehind_34 : decode cX6_putBehind 34 = .ok (.invokevirtual 74, 3) := by decide +kernel
theorem dX6_putBehind_37 : decode cX6_putBehind 37 = .ok (.iastore, 1) := by decide +kernel
theorem dX6_putBehind_38 : decode cX6_putBehind 38 = .ok (.aload_n 0, 1) := by decide +kernel
theorem dX6_putBehind_39 : decode cX6_putBehind 39 = .ok (.iload_n 3, 1) := by decide +kernel
theorem dX6_putBehind_40 : decode cX6_putBehind 40 = .ok (.iload_n 1, 1) := by decide +kernel
theorem dX6_putBehind_41 : decode cX6_putBehind 41 = .ok (.invokevirtual 64, 3) := by decide +kernel
theorem dX6_putBehind_44 : decode cX6_putBehind 44 = .ok (.return_, 1) := by decide +kernel
theorem dX6_add_0 : decode cX6_add 0 = .ok (.aload_n 0, 1) := by decide +kernel
theorem dX6_add_1 : decode cX6_add 1 = .ok (.getfield 24, 3) := by decide +kernel
theorem dX6_add_4 : decode cX6_add 4 = .ok (.iload_n 1, 1) := by decide +kernel
theorem dX6_add_5 : decode cX6_add 5 = .ok (.iload_n 2, 1) := by decide +kernel
theorem dX6_add_6 : decode cX6_add 6 = .ok (.iastore, 1) := by decide +kernel
theorem dX6_add_7 : decode cX6_add 7 = .ok (.aload_n 0, 1) := by decide +kernel
theorem dX6_add_8 : decode cX6_add 8 = .ok (.dup, 1) := by decide +kernel
theorem dX6_add_9 : decode cX6_add 9 = .ok (.getfield 27, 3) := by decide +kernel
theorem dX6_add_12 : decode cX6_add 12 = .ok (.iconst 1, 1) := by decide +kernel
theorem dX6_add_13 : decode cX6_add 13 = .ok (.iload_n 1, 1) := by decide +kernel
theorem dX6_add_14 : decode cX6_add 14 = .ok (.ishl, 1) := by decide +kernel
theorem dX6_add_15 : decode cX6_add 15 = .ok (.ior, 1) := by decide +kernel
theorem dX6_add_16 : decode cX6_add 16 = .ok (.putfield 27, 3) := by decide +kernel
theorem dX6_add_19 : decode cX6_add 19 = .ok (.aload_n 0, 1) := by decide +kernel
theorem dX6_add_20 : decode cX6_add 20 = .ok (.getfield 31, 3) := by decide +kernel
theorem dX6_add_23 : decode cX6_add 23 = .ok (.bipush 30, 2) := by decide +kernel
theorem dX6_add_25 : decode cX6_add 25 = .ok (.if_icmp .ge 23, 3) := by decide +kernel
theorem dX6_add_28 : decode cX6_add 28 = .ok (.aload_n 0, 1) := by decide +kernel
theorem dX6_add_29 : decode cX6_add 29 = .ok (.getfield 21, 3) := by decide +kernel
theorem dX6_add_32 : decode cX6_add 32 = .ok (.aload_n 0, 1) := by decide +kernel
theorem dX6_add_33 : decode cX6_add 33 = .ok (.getfield 31, 3) := by decide +kernel
theorem dX6_add_36 : decode cX6_add 36 = .ok (.iload_n 1, 1) := by decide +kernel
theorem dX6_add_37 : decode cX6_add 37 = .ok (.iastore, 1) := by decide +kernel
theorem dX6_add_38 : decode cX6_add 38 = .ok (.aload_n 0, 1) := by decide +kernel
theorem dX6_add_39 : decode cX6_add 39 = .ok (.dup, 1) := by decide +kernel
theorem dX6_add_40 : decode cX6_add 40 = .ok (.getfield 31, 3) := by decide +kernel
theorem dX6_add_43 : decode cX6_add 43 = .ok (.iconst 1, 1) := by decide +kernel
theorem dX6_add_44 : decode cX6_add 44 = .ok (.iadd, 1) := by decide +kernel
theorem dX6_add_45 : decode cX6_add 45 = .ok (.putfield 31, 3) := by decide +kernel
theorem dX6_add_48 : decode cX6_add 48 = .ok (.return_, 1) := by decide +kernel
theorem dX6_takeLast_0 : decode cX6_takeLast 0 = .ok (.aload_n 0, 1) := by decide +kernel
theorem dX6_takeLast_1 : decode cX6_takeLast 1 = .ok (.getfield 31, 3) := by decide +kernel
theorem dX6_takeLast_4 : decode cX6_takeLast 4 = .ok (.ifCond .le 35, 3) := by decide +kernel
theorem dX6_takeLast_7 : decode cX6_takeLast 7 = .ok (.aload_n 0, 1) := by decide +kernel
theorem dX6_takeLast_8 : decode cX6_takeLast 8 = .ok (.dup, 1) := by decide +kernel
theorem dX6_takeLast_9 : decode cX6_takeLast 9 = .ok (.getfield 31, 3) := by decide +kernel
theorem dX6_takeLast_12 : decode cX6_takeLast 12 = .ok (.iconst 1, 1) := by decide +kernel
theorem dX6_takeLast_13 : decode cX6_takeLast 13 = .ok (.isub, 1) := by decide +kernel
theorem dX6_takeLast_14 : decode cX6_takeLast 14 = .ok (.putfield 31, 3) := by decide +kernel
theorem dX6_takeLast_17 : decode cX6_takeLast 17 = .ok (.aload_n 0, 1) := by decide +kernel
theorem dX6_takeLast_18 : decode cX6_takeLast 18 = .ok (.dup, 1) := by decide +kernel
theorem dX6_takeLast_19 : decode cX6_takeLast 19 = .ok (.getfield 27, 3) := by decide +kernel
theorem dX6_takeLast_22 : decode cX6_takeLast 22 = .ok (.iconst 1, 1) := by decide +kernel
theorem dX6_takeLast_23 : decode cX6_takeLast 23 = .ok (.aload_n 0, 1) := by decide +kernel
theorem dX6_takeLast_24 : decode cX6_takeLast 24 = .ok (.getfield 21, 3) := by decide +kernel
theorem dX6_takeLast_27 : decode cX6_takeLast 27 = .ok (.aload_n 0, 1) := by decide +kernel
theorem dX6_takeLast_28 : decode cX6_takeLast 28 = .ok (.getfield 31, 3) := by decide +kernel
theorem dX6_takeLast_31 : decode cX6_takeLast 31 = .ok (.iaload, 1) := by decide +kernel
theorem dX6_takeLast_32 : decode cX6_takeLast 32 = .ok (.ishl, 1) := by decide +kernel
theorem dX6_takeLast_33 : decode cX6_takeLast 33 = .ok (.iconst (-1), 1) := by decide +kernel
theorem dX6_takeLast_34 : decode cX6_takeLast 34 = .ok (.ixor, 1) := by decide +kernel
theorem dX6_takeLast_35 : decode cX6_takeLast 35 = .ok (.iand, 1) := by decide +kernel
theorem dX6_takeLast_36 : decode cX6_takeLast 36 = .ok (.putfield 27, 3) := by decide +kernel
theorem dX6_takeLast_39 : decode cX6_takeLast 39 = .ok (.return_, 1) := by decide +kernel
theorem dX6_look_0 : decode cX6_look 0 = .ok (.iload_n 1, 1) := by decide +kernel
theorem dX6_look_1 : decode cX6_look 1 = .ok (.iconst 3, 1) := by decide +kernel
theorem dX6_look_2 : decode cX6_look 2 = .ok (.iand, 1) := by decide +kernel
theorem dX6_look_3 : decode cX6_look 3 = .ok (.aload_n 0, 1) := by decide +kernel
theorem dX6_look_4 : decode cX6_look 4 = .ok (.getfield 18, 3) := by decide +kernel
theorem dX6_look_7 : decode cX6_look 7 = .ok (.iload_n 1, 1) := by decide +kernel
theorem dX6_look_8 : decode cX6_look 8 = .ok (.iconst 2, 1) := by decide +kernel
theorem dX6_look_9 : decode cX6_look 9 = .ok (.ishr, 1) := by decide +kernel
theorem dX6_look_10 : decode cX6_look 10 = .ok (.iaload, 1) := by decide +kernel
theorem dX6_look_11 : decode cX6_look 11 = .ok (.iadd, 1) := by decide +kernel
theorem dX6_look_12 : decode cX6_look 12 = .ok (.iconst 3, 1) := by decide +kernel
theorem dX6_look_13 : decode cX6_look 13 = .ok (.iand, 1) := by decide +kernel
theorem dX6_look_14 : decode cX6_look 14 = .ok (.ireturn, 1) := by decide +kernel
theorem dX6_xBehind_0 : decode cX6_xBehind 0 = .ok (.aload_n 0, 1) := by decide +kernel
theorem dX6_xBehind_1 : decode cX6_xBehind 1 = .ok (.getfield 9, 3) := by decide +kernel
theorem dX6_xBehind_4 : decode cX6_xBehind 4 = .ok (.iload_n 1, 1) := by decide +kernel
theorem dX6_xBehind_5 : decode cX6_xBehind 5 = .ok (.iconst 2, 1) := by decide +kernel
theorem dX6_xBehind_6 : decode cX6_xBehind 6 = .ok (.ishr, 1) := by decide +kernel
theorem dX6_xBehind_7 : decode cX6_xBehind 7 = .ok (.iaload, 1) := by decide +kernel
theorem dX6_xBehind_8 : decode cX6_xBehind 8 = .ok (.getstatic 78, 3) := by decide +kernel
theorem dX6_xBehind_11 : decode cX6_xBehind 11 = .ok (.aload_n 0, 1) := by decide +kernel
theorem dX6_xBehind_12 : decode cX6_xBehind 12 = .ok (.iload_n 1, 1) := by decide +kernel
theorem dX6_xBehind_13 : decode cX6_xBehind 13 = .ok (.invokevirtual 81, 3) := by decide +kernel
theorem dX6_xBehind_16 : decode cX6_xBehind 16 = .ok (.iaload, 1) := by decide +kernel
theorem dX6_xBehind_17 : decode cX6_xBehind 17 = .ok (.iadd, 1) := by decide +kernel
theorem dX6_xBehind_18 : decode cX6_xBehind 18 = .ok (.ireturn, 1) := by decide +kernel
theorem dX6_yBehind_0 : decode cX6_yBehind 0 = .ok (.aload_n 0, 1) := by decide +kernel
theorem dX6_yBehind_1 : decode cX6_yBehind 1 = .ok (.getfield 15, 3) := by decide +kernel
theorem dX6_yBehind_4 : decode cX6_yBehind 4 = .ok (.iload_n 1, 1) := by decide +kernel
theorem dX6_yBehind_5 : decode cX6_yBehind 5 = .ok (.iconst 2, 1) := by decide +kernel
theorem dX6_yBehind_6 : decode cX6_yBehind 6 = .ok (.ishr, 1) := by decide +kernel
theorem dX6_yBehind_7 : decode cX6_yBehind 7 = .ok (.iaload, 1) := by decide +kernel
theorem dX6_yBehind_8 : decode cX6_yBehind 8 = .ok (.getstatic 84, 3) := by decide +kernel
theorem dX6_yBehind_11 : decode cX6_yBehind 11 = .ok (.aload_n 0, 1) := by decide +kernel
theorem dX6_yBehind_12 : decode cX6_yBehind 12 = .ok (.iload_n 1, 1) := by decide +kernel
theorem dX6_yBehind_13 : decode cX6_yBehind 13 = .ok (.invokevirtual 81, 3) := by decide +kernel
theorem dX6_yBehind_16 : decode cX6_yBehind 16 = .ok (.iaload, 1) := by decide +kernel
theorem dX6_yBehind_17 : decode cX6_yBehind 17 = .ok (.iadd, 1) := by decide +kernel
theorem dX6_yBehind_18 : decode cX6_yBehind 18 = .ok (.ireturn, 1) := by decide +kernel
theorem dX6_turnBehind_0 : decode cX6_turnBehind 0 = .ok (.aload_n 0, 1) := by decide +kernel
theorem dX6_turnBehind_1 : decode cX6_turnBehind 1 = .ok (.iload_n 1, 1) := by decide +kernel
theorem dX6_turnBehind_2 : decode cX6_turnBehind 2 = .ok (.invokevirtual 81, 3) := by decide +kernel
theorem dX6_turnBehind_5 : decode cX6_turnBehind 5 = .ok (.iconst 2, 1) := by decide +kernel
theorem dX6_turnBehind_6 : decode cX6_turnBehind 6 = .ok (.iadd, 1) := by decide +kernel
theorem dX6_turnBehind_7 : decode cX6_turnBehind 7 = .ok (.iload_n 2, 1) := by decide +kernel
theorem dX6_turnBehind_8 : decode cX6_turnBehind 8 = .ok (.iconst 3, 1) := by decide +kernel
theorem dX6_turnBehind_9 : decode cX6_turnBehind 9 = .ok (.iand, 1) := by decide +kernel
theorem dX6_turnBehind_10 : decode cX6_turnBehind 10 = .ok (.isub, 1) := by decide +kernel
theorem dX6_turnBehind_11 : decode cX6_turnBehind 11 = .ok (.iconst 3, 1) := by decide +kernel
theorem dX6_turnBehind_12 : decode cX6_turnBehind 12 = .ok (.iand, 1) := by decide +kernel
theorem dX6_turnBehind_13 : decode cX6_turnBehind 13 = .ok (.ireturn, 1) := by decide +kernel
theorem dX6_holds_0 : decode cX6_holds 0 = .ok (.aload_n 0, 1) := by decide +kernel
theorem dX6_holds_1 : decode cX6_holds 1 = .ok (.getfield 27, 3) := by decide +kernel
theorem dX6_holds_4 : decode cX6_holds 4 = .ok (.iload_n 1, 1) := by decide +kernel
theorem dX6_holds_5 : decode cX6_holds 5 = .ok (.iushr, 1) := by decide +kernel
theorem dX6_holds_6 : decode cX6_holds 6 = .ok (.iconst 1, 1) := by decide +kernel
theorem dX6_holds_7 : decode cX6_holds 7 = .ok (.iand, 1) := by decide +kernel
theorem dX6_holds_8 : decode cX6_holds 8 = .ok (.ifCond .eq 7, 3) := by decide +kernel
theorem dX6_holds_11 : decode cX6_holds 11 = .ok (.iconst 1, 1) := by decide +kernel
theorem dX6_holds_12 : decode cX6_holds 12 = .ok (.goto 4, 3) := by decide +kernel
theorem dX6_holds_15 : decode cX6_holds 15 = .ok (.iconst 0, 1) := by decide +kernel
theorem dX6_holds_16 : decode cX6_holds 16 = .ok (.ireturn, 1) := by decide +kernel
theorem dX6_isTaken_0 : decode cX6_isTaken 0 = .ok (.iconst 0, 1) := by decide +kernel
theorem dX6_isTaken_1 : decode cX6_isTaken 1 = .ok (.istore_n 3, 1) := by decide +kernel
theorem dX6_isTaken_2 : decode cX6_isTaken 2 = .ok (.iload_n 3, 1) := by decide +kernel
theorem dX6_isTaken_3 : decode cX6_isTaken 3 = .ok (.aload_n 0, 1) := by decide +kernel
theorem dX6_isTaken_4 : decode cX6_isTaken 4 = .ok (.getfield 31, 3) := by decide +kernel
theorem dX6_isTaken_7 : decode cX6_isTaken 7 = .ok (.if_icmp .ge 41, 3) := by decide +kernel
theorem dX6_isTaken_10 : decode cX6_isTaken 10 = .ok (.aload_n 0, 1) := by decide +kernel
theorem dX6_isTaken_11 : decode cX6_isTaken 11 = .ok (.getfield 9, 3) := by decide +kernel
theorem dX6_isTaken_14 : decode cX6_isTaken 14 = .ok (.aload_n 0, 1) := by decide +kernel
theorem dX6_isTaken_15 : decode cX6_isTaken 15 = .ok (.getfield 21, 3) := by decide +kernel
theorem dX6_isTaken_18 : decode cX6_isTaken 18 = .ok (.iload_n 3, 1) := by decide +kernel
theorem dX6_isTaken_19 : decode cX6_isTaken 19 = .ok (.iaload, 1) := by decide +kernel
theorem dX6_isTaken_20 : decode cX6_isTaken 20 = .ok (.iaload, 1) := by decide +kernel
theorem dX6_isTaken_21 : decode cX6_isTaken 21 = .ok (.iload_n 1, 1) := by decide +kernel
theorem dX6_isTaken_22 : decode cX6_isTaken 22 = .ok (.if_icmp .ne 20, 3) := by decide +kernel
theorem dX6_isTaken_25 : decode cX6_isTaken 25 = .ok (.aload_n 0, 1) := by decide +kernel
theorem dX6_isTaken_26 : decode cX6_isTaken 26 = .ok (.getfield 15, 3) := by decide +kernel
theorem dX6_isTaken_29 : decode cX6_isTaken 29 = .ok (.aload_n 0, 1) := by decide +kernel
theorem dX6_isTaken_30 : decode cX6_isTaken 30 = .ok (.getfield 21, 3) := by decide +kernel
theorem dX6_isTaken_33 : decode cX6_isTaken 33 = .ok (.iload_n 3, 1) := by decide +kernel
theorem dX6_isTaken_34 : decode cX6_isTaken 34 = .ok (.iaload, 1) := by decide +kernel
theorem dX6_isTaken_35 : decode cX6_isTaken 35 = .ok (.iaload, 1) := by decide +kernel
theorem dX6_isTaken_36 : decode cX6_isTaken 36 = .ok (.iload_n 2, 1) := by decide +kernel
theorem dX6_isTaken_37 : decode cX6_isTaken 37 = .ok (.if_icmp .ne 5, 3) := by decide +kernel
theorem dX6_isTaken_40 : decode cX6_isTaken 40 = .ok (.iconst 1, 1) := by decide +kernel
theorem dX6_isTaken_41 : decode cX6_isTaken 41 = .ok (.ireturn, 1) := by decide +kernel
theorem dX6_isTaken_42 : decode cX6_isTaken 42 = .ok (.iinc 3 1, 3) := by decide +kernel
theorem dX6_isTaken_45 : decode cX6_isTaken 45 = .ok (.goto (-43), 3) := by decide +kernel
theorem dX6_isTaken_48 : decode cX6_isTaken 48 = .ok (.iconst 0, 1) := by decide +kernel
theorem dX6_isTaken_49 : decode cX6_isTaken 49 = .ok (.ireturn, 1) := by decide +kernel
theorem dX6_meet_0 : decode cX6_meet 0 = .ok (.iload_n 2, 1) := by decide +kernel
theorem dX6_meet_1 : decode cX6_meet 1 = .ok (.iconst 2, 1) := by decide +kernel
theorem dX6_meet_2 : decode cX6_meet 2 = .ok (.ishr, 1) := by decide +kernel
theorem dX6_meet_3 : decode cX6_meet 3 = .ok (.istore_n 3, 1) := by decide +kernel
theorem dX6_meet_4 : decode cX6_meet 4 = .ok (.aload_n 0, 1) := by decide +kernel
theorem dX6_meet_5 : decode cX6_meet 5 = .ok (.iload_n 1, 1) := by decide +kernel
theorem dX6_meet_6 : decode cX6_meet 6 = .ok (.iconst 2, 1) := by decide +kernel
theorem dX6_meet_7 : decode cX6_meet 7 = .ok (.ishr, 1) := by decide +kernel
theorem dX6_meet_8 : decode cX6_meet 8 = .ok (.invokevirtual 58, 3) := by decide +kernel
theorem dX6_meet_11 : decode cX6_meet 11 = .ok (.ifCond .eq 58, 3) := by decide +kernel
theorem dX6_meet_14 : decode cX6_meet 14 = .ok (.aload_n 0, 1) := by decide +kernel
theorem dX6_meet_15 : decode cX6_meet 15 = .ok (.iload_n 3, 1) := by decide +kernel
theorem dX6_meet_16 : decode cX6_meet 16 = .ok (.invokevirtual 58, 3) := by decide +kernel
theorem dX6_meet_19 : decode cX6_meet 19 = .ok (.ifCond .eq 50, 3) := by decide +kernel
theorem dX6_meet_22 : decode cX6_meet 22 = .ok (.aload_n 0, 1) := by decide +kernel
theorem dX6_meet_23 : decode cX6_meet 23 = .ok (.getfield 9, 3) := by decide +kernel
theorem dX6_meet_26 : decode cX6_meet 26 = .ok (.iload_n 3, 1) := by decide +kernel
theorem dX6_meet_27 : decode cX6_meet 27 = .ok (.iaload, 1) := by decide +kernel
theorem dX6_meet_28 : decode cX6_meet 28 = .ok (.aload_n 0, 1) := by decide +kernel
theorem dX6_meet_29 : decode cX6_meet 29 = .ok (.iload_n 1, 1) := by decide +kernel
theorem dX6_meet_30 : decode cX6_meet 30 = .ok (.invokevirtual 67, 3) := by decide +kernel
theorem dX6_meet_33 : decode cX6_meet 33 = .ok (.if_icmp .ne 36, 3) := by decide +kernel
theorem dX6_meet_36 : decode cX6_meet 36 = .ok (.aload_n 0, 1) := by decide +kernel
theorem dX6_meet_37 : decode cX6_meet 37 = .ok (.getfield 15, 3) := by decide +kernel
theorem dX6_meet_40 : decode cX6_meet 40 = .ok (.iload_n 3, 1) := by decide +kernel
theorem dX6_meet_41 : decode cX6_meet 41 = .ok (.iaload, 1) := by decide +kernel
theorem dX6_meet_42 : decode cX6_meet 42 = .ok (.aload_n 0, 1) := by decide +kernel
theorem dX6_meet_43 : decode cX6_meet 43 = .ok (.iload_n 1, 1) := by decide +kernel
theorem dX6_meet_44 : decode cX6_meet 44 = .ok (.invokevirtual 71, 3) := by decide +kernel
theorem dX6_meet_47 : decode cX6_meet 47 = .ok (.if_icmp .ne 22, 3) := by decide +kernel
theorem dX6_meet_50 : decode cX6_meet 50 = .ok (.aload_n 0, 1) := by decide +kernel
theorem dX6_meet_51 : decode cX6_meet 51 = .ok (.getfield 18, 3) := by decide +kernel
theorem dX6_meet_54 : decode cX6_meet 54 = .ok (.iload_n 3, 1) := by decide +kernel
theorem dX6_meet_55 : decode cX6_meet 55 = .ok (.iaload, 1) := by decide +kernel
theorem dX6_meet_56 : decode cX6_meet 56 = .ok (.aload_n 0, 1) := by decide +kernel
theorem dX6_meet_57 : decode cX6_meet 57 = .ok (.iload_n 1, 1) := by decide +kernel
theorem dX6_meet_58 : decode cX6_meet 58 = .ok (.iload_n 2, 1) := by decide +kernel
theorem dX6_meet_59 : decode cX6_meet 59 = .ok (.invokevirtual 74, 3) := by decide +kernel
theorem dX6_meet_62 : decode cX6_meet 62 = .ok (.if_icmp .ne 7, 3) := by decide +kernel
theorem dX6_meet_65 : decode cX6_meet 65 = .ok (.iconst 1, 1) := by decide +kernel
theorem dX6_meet_66 : decode cX6_meet 66 = .ok (.goto 4, 3) := by decide +kernel
theorem dX6_meet_69 : decode cX6_meet 69 = .ok (.iconst 0, 1) := by decide +kernel
theorem dX6_meet_70 : decode cX6_meet 70 = .ok (.ireturn, 1) := by decide +kernel
theorem dX6_overlap_0 : decode cX6_overlap 0 = .ok (.iconst 0, 1) := by decide +kernel
theorem dX6_overlap_1 : decode cX6_overlap 1 = .ok (.istore_n 2, 1) := by decide +kernel
theorem dX6_overlap_2 : decode cX6_overlap 2 = .ok (.iconst 0, 1) := by decide +kernel
theorem dX6_overlap_3 : decode cX6_overlap 3 = .ok (.istore_n 3, 1) := by decide +kernel
theorem dX6_overlap_4 : decode cX6_overlap 4 = .ok (.iload_n 3, 1) := by decide +kernel
theorem dX6_overlap_5 : decode cX6_overlap 5 = .ok (.bipush 30, 2) := by decide +kernel
theorem dX6_overlap_7 : decode cX6_overlap 7 = .ok (.if_icmp .ge 92, 3) := by decide +kernel
theorem dX6_overlap_10 : decode cX6_overlap 10 = .ok (.iload_n 3, 1) := by decide +kernel
theorem dX6_overlap_11 : decode cX6_overlap 11 = .ok (.iconst 1, 1) := by decide +kernel
theorem dX6_overlap_12 : decode cX6_overlap 12 = .ok (.iadd, 1) := by decide +kernel
theorem dX6_overlap_13 : decode cX6_overlap 13 = .ok (.istore 4, 2) := by decide +kernel
theorem dX6_overlap_15 : decode cX6_overlap 15 = .ok (.iload 4, 2) := by decide +kernel
theorem dX6_overlap_17 : decode cX6_overlap 17 = .ok (.bipush 30, 2) := by decide +kernel
theorem dX6_overlap_19 : decode cX6_overlap 19 = .ok (.if_icmp .ge 74, 3) := by decide +kernel
theorem dX6_overlap_22 : decode cX6_overlap 22 = .ok (.aload_n 0, 1) := by decide +kernel
theorem dX6_overlap_23 : decode cX6_overlap 23 = .ok (.iload_n 3, 1) := by decide +kernel
theorem dX6_overlap_24 : decode cX6_overlap 24 = .ok (.invokevirtual 58, 3) := by decide +kernel
theorem dX6_overlap_27 : decode cX6_overlap 27 = .ok (.ifCond .eq 66, 3) := by decide +kernel
theorem dX6_overlap_30 : decode cX6_overlap 30 = .ok (.aload_n 0, 1) := by decide +kernel
theorem dX6_overlap_31 : decode cX6_overlap 31 = .ok (.iload 4, 2) := by decide +kernel
theorem dX6_overlap_33 : decode cX6_overlap 33 = .ok (.invokevirtual 58, 3) := by decide +kernel
theorem dX6_overlap_36 : decode cX6_overlap 36 = .ok (.ifCond .eq 51, 3) := by decide +kernel
theorem dX6_overlap_39 : decode cX6_overlap 39 = .ok (.aload_n 0, 1) := by decide +kernel
theorem dX6_overlap_40 : decode cX6_overlap 40 = .ok (.getfield 9, 3) := by decide +kernel
theorem dX6_overlap_43 : decode cX6_overlap 43 = .ok (.iload_n 3, 1) := by decide +kernel
theorem dX6_overlap_44 : decode cX6_overlap 44 = .ok (.iaload, 1) := by decide +kernel
theorem dX6_overlap_45 : decode cX6_overlap 45 = .ok (.aload_n 0, 1) := by decide +kernel
theorem dX6_overlap_46 : decode cX6_overlap 46 = .ok (.getfield 9, 3) := by decide +kernel
theorem dX6_overlap_49 : decode cX6_overlap 49 = .ok (.iload 4, 2) := by decide +kernel
theorem dX6_overlap_51 : decode cX6_overlap 51 = .ok (.iaload, 1) := by decide +kernel
theorem dX6_overlap_52 : decode cX6_overlap 52 = .ok (.if_icmp .ne 35, 3) := by decide +kernel
theorem dX6_overlap_55 : decode cX6_overlap 55 = .ok (.aload_n 0, 1) := by decide +kernel
theorem dX6_overlap_56 : decode cX6_overlap 56 = .ok (.getfield 15, 3) := by decide +kernel
theorem dX6_overlap_59 : decode cX6_overlap 59 = .ok (.iload_n 3, 1) := by decide +kernel
theorem dX6_overlap_60 : decode cX6_overlap 60 = .ok (.iaload, 1) := by decide +kernel
theorem dX6_overlap_61 : decode cX6_overlap 61 = .ok (.aload_n 0, 1) := by decide +kernel
theorem dX6_overlap_62 : decode cX6_overlap 62 = .ok (.getfield 15, 3) := by decide +kernel
theorem dX6_overlap_65 : decode cX6_overlap 65 = .ok (.iload 4, 2) := by decide +kernel
theorem dX6_overlap_67 : decode cX6_overlap 67 = .ok (.iaload, 1) := by decide +kernel
theorem dX6_overlap_68 : decode cX6_overlap 68 = .ok (.if_icmp .ne 19, 3) := by decide +kernel
theorem dX6_overlap_71 : decode cX6_overlap 71 = .ok (.iload_n 2, 1) := by decide +kernel
theorem dX6_overlap_72 : decode cX6_overlap 72 = .ok (.iload_n 1, 1) := by decide +kernel
theorem dX6_overlap_73 : decode cX6_overlap 73 = .ok (.if_icmp .ne 11, 3) := by decide +kernel
theorem dX6_overlap_76 : decode cX6_overlap 76 = .ok (.bipush 100, 2) := by decide +kernel
theorem dX6_overlap_78 : decode cX6_overlap 78 = .ok (.iload_n 3, 1) := by decide +kernel
theorem dX6_overlap_79 : decode cX6_overlap 79 = .ok (.imul, 1) := by decide +kernel
theorem dX6_overlap_80 : decode cX6_overlap 80 = .ok (.iload 4, 2) := by decide +kernel
theorem dX6_overlap_82 : decode cX6_overlap 82 = .ok (.iadd, 1) := by decide +kernel
theorem dX6_overlap_83 : decode cX6_overlap 83 = .ok (.ireturn, 1) := by decide +kernel
theorem dX6_overlap_84 : decode cX6_overlap 84 = .ok (.iinc 2 1, 3) := by decide +kernel
theorem dX6_overlap_87 : decode cX6_overlap 87 = .ok (.iinc 4 1, 3) := by decide +kernel
theorem dX6_overlap_90 : decode cX6_overlap 90 = .ok (.goto (-75), 3) := by decide +kernel
theorem dX6_overlap_93 : decode cX6_overlap 93 = .ok (.iinc 3 1, 3) := by decide +kernel
theorem dX6_overlap_96 : decode cX6_overlap 96 = .ok (.goto (-92), 3) := by decide +kernel
theorem dX6_overlap_99 : decode cX6_overlap 99 = .ok (.iload_n 1, 1) := by decide +kernel
theorem dX6_overlap_100 : decode cX6_overlap 100 = .ok (.iconst (-1), 1) := by decide +kernel
theorem dX6_overlap_101 : decode cX6_overlap 101 = .ok (.if_icmp .ne 7, 3) := by decide +kernel
theorem dX6_overlap_104 : decode cX6_overlap 104 = .ok (.iload_n 2, 1) := by decide +kernel
theorem dX6_overlap_105 : decode cX6_overlap 105 = .ok (.goto 5, 3) := by decide +kernel
theorem dX6_overlap_108 : decode cX6_overlap 108 = .ok (.bipush (-2), 2) := by decide +kernel
theorem dX6_overlap_110 : decode cX6_overlap 110 = .ok (.ireturn, 1) := by decide +kernel
theorem dX6_least_0 : decode cX6_least 0 = .ok (.iconst 0, 1) := by decide +kernel
theorem dX6_least_1 : decode cX6_least 1 = .ok (.istore_n 2, 1) := by decide +kernel
theorem dX6_least_2 : decode cX6_least 2 = .ok (.iconst 0, 1) := by decide +kernel
theorem dX6_least_3 : decode cX6_least 3 = .ok (.istore_n 3, 1) := by decide +kernel
theorem dX6_least_4 : decode cX6_least 4 = .ok (.iload_n 3, 1) := by decide +kernel
theorem dX6_least_5 : decode cX6_least 5 = .ok (.aload_n 0, 1) := by decide +kernel
theorem dX6_least_6 : decode cX6_least 6 = .ok (.getfield 31, 3) := by decide +kernel
theorem dX6_least_9 : decode cX6_least 9 = .ok (.if_icmp .ge 22, 3) := by decide +kernel
theorem dX6_least_12 : decode cX6_least 12 = .ok (.iload_n 2, 1) := by decide +kernel
theorem dX6_least_13 : decode cX6_least 13 = .ok (.aload_n 1, 1) := by decide +kernel
theorem dX6_least_14 : decode cX6_least 14 = .ok (.aload_n 0, 1) := by decide +kernel
theorem dX6_least_15 : decode cX6_least 15 = .ok (.getfield 21, 3) := by decide +kernel
theorem dX6_least_18 : decode cX6_least 18 = .ok (.iload_n 3, 1) := by decide +kernel
theorem dX6_least_19 : decode cX6_least 19 = .ok (.iaload, 1) := by decide +kernel
theorem dX6_least_20 : decode cX6_least 20 = .ok (.iaload, 1) := by decide +kernel
theorem dX6_least_21 : decode cX6_least 21 = .ok (.invokestatic 87, 3) := by decide +kernel
theorem dX6_least_24 : decode cX6_least 24 = .ok (.istore_n 2, 1) := by decide +kernel
theorem dX6_least_25 : decode cX6_least 25 = .ok (.iinc 3 1, 3) := by decide +kernel
theorem dX6_least_28 : decode cX6_least 28 = .ok (.goto (-24), 3) := by decide +kernel
theorem dX6_least_31 : decode cX6_least 31 = .ok (.iload_n 2, 1) := by decide +kernel
theorem dX6_least_32 : decode cX6_least 32 = .ok (.ireturn, 1) := by decide +kernel
theorem dX6_greatest_0 : decode cX6_greatest 0 = .ok (.iconst 0, 1) := by decide +kernel
theorem dX6_greatest_1 : decode cX6_greatest 1 = .ok (.istore_n 2, 1) := by decide +kernel
theorem dX6_greatest_2 : decode cX6_greatest 2 = .ok (.iconst 0, 1) := by decide +kernel
theorem dX6_greatest_3 : decode cX6_greatest 3 = .ok (.istore_n 3, 1) := by decide +kernel
theorem dX6_greatest_4 : decode cX6_greatest 4 = .ok (.iload_n 3, 1) := by decide +kernel
theorem dX6_greatest_5 : decode cX6_greatest 5 = .ok (.aload_n 0, 1) := by decide +kernel
theorem dX6_greatest_6 : decode cX6_greatest 6 = .ok (.getfield 31, 3) := by decide +kernel
theorem dX6_greatest_9 : decode cX6_greatest 9 = .ok (.if_icmp .ge 22, 3) := by decide +kernel
theorem dX6_greatest_12 : decode cX6_greatest 12 = .ok (.iload_n 2, 1) := by decide +kernel
theorem dX6_greatest_13 : decode cX6_greatest 13 = .ok (.aload_n 1, 1) := by decide +kernel
theorem dX6_greatest_14 : decode cX6_greatest 14 = .ok (.aload_n 0, 1) := by decide +kernel
theorem dX6_greatest_15 : decode cX6_greatest 15 = .ok (.getfield 21, 3) := by decide +kernel
theorem dX6_greatest_18 : decode cX6_greatest 18 = .ok (.iload_n 3, 1) := by decide +kernel
theorem dX6_greatest_19 : decode cX6_greatest 19 = .ok (.iaload, 1) := by decide +kernel
theorem dX6_greatest_20 : decode cX6_greatest 20 = .ok (.iaload, 1) := by decide +kernel
theorem dX6_greatest_21 : decode cX6_greatest 21 = .ok (.invokestatic 92, 3) := by decide +kernel
theorem dX6_greatest_24 : decode cX6_greatest 24 = .ok (.istore_n 2, 1) := by decide +kernel
theorem dX6_greatest_25 : decode cX6_greatest 25 = .ok (.iinc 3 1, 3) := by decide +kernel
theorem dX6_greatest_28 : decode cX6_greatest 28 = .ok (.goto (-24), 3) := by decide +kernel
theorem dX6_greatest_31 : decode cX6_greatest 31 = .ok (.iload_n 2, 1) := by decide +kernel
theorem dX6_greatest_32 : decode cX6_greatest 32 = .ok (.ireturn, 1) := by decide +kernel
theorem dX7_init_0 : decode cX7_init 0 = .ok (.aload_n 0, 1) := by decide +kernel
theorem dX7_init_1 : decode cX7_init 1 = .ok (.invokespecial 3, 3) := by decide +kernel
theorem dX7_init_4 : decode cX7_init 4 = .ok (.aload_n 0, 1) := by decide +kernel
theorem dX7_init_5 : decode cX7_init 5 = .ok (.iconst 0, 1) := by decide +kernel
theorem dX7_init_6 : decode cX7_init 6 = .ok (.putfield 9, 3) := by decide +kernel
theorem dX7_init_9 : decode cX7_init 9 = .ok (.aload_n 0, 1) := by decide +kernel
theorem dX7_init_10 : decode cX7_init 10 = .ok (.iconst 0, 1) := by decide +kernel
theorem dX7_init_11 : decode cX7_init 11 = .ok (.putfield 15, 3) := by decide +kernel
theorem dX7_init_14 : decode cX7_init 14 = .ok (.aload_n 0, 1) := by decide +kernel
theorem dX7_init_15 : decode cX7_init 15 = .ok (.bipush 21, 2) := by decide +kernel
theorem dX7_init_17 : decode cX7_init 17 = .ok (.newarray .int, 2) := by decide +kernel
theorem dX7_init_19 : decode cX7_init 19 = .ok (.putfield 19, 3) := by decide +kernel
theorem dX7_init_22 : decode cX7_init 22 = .ok (.aload_n 0, 1) := by decide +kernel
theorem dX7_init_23 : decode cX7_init 23 = .ok (.new 23, 3) := by decide +kernel
theorem dX7_init_26 : decode cX7_init 26 = .ok (.dup, 1) := by decide +kernel
theorem dX7_init_27 : decode cX7_init 27 = .ok (.invokespecial 25, 3) := by decide +kernel
theorem dX7_init_30 : decode cX7_init 30 = .ok (.putfield 26, 3) := by decide +kernel
theorem dX7_init_33 : decode cX7_init 33 = .ok (.aload_n 0, 1) := by decide +kernel
theorem dX7_init_34 : decode cX7_init 34 = .ok (.iconst 0, 1) := by decide +kernel
theorem dX7_init_35 : decode cX7_init 35 = .ok (.putfield 30, 3) := by decide +kernel
theorem dX7_init_38 : decode cX7_init 38 = .ok (.aload_n 0, 1) := by decide +kernel
theorem dX7_init_39 : decode cX7_init 39 = .ok (.bipush 30, 2) := by decide +kernel
theorem dX7_init_41 : decode cX7_init 41 = .ok (.newarray .int, 2) := by decide +kernel
theorem dX7_init_43 : decode cX7_init 43 = .ok (.putfield 33, 3) := by decide +kernel
theorem dX7_init_46 : decode cX7_init 46 = .ok (.return_, 1) := by decide +kernel
theorem dX7_store_0 : decode cX7_store 0 = .ok (.aload_n 0, 1) := by decide +kernel
theorem dX7_store_1 : decode cX7_store 1 = .ok (.iconst 1, 1) := by decide +kernel
theorem dX7_store_2 : decode cX7_store 2 = .ok (.putfield 9, 3) := by decide +kernel
theorem dX7_store_5 : decode cX7_store 5 = .ok (.aload_n 0, 1) := by decide +kernel
theorem dX7_store_6 : decode cX7_store 6 = .ok (.aload_n 1, 1) := by decide +kernel
theorem dX7_store_7 : decode cX7_store 7 = .ok (.getfield 36, 3) := by decide +kernel
theorem dX7_store_10 : decode cX7_store 10 = .ok (.putfield 15, 3) := by decide +kernel
theorem dX7_store_13 : decode cX7_store 13 = .ok (.aload_n 1, 1) := by decide +kernel
theorem dX7_store_14 : decode cX7_store 14 = .ok (.getfield 39, 3) := by decide +kernel
theorem dX7_store_17 : decode cX7_store 17 = .ok (.iconst 0, 1) := by decide +kernel
theorem dX7_store_18 : decode cX7_store 18 = .ok (.aload_n 0, 1) := by decide +kernel
theorem dX7_store_19 : decode cX7_store 19 = .ok (.getfield 19, 3) := by decide +kernel
theorem dX7_store_22 : decode cX7_store 22 = .ok (.iconst 0, 1) := by decide +kernel
theorem dX7_store_23 : decode cX7_store 23 = .ok (.aload_n 0, 1) := by decide +kernel
theorem dX7_store_24 : decode cX7_store 24 = .ok (.getfield 19, 3) := by decide +kernel
theorem dX7_store_27 : decode cX7_store 27 = .ok (.arraylength, 1) := by decide +kernel
theorem dX7_store_28 : decode cX7_store 28 = .ok (.invokestatic 40, 3) := by decide +kernel
theorem dX7_store_31 : decode cX7_store 31 = .ok (.aload_n 0, 1) := by decide +kernel
theorem dX7_store_32 : decode cX7_store 32 = .ok (.getfield 26, 3) := by decide +kernel
theorem dX7_store_35 : decode cX7_store 35 = .ok (.aload_n 2, 1) := by decide +kernel
theorem dX7_store_36 : decode cX7_store 36 = .ok (.invokevirtual 46, 3) := by decide +kernel
theorem dX7_store_39 : decode cX7_store 39 = .ok (.aload_n 0, 1) := by decide +kernel
theorem dX7_store_40 : decode cX7_store 40 = .ok (.aload_n 3, 1) := by decide +kernel
theorem dX7_store_41 : decode cX7_store 41 = .ok (.getfield 50, 3) := by decide +kernel
theorem dX7_store_44 : decode cX7_store 44 = .ok (.putfield 30, 3) := by decide +kernel
theorem dX7_store_47 : decode cX7_store 47 = .ok (.aload_n 3, 1) := by decide +kernel
theorem dX7_store_48 : decode cX7_store 48 = .ok (.getfield 53, 3) := by decide +kernel
theorem dX7_store_51 : decode cX7_store 51 = .ok (.iconst 0, 1) := by decide +kernel
theorem dX7_store_52 : decode cX7_store 52 = .ok (.aload_n 0, 1) := by decide +kernel
theorem dX7_store_53 : decode cX7_store 53 = .ok (.getfield 33, 3) := by decide +kernel
theorem dX7_store_56 : decode cX7_store 56 = .ok (.iconst 0, 1) := by decide +kernel
theorem dX7_store_57 : decode cX7_store 57 = .ok (.aload_n 0, 1) := by decide +kernel
theorem dX7_store_58 : decode cX7_store 58 = .ok (.getfield 33, 3) := by decide +kernel
theorem dX7_store_61 : decode cX7_store 61 = .ok (.arraylength, 1) := by decide +kernel
theorem dX7_store_62 : decode cX7_store 62 = .ok (.invokestatic 40, 3) := by decide +kernel
theorem dX7_store_65 : decode cX7_store 65 = .ok (.return_, 1) := by decide +kernel
theorem dX8_init_0 : decode cX8_init 0 = .ok (.aload_n 0, 1) := by decide +kernel
theorem dX8_init_1 : decode cX8_init 1 = .ok (.invokespecial 3, 3) := by decide +kernel
theorem dX8_init_4 : decode cX8_init 4 = .ok (.aload_n 0, 1) := by decide +kernel
theorem dX8_init_5 : decode cX8_init 5 = .ok (.iconst 0, 1) := by decide +kernel
theorem dX8_init_6 : decode cX8_init 6 = .ok (.putfield 9, 3) := by decide +kernel
theorem dX8_init_9 : decode cX8_init 9 = .ok (.aload_n 0, 1) := by decide +kernel
theorem dX8_init_10 : decode cX8_init 10 = .ok (.bipush 30, 2) := by decide +kernel
theorem dX8_init_12 : decode cX8_init 12 = .ok (.newarray .int, 2) := by decide +kernel
theorem dX8_init_14 : decode cX8_init 14 = .ok (.putfield 15, 3) := by decide +kernel
theorem dX8_init_17 : decode cX8_init 17 = .ok (.aload_n 0, 1) := by decide +kernel
theorem dX8_init_18 : decode cX8_init 18 = .ok (.bipush 30, 2) := by decide +kernel
theorem dX8_init_20 : decode cX8_init 20 = .ok (.newarray .int, 2) := by decide +kernel
theorem dX8_init_22 : decode cX8_init 22 = .ok (.putfield 19, 3) := by decide +kernel
theorem dX8_init_25 : decode cX8_init 25 = .ok (.aload_n 0, 1) := by decide +kernel
theorem dX8_init_26 : decode cX8_init 26 = .ok (.bipush 30, 2) := by decide +kernel
theorem dX8_init_28 : decode cX8_init 28 = .ok (.newarray .int, 2) := by decide +kernel
theorem dX8_init_30 : decode cX8_init 30 = .ok (.putfield 22, 3) := by decide +kernel
theorem dX8_init_33 : decode cX8_init 33 = .ok (.aload_n 0, 1) := by decide +kernel
theorem dX8_init_34 : decode cX8_init 34 = .ok (.bipush 30, 2) := by decide +kernel
theorem dX8_init_36 : decode cX8_init 36 = .ok (.newarray .int, 2) := by decide +kernel
theorem dX8_init_38 : decode cX8_init 38 = .ok (.putfield 25, 3) := by decide +kernel
theorem dX8_init_41 : decode cX8_init 41 = .ok (.return_, 1) := by decide +kernel
theorem dX8_draw_0 : decode cX8_draw 0 = .ok (.aload_n 0, 1) := by decide +kernel
theorem dX8_draw_1 : decode cX8_draw 1 = .ok (.iload_n 2, 1) := by decide +kernel
theorem dX8_draw_2 : decode cX8_draw 2 = .ok (.bipush 30, 2) := by decide +kernel
theorem dX8_draw_4 : decode cX8_draw 4 = .ok (.invokestatic 28, 3) := by decide +kernel
theorem dX8_draw_7 : decode cX8_draw 7 = .ok (.putfield 9, 3) := by decide +kernel
theorem dX8_draw_10 : decode cX8_draw 10 = .ok (.iconst 0, 1) := by decide +kernel
theorem dX8_draw_11 : decode cX8_draw 11 = .ok (.istore_n 3, 1) := by decide +kernel
theorem dX8_draw_12 : decode cX8_draw 12 = .ok (.iload_n 3, 1) := by decide +kernel
theorem dX8_draw_13 : decode cX8_draw 13 = .ok (.bipush 8, 2) := by decide +kernel
theorem dX8_draw_15 : decode cX8_draw 15 = .ok (.if_icmp .ge 54, 3) := by decide +kernel
theorem dX8_draw_18 : decode cX8_draw 18 = .ok (.aload_n 0, 1) := by decide +kernel
theorem dX8_draw_19 : decode cX8_draw 19 = .ok (.getfield 9, 3) := by decide +kernel
theorem dX8_draw_22 : decode cX8_draw 22 = .ok (.ifCond .le 47, 3) := by decide +kernel
theorem dX8_draw_25 : decode cX8_draw 25 = .ok (.aload_n 0, 1) := by decide +kernel
theorem dX8_draw_26 : decode cX8_draw 26 = .ok (.aload_n 1, 1) := by decide +kernel
theorem dX8_draw_27 : decode cX8_draw 27 = .ok (.iload_n 3, 1) := by decide +kernel
theorem dX8_draw_28 : decode cX8_draw 28 = .ok (.invokevirtual 34, 3) := by decide +kernel
theorem dX8_draw_31 : decode cX8_draw 31 = .ok (.aload_n 0, 1) := by decide +kernel
theorem dX8_draw_32 : decode cX8_draw 32 = .ok (.invokevirtual 38, 3) := by decide +kernel
theorem dX8_draw_35 : decode cX8_draw 35 = .ok (.iload_n 3, 1) := by decide +kernel
theorem dX8_draw_36 : decode cX8_draw 36 = .ok (.ifCond .eq 10, 3) := by decide +kernel
theorem dX8_draw_39 : decode cX8_draw 39 = .ok (.aload_n 0, 1) := by decide +kernel
theorem dX8_draw_40 : decode cX8_draw 40 = .ok (.invokevirtual 41, 3) := by decide +kernel
theorem dX8_draw_43 : decode cX8_draw 43 = .ok (.ifCond .eq 20, 3) := by decide +kernel
theorem dX8_draw_46 : decode cX8_draw 46 = .ok (.aload_n 0, 1) := by decide +kernel
theorem dX8_draw_47 : decode cX8_draw 47 = .ok (.getfield 19, 3) := by decide +kernel
theorem dX8_draw_50 : decode cX8_draw 50 = .ok (.iconst 0, 1) := by decide +kernel
theorem dX8_draw_51 : decode cX8_draw 51 = .ok (.aload_n 0, 1) := by decide +kernel
theorem dX8_draw_52 : decode cX8_draw 52 = .ok (.getfield 15, 3) := by decide +kernel
theorem dX8_draw_55 : decode cX8_draw 55 = .ok (.iconst 0, 1) := by decide +kernel
theorem dX8_draw_56 : decode cX8_draw 56 = .ok (.aload_n 0, 1) := by decide +kernel
theorem dX8_draw_57 : decode cX8_draw 57 = .ok (.getfield 9, 3) := by decide +kernel
theorem dX8_draw_60 : decode cX8_draw 60 = .ok (.invokestatic 45, 3) := by decide +kernel
theorem dX8_draw_63 : decode cX8_draw 63 = .ok (.iinc 3 1, 3) := by decide +kernel
theorem dX8_draw_66 : decode cX8_draw 66 = .ok (.goto (-54), 3) := by decide +kernel
theorem dX8_draw_69 : decode cX8_draw 69 = .ok (.return_, 1) := by decide +kernel
theorem dX8_turn_0 : decode cX8_turn 0 = .ok (.bipush 30, 2) := by decide +kernel
theorem dX8_turn_2 : decode cX8_turn 2 = .ok (.istore_n 3, 1) := by decide +kernel
theorem dX8_turn_3 : decode cX8_turn 3 = .ok (.bipush 30, 2) := by decide +kernel
theorem dX8_turn_5 : decode cX8_turn 5 = .ok (.istore 4, 2) := by decide +kernel
theorem dX8_turn_7 : decode cX8_turn 7 = .ok (.iconst 0, 1) := by decide +kernel
theorem dX8_turn_8 : decode cX8_turn 8 = .ok (.istore 5, 2) := by decide +kernel
theorem dX8_turn_10 : decode cX8_turn 10 = .ok (.iload 5, 2) := by decide +kernel
theorem dX8_turn_12 : decode cX8_turn 12 = .ok (.aload_n 0, 1) := by decide +kernel
theorem dX8_turn_13 : decode cX8_turn 13 = .ok (.getfield 9, 3) := by decide +kernel
theorem dX8_turn_16 : decode cX8_turn 16 = .ok (.if_icmp .ge 126, 3) := by decide +kernel
theorem dX8_turn_19 : decode cX8_turn 19 = .ok (.iload_n 2, 1) := by decide +kernel
theorem dX8_turn_20 : decode cX8_turn 20 = .ok (.iconst 4, 1) := by decide +kernel
theorem dX8_turn_21 : decode cX8_turn 21 = .ok (.iand, 1) := by decide +kernel
theorem dX8_turn_22 : decode cX8_turn 22 = .ok (.ifCond .ne 13, 3) := by decide +kernel
theorem dX8_turn_25 : decode cX8_turn 25 = .ok (.aload_n 1, 1) := by decide +kernel
theorem dX8_turn_26 : decode cX8_turn 26 = .ok (.getfield 51, 3) := by decide +kernel
theorem dX8_turn_29 : decode cX8_turn 29 = .ok (.iload 5, 2) := by decide +kernel
theorem dX8_turn_31 : decode cX8_turn 31 = .ok (.iaload, 1) := by decide +kernel
theorem dX8_turn_32 : decode cX8_turn 32 = .ok (.goto 11, 3) := by decide +kernel
theorem dX8_turn_35 : decode cX8_turn 35 = .ok (.aload_n 1, 1) := by decide +kernel
theorem dX8_turn_36 : decode cX8_turn 36 = .ok (.getfield 51, 3) := by decide +kernel
theorem dX8_turn_39 : decode cX8_turn 39 = .ok (.iload 5, 2) := by decide +kernel
theorem dX8_turn_41 : decode cX8_turn 41 = .ok (.iaload, 1) := by decide +kernel
theorem dX8_turn_42 : decode cX8_turn 42 = .ok (.ineg, 1) := by decide +kernel
theorem dX8_turn_43 : decode cX8_turn 43 = .ok (.istore 6, 2) := by decide +kernel
theorem dX8_turn_45 : decode cX8_turn 45 = .ok (.aload_n 1, 1) := by decide +kernel
theorem dX8_turn_46 : decode cX8_turn 46 = .ok (.getfield 56, 3) := by decide +kernel
theorem dX8_turn_49 : decode cX8_turn 49 = .ok (.iload 5, 2) := by decide +kernel
theorem dX8_turn_51 : decode cX8_turn 51 = .ok (.iaload, 1) := by decide +kernel
theorem dX8_turn_52 : decode cX8_turn 52 = .ok (.istore 7, 2) := by decide +kernel
theorem dX8_turn_54 : decode cX8_turn 54 = .ok (.aload_n 0, 1) := by decide +kernel
theorem dX8_turn_55 : decode cX8_turn 55 = .ok (.getfield 22, 3) := by decide +kernel
theorem dX8_turn_58 : decode cX8_turn 58 = .ok (.iload 5, 2) := by decide +kernel
theorem dX8_turn_60 : decode cX8_turn 60 = .ok (.iload 6, 2) := by decide +kernel
theorem dX8_turn_62 : decode cX8_turn 62 = .ok (.getstatic 59, 3) := by decide +kernel
theorem dX8_turn_65 : decode cX8_turn 65 = .ok (.iload_n 2, 1) := by decide +kernel
theorem dX8_turn_66 : decode cX8_turn 66 = .ok (.iconst 3, 1) := by decide +kernel
theorem dX8_turn_67 : decode cX8_turn 67 = .ok (.iand, 1) := by decide +kernel
theorem dX8_turn_68 : decode cX8_turn 68 = .ok (.iaload, 1) := by decide +kernel
theorem dX8_turn_69 : decode cX8_turn 69 = .ok (.imul, 1) := by decide +kernel
theorem dX8_turn_70 : decode cX8_turn 70 = .ok (.iload 7, 2) := by decide +kernel
theorem dX8_turn_72 : decode cX8_turn 72 = .ok (.getstatic 62, 3) := by decide +kernel
theorem dX8_turn_75 : decode cX8_turn 75 = .ok (.iload_n 2, 1) := by decide +kernel
theorem dX8_turn_76 : decode cX8_turn 76 = .ok (.iconst 3, 1) := by decide +kernel
theorem dX8_turn_77 : decode cX8_turn 77 = .ok (.iand, 1) := by decide +kernel
theorem dX8_turn_78 : decode cX8_turn 78 = .ok (.iaload, 1) := by decide +kernel
theorem dX8_turn_79 : decode cX8_turn 79 = .ok (.imul, 1) := by decide +kernel
theorem dX8_turn_80 : decode cX8_turn 80 = .ok (.isub, 1) := by decide +kernel
theorem dX8_turn_81 : decode cX8_turn 81 = .ok (.iastore, 1) := by decide +kernel
theorem dX8_turn_82 : decode cX8_turn 82 = .ok (.aload_n 0, 1) := by decide +kernel
theorem dX8_turn_83 : decode cX8_turn 83 = .ok (.getfield 25, 3) := by decide +kernel
theorem dX8_turn_86 : decode cX8_turn 86 = .ok (.iload 5, 2) := by decide +kernel
theorem dX8_turn_88 : decode cX8_turn 88 = .ok (.iload 6, 2) := by decide +kernel
theorem dX8_turn_90 : decode cX8_turn 90 = .ok (.getstatic 62, 3) := by decide +kernel
theorem dX8_turn_93 : decode cX8_turn 93 = .ok (.iload_n 2, 1) := by decide +kernel
theorem dX8_turn_94 : decode cX8_turn 94 = .ok (.iconst 3, 1) := by decide +kernel
theorem dX8_turn_95 : decode cX8_turn 95 = .ok (.iand, 1) := by decide +kernel
theorem dX8_turn_96 : decode cX8_turn 96 = .ok (.iaload, 1) := by decide +kernel
theorem dX8_turn_97 : decode cX8_turn 97 = .ok (.imul, 1) := by decide +kernel
theorem dX8_turn_98 : decode cX8_turn 98 = .ok (.iload 7, 2) := by decide +kernel
theorem dX8_turn_100 : decode cX8_turn 100 = .ok (.getstatic 59, 3) := by decide +kernel
theorem dX8_turn_103 : decode cX8_turn 103 = .ok (.iload_n 2, 1) := by decide +kernel
theorem dX8_turn_104 : decode cX8_turn 104 = .ok (.iconst 3, 1) := by decide +kernel
theorem dX8_turn_105 : decode cX8_turn 105 = .ok (.iand, 1) := by decide +kernel
theorem dX8_turn_106 : decode cX8_turn 106 = .ok (.iaload, 1) := by decide +kernel
theorem dX8_turn_107 : decode cX8_turn 107 = .ok (.imul, 1) := by decide +kernel
theorem dX8_turn_108 : decode cX8_turn 108 = .ok (.iadd, 1) := by decide +kernel
theorem dX8_turn_109 : decode cX8_turn 109 = .ok (.iastore, 1) := by decide +kernel
theorem dX8_turn_110 : decode cX8_turn 110 = .ok (.iload_n 3, 1) := by decide +kernel
theorem dX8_turn_111 : decode cX8_turn 111 = .ok (.aload_n 0, 1) := by decide +kernel
theorem dX8_turn_112 : decode cX8_turn 112 = .ok (.getfield 22, 3) := by decide +kernel
theorem dX8_turn_115 : decode cX8_turn 115 = .ok (.iload 5, 2) := by decide +kernel
theorem dX8_turn_117 : decode cX8_turn 117 = .ok (.iaload, 1) := by decide +kernel
theorem dX8_turn_118 : decode cX8_turn 118 = .ok (.invokestatic 28, 3) := by decide +kernel
theorem dX8_turn_121 : decode cX8_turn 121 = .ok (.istore_n 3, 1) := by decide +kernel
theorem dX8_turn_122 : decode cX8_turn 122 = .ok (.iload 4, 2) := by decide +kernel
theorem dX8_turn_124 : decode cX8_turn 124 = .ok (.aload_n 0, 1) := by decide +kernel
theorem dX8_turn_125 : decode cX8_turn 125 = .ok (.getfield 25, 3) := by decide +kernel
theorem dX8_turn_128 : decode cX8_turn 128 = .ok (.iload 5, 2) := by decide +kernel
theorem dX8_turn_130 : decode cX8_turn 130 = .ok (.iaload, 1) := by decide +kernel
theorem dX8_turn_131 : decode cX8_turn 131 = .ok (.invokestatic 28, 3) := by decide +kernel
theorem dX8_turn_134 : decode cX8_turn 134 = .ok (.istore 4, 2) := by decide +kernel
theorem dX8_turn_136 : decode cX8_turn 136 = .ok (.iinc 5 1, 3) := by decide +kernel
theorem dX8_turn_139 : decode cX8_turn 139 = .ok (.goto (-129), 3) := by decide +kernel
theorem dX8_turn_142 : decode cX8_turn 142 = .ok (.iconst 0, 1) := by decide +kernel
theorem dX8_turn_143 : decode cX8_turn 143 = .ok (.istore 5, 2) := by decide +kernel
theorem dX8_turn_145 : decode cX8_turn 145 = .ok (.iload 5, 2) := by decide +kernel
theorem dX8_turn_147 : decode cX8_turn 147 = .ok (.aload_n 0, 1) := by decide +kernel
theorem dX8_turn_148 : decode cX8_turn 148 = .ok (.getfield 9, 3) := by decide +kernel
theorem dX8_turn_151 : decode cX8_turn 151 = .ok (.if_icmp .ge 39, 3) := by decide +kernel
theorem dX8_turn_154 : decode cX8_turn 154 = .ok (.aload_n 0, 1) := by decide +kernel
theorem dX8_turn_155 : decode cX8_turn 155 = .ok (.getfield 19, 3) := by decide +kernel
theorem dX8_turn_158 : decode cX8_turn 158 = .ok (.iload 5, 2) := by decide +kernel
theorem dX8_turn_160 : decode cX8_turn 160 = .ok (.bipush 64, 2) := by decide +kernel
theorem dX8_turn_162 : decode cX8_turn 162 = .ok (.aload_n 0, 1) := by decide +kernel
theorem dX8_turn_163 : decode cX8_turn 163 = .ok (.getfield 25, 3) := by decide +kernel
theorem dX8_turn_166 : decode cX8_turn 166 = .ok (.iload 5, 2) := by decide +kernel
theorem dX8_turn_168 : decode cX8_turn 168 = .ok (.iaload, 1) := by decide +kernel
theorem dX8_turn_169 : decode cX8_turn 169 = .ok (.iload 4, 2) := by decide +kernel
theorem dX8_turn_171 : decode cX8_turn 171 = .ok (.isub, 1) := by decide +kernel
theorem dX8_turn_172 : decode cX8_turn 172 = .ok (.imul, 1) := by decide +kernel
theorem dX8_turn_173 : decode cX8_turn 173 = .ok (.aload_n 0, 1) := by decide +kernel
theorem dX8_turn_174 : decode cX8_turn 174 = .ok (.getfield 22, 3) := by decide +kernel
theorem dX8_turn_177 : decode cX8_turn 177 = .ok (.iload 5, 2) := by decide +kernel
theorem dX8_turn_179 : decode cX8_turn 179 = .ok (.iaload, 1) := by decide +kernel
theorem dX8_turn_180 : decode cX8_turn 180 = .ok (.iadd, 1) := by decide +kernel
theorem dX8_turn_181 : decode cX8_turn 181 = .ok (.iload_n 3, 1) := by decide +kernel
theorem dX8_turn_182 : decode cX8_turn 182 = .ok (.isub, 1) := by decide +kernel
theorem dX8_turn_183 : decode cX8_turn 183 = .ok (.iastore, 1) := by decide +kernel
theorem dX8_turn_184 : decode cX8_turn 184 = .ok (.iinc 5 1, 3) := by decide +kernel
theorem dX8_turn_187 : decode cX8_turn 187 = .ok (.goto (-42), 3) := by decide +kernel
theorem dX8_turn_190 : decode cX8_turn 190 = .ok (.return_, 1) := by decide +kernel
theorem dX8_sort_0 : decode cX8_sort 0 = .ok (.iconst 1, 1) := by decide +kernel
theorem dX8_sort_1 : decode cX8_sort 1 = .ok (.istore_n 1, 1) := by decide +kernel
theorem dX8_sort_2 : decode cX8_sort 2 = .ok (.iload_n 1, 1) := by decide +kernel
theorem dX8_sort_3 : decode cX8_sort 3 = .ok (.aload_n 0, 1) := by decide +kernel
theorem dX8_sort_4 : decode cX8_sort 4 = .ok (.getfield 9, 3) := by decide +kernel
theorem dX8_sort_7 : decode cX8_sort 7 = .ok (.if_icmp .ge 61, 3) := by decide +kernel
theorem dX8_sort_10 : decode cX8_sort 10 = .ok (.aload_n 0, 1) := by decide +kernel
theorem dX8_sort_11 : decode cX8_sort 11 = .ok (.getfield 19, 3) := by decide +kernel
theorem dX8_sort_14 : decode cX8_sort 14 = .ok (.iload_n 1, 1) := by decide +kernel
theorem dX8_sort_15 : decode cX8_sort 15 = .ok (.iaload, 1) := by decide +kernel
theorem dX8_sort_16 : decode cX8_sort 16 = .ok (.istore_n 2, 1) := by decide +kernel
theorem dX8_sort_17 : decode cX8_sort 17 = .ok (.iload_n 1, 1) := by decide +kernel
theorem dX8_sort_18 : decode cX8_sort 18 = .ok (.istore_n 3, 1) := by decide +kernel
theorem dX8_sort_19 : decode cX8_sort 19 = .ok (.iload_n 3, 1) := by decide +kernel
theorem dX8_sort_20 : decode cX8_sort 20 = .ok (.ifCond .le 35, 3) := by decide +kernel
theorem dX8_sort_23 : decode cX8_sort 23 = .ok (.aload_n 0, 1) := by decide +kernel
theorem dX8_sort_24 : decode cX8_sort 24 = .ok (.getfield 19, 3) := by decide +kernel
theorem dX8_sort_27 : decode cX8_sort 27 = .ok (.iload_n 3, 1) := by decide +kernel
theorem dX8_sort_28 : decode cX8_sort 28 = .ok (.iconst 1, 1) := by decide +kernel
theorem dX8_sort_29 : decode cX8_sort 29 = .ok (.isub, 1) := by decide +kernel
theorem dX8_sort_30 : decode cX8_sort 30 = .ok (.iaload, 1) := by decide +kernel
theorem dX8_sort_31 : decode cX8_sort 31 = .ok (.iload_n 2, 1) := by decide +kernel
theorem dX8_sort_32 : decode cX8_sort 32 = .ok (.if_icmp .le 23, 3) := by decide +kernel
theorem dX8_sort_35 : decode cX8_sort 35 = .ok (.aload_n 0, 1) := by decide +kernel
theorem dX8_sort_36 : decode cX8_sort 36 = .ok (.getfield 19, 3) := by decide +kernel
theorem dX8_sort_39 : decode cX8_sort 39 = .ok (.iload_n 3, 1) := by decide +kernel
theorem dX8_sort_40 : decode cX8_sort 40 = .ok (.aload_n 0, 1) := by decide +kernel
theorem dX8_sort_41 : decode cX8_sort 41 = .ok (.getfield 19, 3) := by decide +kernel
theorem dX8_sort_44 : decode cX8_sort 44 = .ok (.iload_n 3, 1) := by decide +kernel
theorem dX8_sort_45 : decode cX8_sort 45 = .ok (.iconst 1, 1) := by decide +kernel
theorem dX8_sort_46 : decode cX8_sort 46 = .ok (.isub, 1) := by decide +kernel
theorem dX8_sort_47 : decode cX8_sort 47 = .ok (.iaload, 1) := by decide +kernel
theorem dX8_sort_48 : decode cX8_sort 48 = .ok (.iastore, 1) := by decide +kernel
theorem dX8_sort_49 : decode cX8_sort 49 = .ok (.iinc 3 (-1), 3) := by decide +kernel
theorem dX8_sort_52 : decode cX8_sort 52 = .ok (.goto (-33), 3) := by decide +kernel
theorem dX8_sort_55 : decode cX8_sort 55 = .ok (.aload_n 0, 1) := by decide +kernel
theorem dX8_sort_56 : decode cX8_sort 56 = .ok (.getfield 19, 3) := by decide +kernel
theorem dX8_sort_59 : decode cX8_sort 59 = .ok (.iload_n 3, 1) := by decide +kernel
theorem dX8_sort_60 : decode cX8_sort 60 = .ok (.iload_n 2, 1) := by decide +kernel
theorem dX8_sort_61 : decode cX8_sort 61 = .ok (.iastore, 1) := by decide +kernel
theorem dX8_sort_62 : decode cX8_sort 62 = .ok (.iinc 1 1, 3) := by decide +kernel
theorem dX8_sort_65 : decode cX8_sort 65 = .ok (.goto (-63), 3) := by decide +kernel
theorem dX8_sort_68 : decode cX8_sort 68 = .ok (.return_, 1) := by decide +kernel
theorem dX8_isTrialFirst_0 : decode cX8_isTrialFirst 0 = .ok (.iconst 0, 1) := by decide +kernel
theorem dX8_isTrialFirst_1 : decode cX8_isTrialFirst 1 = .ok (.istore_n 1, 1) := by decide +kernel
theorem dX8_isTrialFirst_2 : decode cX8_isTrialFirst 2 = .ok (.iload_n 1, 1) := by decide +kernel
theorem dX8_isTrialFirst_3 : decode cX8_isTrialFirst 3 = .ok (.aload_n 0, 1) := by decide +kernel
theorem dX8_isTrialFirst_4 : decode cX8_isTrialFirst 4 = .ok (.getfield 9, 3) := by decide +kernel
theorem dX8_isTrialFirst_7 : decode cX8_isTrialFirst 7 = .ok (.if_icmp .ge 45, 3) := by decide +kernel
theorem dX8_isTrialFirst_10 : decode cX8_isTrialFirst 10 = .ok (.aload_n 0, 1) := by decide +kernel
theorem dX8_isTrialFirst_11 : decode cX8_isTrialFirst 11 = .ok (.getfield 19, 3) := by decide +kernel
theorem dX8_isTrialFirst_14 : decode cX8_isTrialFirst 14 = .ok (.iload_n 1, 1) := by decide +kernel
theorem dX8_isTrialFirst_15 : decode cX8_isTrialFirst 15 = .ok (.iaload, 1) := by decide +kernel
theorem dX8_isTrialFirst_16 : decode cX8_isTrialFirst 16 = .ok (.aload_n 0, 1) := by decide +kernel
theorem dX8_isTrialFirst_17 : decode cX8_isTrialFirst 17 = .ok (.getfield 15, 3) := by decide +kernel
theorem dX8_isTrialFirst_20 : decode cX8_isTrialFirst 20 = .ok (.iload_n 1, 1) := by decide +kernel
theorem dX8_isTrialFirst_21 : decode cX8_isTrialFirst 21 = .ok (.iaload, 1) := by decide +kernel
theorem dX8_isTrialFirst_22 : decode cX8_isTrialFirst 22 = .ok (.if_icmp .eq 24, 3) := by decide +kernel
theorem dX8_isTrialFirst_25 : decode cX8_isTrialFirst 25 = .ok (.aload_n 0, 1) := by decide +kernel
theorem dX8_isTrialFirst_26 : decode cX8_isTrialFirst 26 = .ok (.getfield 19, 3) := by decide +kernel
theorem dX8_isTrialFirst_29 : decode cX8_isTrialFirst 29 = .ok (.iload_n 1, 1) := by decide +kernel
theorem dX8_isTrialFirst_30 : decode cX8_isTrialFirst 30 = .ok (.iaload, 1) := by decide +kernel
theorem dX8_isTrialFirst_31 : decode cX8_isTrialFirst 31 = .ok (.aload_n 0, 1) := by decide +kernel
theorem dX8_isTrialFirst_32 : decode cX8_isTrialFirst 32 = .ok (.getfield 15, 3) := by decide +kernel
theorem dX8_isTrialFirst_35 : decode cX8_isTrialFirst 35 = .ok (.iload_n 1, 1) := by decide +kernel
theorem dX8_isTrialFirst_36 : decode cX8_isTrialFirst 36 = .ok (.iaload, 1) := by decide +kernel
theorem dX8_isTrialFirst_37 : decode cX8_isTrialFirst 37 = .ok (.if_icmp .ge 7, 3) := by decide +kernel
theorem dX8_isTrialFirst_40 : decode cX8_isTrialFirst 40 = .ok (.iconst 1, 1) := by decide +kernel
theorem dX8_isTrialFirst_41 : decode cX8_isTrialFirst 41 = .ok (.goto 4, 3) := by decide +kernel
theorem dX8_isTrialFirst_44 : decode cX8_isTrialFirst 44 = .ok (.iconst 0, 1) := by decide +kernel
theorem dX8_isTrialFirst_45 : decode cX8_isTrialFirst 45 = .ok (.ireturn, 1) := by decide +kernel
theorem dX8_isTrialFirst_46 : decode cX8_isTrialFirst 46 = .ok (.iinc 1 1, 3) := by decide +kernel
theorem dX8_isTrialFirst_49 : decode cX8_isTrialFirst 49 = .ok (.goto (-47), 3) := by decide +kernel
theorem dX8_isTrialFirst_52 : decode cX8_isTrialFirst 52 = .ok (.iconst 0, 1) := by decide +kernel
theorem dX8_isTrialFirst_53 : decode cX8_isTrialFirst 53 = .ok (.ireturn, 1) := by decide +kernel
theorem dX8_number_0 : decode cX8_number 0 = .ok (.aload_n 0, 1) := by decide +kernel
theorem dX8_number_1 : decode cX8_number 1 = .ok (.getfield 9, 3) := by decide +kernel
theorem dX8_number_4 : decode cX8_number 4 = .ok (.ifCond .ne 5, 3) := by decide +kernel
theorem dX8_number_7 : decode cX8_number 7 = .ok (.lconst 0, 1) := by decide +kernel
theorem dX8_number_8 : decode cX8_number 8 = .ok (.lreturn, 1) := by decide +kernel
theorem dX8_number_9 : decode cX8_number 9 = .ok (.ldc2_w 65, 3) := by decide +kernel
theorem dX8_number_12 : decode cX8_number 12 = .ok (.lstore_n 1, 1) := by decide +kernel
theorem dX8_number_13 : decode cX8_number 13 = .ok (.iconst 0, 1) := by decide +kernel
theorem dX8_number_14 : decode cX8_number 14 = .ok (.istore_n 3, 1) := by decide +kernel
theorem dX8_number_15 : decode cX8_number 15 = .ok (.iload_n 3, 1) := by decide +kernel
theorem dX8_number_16 : decode cX8_number 16 = .ok (.aload_n 0, 1) := by decide +kernel
theorem dX8_number_17 : decode cX8_number 17 = .ok (.getfield 9, 3) := by decide +kernel
theorem dX8_number_20 : decode cX8_number 20 = .ok (.if_icmp .ge 23, 3) := by decide +kernel
theorem dX8_number_23 : decode cX8_number 23 = .ok (.ldc2_w 67, 3) := by decide +kernel
theorem dX8_number_26 : decode cX8_number 26 = .ok (.lload_n 1, 1) := by decide +kernel
theorem dX8_number_27 : decode cX8_number 27 = .ok (.lmul, 1) := by decide +kernel
theorem dX8_number_28 : decode cX8_number 28 = .ok (.aload_n 0, 1) := by decide +kernel
theorem dX8_number_29 : decode cX8_number 29 = .ok (.getfield 15, 3) := by decide +kernel
theorem dX8_number_32 : decode cX8_number 32 = .ok (.iload_n 3, 1) := by decide +kernel
theorem dX8_number_33 : decode cX8_number 33 = .ok (.iaload, 1) := by decide +kernel
theorem dX8_number_34 : decode cX8_number 34 = .ok (.i2l, 1) := by decide +kernel
theorem dX8_number_35 : decode cX8_number 35 = .ok (.ladd, 1) := by decide +kernel
theorem dX8_number_36 : decode cX8_number 36 = .ok (.lstore_n 1, 1) := by decide +kernel
theorem dX8_number_37 : decode cX8_number 37 = .ok (.iinc 3 1, 3) := by decide +kernel
theorem dX8_number_40 : decode cX8_number 40 = .ok (.goto (-25), 3) := by decide +kernel
theorem dX8_number_43 : decode cX8_number 43 = .ok (.lload_n 1, 1) := by decide +kernel
theorem dX8_number_44 : decode cX8_number 44 = .ok (.lreturn, 1) := by decide +kernel
theorem dX8_isSame_0 : decode cX8_isSame 0 = .ok (.aload_n 0, 1) := by decide +kernel
theorem dX8_isSame_1 : decode cX8_isSame 1 = .ok (.getfield 9, 3) := by decide +kernel
theorem dX8_isSame_4 : decode cX8_isSame 4 = .ok (.iload_n 2, 1) := by decide +kernel
theorem dX8_isSame_5 : decode cX8_isSame 5 = .ok (.if_icmp .eq 5, 3) := by decide +kernel
theorem dX8_isSame_8 : decode cX8_isSame 8 = .ok (.iconst 0, 1) := by decide +kernel
theorem dX8_isSame_9 : decode cX8_isSame 9 = .ok (.ireturn, 1) := by decide +kernel
theorem dX8_isSame_10 : decode cX8_isSame 10 = .ok (.iconst 0, 1) := by decide +kernel
theorem dX8_isSame_11 : decode cX8_isSame 11 = .ok (.istore_n 3, 1) := by decide +kernel
theorem dX8_isSame_12 : decode cX8_isSame 12 = .ok (.iload_n 3, 1) := by decide +kernel
theorem dX8_isSame_13 : decode cX8_isSame 13 = .ok (.aload_n 0, 1) := by decide +kernel
theorem dX8_isSame_14 : decode cX8_isSame 14 = .ok (.getfield 9, 3) := by decide +kernel
theorem dX8_isSame_17 : decode cX8_isSame 17 = .ok (.if_icmp .ge 23, 3) := by decide +kernel
theorem dX8_isSame_20 : decode cX8_isSame 20 = .ok (.aload_n 0, 1) := by decide +kernel
theorem dX8_isSame_21 : decode cX8_isSame 21 = .ok (.getfield 15, 3) := by decide +kernel
theorem dX8_isSame_24 : decode cX8_isSame 24 = .ok (.iload_n 3, 1) := by decide +kernel
theorem dX8_isSame_25 : decode cX8_isSame 25 = .ok (.iaload, 1) := by decide +kernel
theorem dX8_isSame_26 : decode cX8_isSame 26 = .ok (.aload_n 1, 1) := by decide +kernel
theorem dX8_isSame_27 : decode cX8_isSame 27 = .ok (.iload_n 3, 1) := by decide +kernel
theorem dX8_isSame_28 : decode cX8_isSame 28 = .ok (.iaload, 1) := by decide +kernel
theorem dX8_isSame_29 : decode cX8_isSame 29 = .ok (.if_icmp .eq 5, 3) := by decide +kernel
theorem dX8_isSame_32 : decode cX8_isSame 32 = .ok (.iconst 0, 1) := by decide +kernel
theorem dX8_isSame_33 : decode cX8_isSame 33 = .ok (.ireturn, 1) := by decide +kernel
theorem dX8_isSame_34 : decode cX8_isSame 34 = .ok (.iinc 3 1, 3) := by decide +kernel
theorem dX8_isSame_37 : decode cX8_isSame 37 = .ok (.goto (-25), 3) := by decide +kernel
theorem dX8_isSame_40 : decode cX8_isSame 40 = .ok (.iconst 1, 1) := by decide +kernel
theorem dX8_isSame_41 : decode cX8_isSame 41 = .ok (.ireturn, 1) := by decide +kernel
theorem dX9_init_0 : decode cX9_init 0 = .ok (.aload_n 0, 1) := by decide +kernel
theorem dX9_init_1 : decode cX9_init 1 = .ok (.invokespecial 3, 3) := by decide +kernel
theorem dX9_init_4 : decode cX9_init 4 = .ok (.aload_n 0, 1) := by decide +kernel
theorem dX9_init_5 : decode cX9_init 5 = .ok (.iconst 0, 1) := by decide +kernel
theorem dX9_init_6 : decode cX9_init 6 = .ok (.putfield 9, 3) := by decide +kernel
theorem dX9_init_9 : decode cX9_init 9 = .ok (.aload_n 0, 1) := by decide +kernel
theorem dX9_init_10 : decode cX9_init 10 = .ok (.bipush 21, 2) := by decide +kernel
theorem dX9_init_12 : decode cX9_init 12 = .ok (.newarray .int, 2) := by decide +kernel
theorem dX9_init_14 : decode cX9_init 14 = .ok (.putfield 15, 3) := by decide +kernel
theorem dX9_init_17 : decode cX9_init 17 = .ok (.aload_n 0, 1) := by decide +kernel
theorem dX9_init_18 : decode cX9_init 18 = .ok (.iconst 0, 1) := by decide +kernel
theorem dX9_init_19 : decode cX9_init 19 = .ok (.putfield 19, 3) := by decide +kernel
theorem dX9_init_22 : decode cX9_init 22 = .ok (.aload_n 0, 1) := by decide +kernel
theorem dX9_init_23 : decode cX9_init 23 = .ok (.bipush 42, 2) := by decide +kernel
theorem dX9_init_25 : decode cX9_init 25 = .ok (.newarray .int, 2) := by decide +kernel
theorem dX9_init_27 : decode cX9_init 27 = .ok (.putfield 22, 3) := by decide +kernel
theorem dX9_init_30 : decode cX9_init 30 = .ok (.aload_n 0, 1) := by decide +kernel
theorem dX9_init_31 : decode cX9_init 31 = .ok (.bipush 30, 2) := by decide +kernel
theorem dX9_init_33 : decode cX9_init 33 = .ok (.newarray .int, 2) := by decide +kernel
theorem dX9_init_35 : decode cX9_init 35 = .ok (.putfield 25, 3) := by decide +kernel
theorem dX9_init_38 : decode cX9_init 38 = .ok (.aload_n 0, 1) := by decide +kernel
theorem dX9_init_39 : decode cX9_init 39 = .ok (.bipush 30, 2) := by decide +kernel
theorem dX9_init_41 : decode cX9_init 41 = .ok (.newarray .int, 2) := by decide +kernel
theorem dX9_init_43 : decode cX9_init 43 = .ok (.putfield 28, 3) := by decide +kernel
theorem dX9_init_46 : decode cX9_init 46 = .ok (.aload_n 0, 1) := by decide +kernel
theorem dX9_init_47 : decode cX9_init 47 = .ok (.bipush 120, 2) := by decide +kernel
theorem dX9_init_49 : decode cX9_init 49 = .ok (.newarray .int, 2) := by decide +kernel
theorem dX9_init_51 : decode cX9_init 51 = .ok (.putfield 31, 3) := by decide +kernel
theorem dX9_init_54 : decode cX9_init 54 = .ok (.aload_n 0, 1) := by decide +kernel
theorem dX9_init_55 : decode cX9_init 55 = .ok (.bipush 120, 2) := by decide +kernel
theorem dX9_init_57 : decode cX9_init 57 = .ok (.newarray .int, 2) := by decide +kernel
theorem dX9_init_59 : decode cX9_init 59 = .ok (.putfield 34, 3) := by decide +kernel
theorem dX9_init_62 : decode cX9_init 62 = .ok (.aload_n 0, 1) := by decide +kernel
theorem dX9_init_63 : decode cX9_init 63 = .ok (.iconst 0, 1) := by decide +kernel
theorem dX9_init_64 : decode cX9_init 64 = .ok (.putfield 37, 3) := by decide +kernel
theorem dX9_init_67 : decode cX9_init 67 = .ok (.aload_n 0, 1) := by decide +kernel
theorem dX9_init_68 : decode cX9_init 68 = .ok (.bipush 120, 2) := by decide +kernel
theorem dX9_init_70 : decode cX9_init 70 = .ok (.newarray .int, 2) := by decide +kernel
theorem dX9_init_72 : decode cX9_init 72 = .ok (.putfield 40, 3) := by decide +kernel
theorem dX9_init_75 : decode cX9_init 75 = .ok (.aload_n 0, 1) := by decide +kernel
theorem dX9_init_76 : decode cX9_init 76 = .ok (.bipush 60, 2) := by decide +kernel
theorem dX9_init_78 : decode cX9_init 78 = .ok (.newarray .int, 2) := by decide +kernel
theorem dX9_init_80 : decode cX9_init 80 = .ok (.putfield 43, 3) := by decide +kernel
theorem dX9_init_83 : decode cX9_init 83 = .ok (.aload_n 0, 1) := by decide +kernel
theorem dX9_init_84 : decode cX9_init 84 = .ok (.iconst 0, 1) := by decide +kernel
theorem dX9_init_85 : decode cX9_init 85 = .ok (.putfield 46, 3) := by decide +kernel
theorem dX9_init_88 : decode cX9_init 88 = .ok (.aload_n 0, 1) := by decide +kernel
theorem dX9_init_89 : decode cX9_init 89 = .ok (.bipush 120, 2) := by decide +kernel
theorem dX9_init_91 : decode cX9_init 91 = .ok (.newarray .int, 2) := by decide +kernel
theorem dX9_init_93 : decode cX9_init 93 = .ok (.putfield 49, 3) := by decide +kernel
theorem dX9_init_96 : decode cX9_init 96 = .ok (.aload_n 0, 1) := by decide +kernel
theorem dX9_init_97 : decode cX9_init 97 = .ok (.bipush 120, 2) := by decide +kernel
theorem dX9_init_99 : decode cX9_init 99 = .ok (.newarray .int, 2) := by decide +kernel
theorem dX9_init_101 : decode cX9_init 101 = .ok (.putfield 52, 3) := by decide +kernel
theorem dX9_init_104 : decode cX9_init 104 = .ok (.aload_n 0, 1) := by decide +kernel
theorem dX9_init_105 : decode cX9_init 105 = .ok (.bipush 30, 2) := by decide +kernel
theorem dX9_init_107 : decode cX9_init 107 = .ok (.newarray .int, 2) := by decide +kernel
theorem dX9_init_109 : decode cX9_init 109 = .ok (.putfield 55, 3) := by decide +kernel
theorem dX9_init_112 : decode cX9_init 112 = .ok (.aload_n 0, 1) := by decide +kernel
theorem dX9_init_113 : decode cX9_init 113 = .ok (.bipush 30, 2) := by decide +kernel
theorem dX9_init_115 : decode cX9_init 115 = .ok (.newarray .int, 2) := by decide +kernel
theorem dX9_init_117 : decode cX9_init 117 = .ok (.putfield 58, 3) := by decide +kernel
theorem dX9_init_120 : decode cX9_init 120 = .ok (.aload_n 0, 1) := by decide +kernel
theorem dX9_init_121 : decode cX9_init 121 = .ok (.bipush 30, 2) := by decide +kernel
theorem dX9_init_123 : decode cX9_init 123 = .ok (.newarray .int, 2) := by decide +kernel
theorem dX9_init_125 : decode cX9_init 125 = .ok (.putfield 61, 3) := by decide +kernel
theorem dX9_init_128 : decode cX9_init 128 = .ok (.aload_n 0, 1) := by decide +kernel
theorem dX9_init_129 : decode cX9_init 129 = .ok (.bipush 30, 2) := by decide +kernel
theorem dX9_init_131 : decode cX9_init 131 = .ok (.newarray .int, 2) := by decide +kernel
theorem dX9_init_133 : decode cX9_init 133 = .ok (.putfield 64, 3) := by decide +kernel
theorem dX9_init_136 : decode cX9_init 136 = .ok (.return_, 1) := by decide +kernel
theorem dX9_make_0 : decode cX9_make 0 = .ok (.aload_n 0, 1) := by decide +kernel
theorem dX9_make_1 : decode cX9_make 1 = .ok (.iload_n 2, 1) := by decide +kernel
theorem dX9_make_2 : decode cX9_make 2 = .ok (.bipush 7, 2) := by decide +kernel
theorem dX9_make_4 : decode cX9_make 4 = .ok (.invokestatic 67, 3) := by decide +kernel
theorem dX9_make_7 : decode cX9_make 7 = .ok (.putfield 9, 3) := by decide +kernel
theorem dX9_make_10 : decode cX9_make 10 = .ok (.aload_n 1, 1) := by decide +kernel
theorem dX9_make_11 : decode cX9_make 11 = .ok (.iconst 0, 1) := by decide +kernel
theorem dX9_make_12 : decode cX9_make 12 = .ok (.aload_n 0, 1) := by decide +kernel
theorem dX9_make_13 : decode cX9_make 13 = .ok (.getfield 15, 3) := by decide +kernel
theorem dX9_make_16 : decode cX9_make 16 = .ok (.iconst 0, 1) := by decide +kernel
theorem dX9_make_17 : decode cX9_make 17 = .ok (.aload_n 0, 1) := by decide +kernel
theorem dX9_make_18 : decode cX9_make 18 = .ok (.getfield 15, 3) := by decide +kernel
theorem dX9_make_21 : decode cX9_make 21 = .ok (.arraylength, 1) := by decide +kernel
theorem dX9_make_22 : decode cX9_make 22 = .ok (.invokestatic 73, 3) := by decide +kernel
theorem dX9_make_25 : decode cX9_make 25 = .ok (.aload_n 0, 1) := by decide +kernel
theorem dX9_make_26 : decode cX9_make 26 = .ok (.invokevirtual 79, 3) := by decide +kernel
theorem dX9_make_29 : decode cX9_make 29 = .ok (.aload_n 0, 1) := by decide +kernel
theorem dX9_make_30 : decode cX9_make 30 = .ok (.invokevirtual 82, 3) := by decide +kernel
theorem dX9_make_33 : decode cX9_make 33 = .ok (.aload_n 0, 1) := by decide +kernel
theorem dX9_make_34 : decode cX9_make 34 = .ok (.invokevirtual 85, 3) := by decide +kernel
theorem dX9_make_37 : decode cX9_make 37 = .ok (.return_, 1) := by decide +kernel
theorem dX9_findFaces_0 : decode cX9_findFaces 0 = .ok (.aload_n 0, 1) := by decide +kernel
theorem dX9_findFaces_1 : decode cX9_findFaces 1 = .ok (.iconst 0, 1) := by decide +kernel
theorem dX9_findFaces_2 : decode cX9_findFaces 2 = .ok (.putfield 19, 3) := by decide +kernel
theorem dX9_findFaces_5 : decode cX9_findFaces 5 = .ok (.iconst 0, 1) := by decide +kernel
theorem dX9_findFaces_6 : decode cX9_findFaces 6 = .ok (.istore_n 1, 1) := by decide +kernel
theorem dX9_findFaces_7 : decode cX9_findFaces 7 = .ok (.iload_n 1, 1) := by decide +kernel
theorem dX9_findFaces_8 : decode cX9_findFaces 8 = .ok (.aload_n 0, 1) := by decide +kernel
theorem dX9_findFaces_9 : decode cX9_findFaces 9 = .ok (.getfield 9, 3) := by decide +kernel
theorem dX9_findFaces_12 : decode cX9_findFaces 12 = .ok (.if_icmp .ge 100, 3) := by decide +kernel
theorem dX9_findFaces_15 : decode cX9_findFaces 15 = .ok (.iconst 0, 1) := by decide +kernel
theorem dX9_findFaces_16 : decode cX9_findFaces 16 = .ok (.istore_n 2, 1) := by decide +kernel
theorem dX9_findFaces_17 : decode cX9_findFaces 17 = .ok (.iload_n 2, 1) := by decide +kernel
theorem dX9_findFaces_18 : decode cX9_findFaces 18 = .ok (.bipush 6, 2) := by decide +kernel
theorem dX9_findFaces_20 : decode cX9_findFaces 20 = .ok (.if_icmp .ge 86, 3) := by decide +kernel
theorem dX9_findFaces_23 : decode cX9_findFaces 23 = .ok (.aload_n 0, 1) := by decide +kernel
theorem dX9_findFaces_24 : decode cX9_findFaces 24 = .ok (.getfield 22, 3) := by decide +kernel
theorem dX9_findFaces_27 : decode cX9_findFaces 27 = .ok (.bipush 6, 2) := by decide +kernel
theorem dX9_findFaces_29 : decode cX9_findFaces 29 = .ok (.iload_n 1, 1) := by decide +kernel
theorem dX9_findFaces_30 : decode cX9_findFaces 30 = .ok (.imul, 1) := by decide +kernel
theorem dX9_findFaces_31 : decode cX9_findFaces 31 = .ok (.iload_n 2, 1) := by decide +kernel
theorem dX9_findFaces_32 : decode cX9_findFaces 32 = .ok (.iadd, 1) := by decide +kernel
theorem dX9_findFaces_33 : decode cX9_findFaces 33 = .ok (.iconst (-1), 1) := by decide +kernel
theorem dX9_findFaces_34 : decode cX9_findFaces 34 = .ok (.iastore, 1) := by decide +kernel
theorem dX9_findFaces_35 : decode cX9_findFaces 35 = .ok (.aload_n 0, 1) := by decide +kernel
theorem dX9_findFaces_36 : decode cX9_findFaces 36 = .ok (.iload_n 1, 1) := by decide +kernel
theorem dX9_findFaces_37 : decode cX9_findFaces 37 = .ok (.iload_n 2, 1) := by decide +kernel
theorem dX9_findFaces_38 : decode cX9_findFaces 38 = .ok (.iconst (-1), 1) := by decide +kernel
theorem dX9_findFaces_39 : decode cX9_findFaces 39 = .ok (.invokevirtual 88, 3) := by decide +kernel
theorem dX9_findFaces_42 : decode cX9_findFaces 42 = .ok (.iconst (-1), 1) := by decide +kernel
theorem dX9_findFaces_43 : decode cX9_findFaces 43 = .ok (.if_icmp .ne 57, 3) := by decide +kernel
