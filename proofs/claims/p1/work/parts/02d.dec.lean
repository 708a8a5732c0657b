theorem dX12_isFree_125 : decode cX12_isFree 125 = .ok (.irem, 1) := by decide +kernel
theorem dX12_isFree_126 : decode cX12_isFree 126 = .ok (.if_icmp .ne 7, 3) := by decide +kernel
theorem dX12_isFree_129 : decode cX12_isFree 129 = .ok (.iconst 1, 1) := by decide +kernel
theorem dX12_isFree_130 : decode cX12_isFree 130 = .ok (.goto 4, 3) := by decide +kernel
theorem dX12_isFree_133 : decode cX12_isFree 133 = .ok (.iconst 0, 1) := by decide +kernel
theorem dX12_isFree_134 : decode cX12_isFree 134 = .ok (.ireturn, 1) := by decide +kernel
theorem dX12_tradedTo_0 : decode cX12_tradedTo 0 = .ok (.aload_n 0, 1) := by decide +kernel
theorem dX12_tradedTo_1 : decode cX12_tradedTo 1 = .ok (.getfield 9, 3) := by decide +kernel
theorem dX12_tradedTo_4 : decode cX12_tradedTo 4 = .ok (.bipush 23, 2) := by decide +kernel
theorem dX12_tradedTo_6 : decode cX12_tradedTo 6 = .ok (.iload_n 2, 1) := by decide +kernel
theorem dX12_tradedTo_7 : decode cX12_tradedTo 7 = .ok (.iadd, 1) := by decide +kernel
theorem dX12_tradedTo_8 : decode cX12_tradedTo 8 = .ok (.iconst 0, 1) := by decide +kernel
theorem dX12_tradedTo_9 : decode cX12_tradedTo 9 = .ok (.iastore, 1) := by decide +kernel
theorem dX12_tradedTo_10 : decode cX12_tradedTo 10 = .ok (.aload_n 0, 1) := by decide +kernel
theorem dX12_tradedTo_11 : decode cX12_tradedTo 11 = .ok (.aload_n 0, 1) := by decide +kernel
theorem dX12_tradedTo_12 : decode cX12_tradedTo 12 = .ok (.iload_n 1, 1) := by decide +kernel
theorem dX12_tradedTo_13 : decode cX12_tradedTo 13 = .ok (.invokevirtual 266, 3) := by decide +kernel
theorem dX12_tradedTo_16 : decode cX12_tradedTo 16 = .ok (.aload_n 0, 1) := by decide +kernel
theorem dX12_tradedTo_17 : decode cX12_tradedTo 17 = .ok (.iload_n 1, 1) := by decide +kernel
theorem dX12_tradedTo_18 : decode cX12_tradedTo 18 = .ok (.invokevirtual 269, 3) := by decide +kernel
theorem dX12_tradedTo_21 : decode cX12_tradedTo 21 = .ok (.invokevirtual 272, 3) := by decide +kernel
theorem dX12_tradedTo_24 : decode cX12_tradedTo 24 = .ok (.ifCond .ne 7, 3) := by decide +kernel
theorem dX12_tradedTo_27 : decode cX12_tradedTo 27 = .ok (.iconst 1, 1) := by decide +kernel
theorem dX12_tradedTo_28 : decode cX12_tradedTo 28 = .ok (.goto 4, 3) := by decide +kernel
theorem dX12_tradedTo_31 : decode cX12_tradedTo 31 = .ok (.iconst 0, 1) := by decide +kernel
theorem dX12_tradedTo_32 : decode cX12_tradedTo 32 = .ok (.istore_n 3, 1) := by decide +kernel
theorem dX12_tradedTo_33 : decode cX12_tradedTo 33 = .ok (.aload_n 0, 1) := by decide +kernel
theorem dX12_tradedTo_34 : decode cX12_tradedTo 34 = .ok (.getfield 9, 3) := by decide +kernel
theorem dX12_tradedTo_37 : decode cX12_tradedTo 37 = .ok (.bipush 23, 2) := by decide +kernel
theorem dX12_tradedTo_39 : decode cX12_tradedTo 39 = .ok (.iload_n 1, 1) := by decide +kernel
theorem dX12_tradedTo_40 : decode cX12_tradedTo 40 = .ok (.iadd, 1) := by decide +kernel
theorem dX12_tradedTo_41 : decode cX12_tradedTo 41 = .ok (.iconst 1, 1) := by decide +kernel
theorem dX12_tradedTo_42 : decode cX12_tradedTo 42 = .ok (.iastore, 1) := by decide +kernel
theorem dX12_tradedTo_43 : decode cX12_tradedTo 43 = .ok (.iload_n 3, 1) := by decide +kernel
theorem dX12_tradedTo_44 : decode cX12_tradedTo 44 = .ok (.ifCond .eq 10, 3) := by decide +kernel
theorem dX12_tradedTo_47 : decode cX12_tradedTo 47 = .ok (.aload_n 0, 1) := by decide +kernel
theorem dX12_tradedTo_48 : decode cX12_tradedTo 48 = .ok (.invokevirtual 310, 3) := by decide +kernel
theorem dX12_tradedTo_51 : decode cX12_tradedTo 51 = .ok (.goto 4, 3) := by decide +kernel
theorem dX12_tradedTo_54 : decode cX12_tradedTo 54 = .ok (.iconst (-1), 1) := by decide +kernel
theorem dX12_tradedTo_55 : decode cX12_tradedTo 55 = .ok (.istore 4, 2) := by decide +kernel
theorem dX12_tradedTo_57 : decode cX12_tradedTo 57 = .ok (.aload_n 0, 1) := by decide +kernel
theorem dX12_tradedTo_58 : decode cX12_tradedTo 58 = .ok (.getfield 9, 3) := by decide +kernel
theorem dX12_tradedTo_61 : decode cX12_tradedTo 61 = .ok (.bipush 23, 2) := by decide +kernel
theorem dX12_tradedTo_63 : decode cX12_tradedTo 63 = .ok (.iload_n 1, 1) := by decide +kernel
theorem dX12_tradedTo_64 : decode cX12_tradedTo 64 = .ok (.iadd, 1) := by decide +kernel
theorem dX12_tradedTo_65 : decode cX12_tradedTo 65 = .ok (.iconst 0, 1) := by decide +kernel
theorem dX12_tradedTo_66 : decode cX12_tradedTo 66 = .ok (.iastore, 1) := by decide +kernel
theorem dX12_tradedTo_67 : decode cX12_tradedTo 67 = .ok (.aload_n 0, 1) := by decide +kernel
theorem dX12_tradedTo_68 : decode cX12_tradedTo 68 = .ok (.getfield 9, 3) := by decide +kernel
theorem dX12_tradedTo_71 : decode cX12_tradedTo 71 = .ok (.bipush 23, 2) := by decide +kernel
theorem dX12_tradedTo_73 : decode cX12_tradedTo 73 = .ok (.iload_n 2, 1) := by decide +kernel
theorem dX12_tradedTo_74 : decode cX12_tradedTo 74 = .ok (.iadd, 1) := by decide +kernel
theorem dX12_tradedTo_75 : decode cX12_tradedTo 75 = .ok (.iconst 1, 1) := by decide +kernel
theorem dX12_tradedTo_76 : decode cX12_tradedTo 76 = .ok (.iastore, 1) := by decide +kernel
theorem dX12_tradedTo_77 : decode cX12_tradedTo 77 = .ok (.iload 4, 2) := by decide +kernel
theorem dX12_tradedTo_79 : decode cX12_tradedTo 79 = .ok (.ireturn, 1) := by decide +kernel
theorem dX12_laysBest_0 : decode cX12_laysBest 0 = .ok (.aload_n 0, 1) := by decide +kernel
theorem dX12_laysBest_1 : decode cX12_laysBest 1 = .ok (.bipush (-2), 2) := by decide +kernel
theorem dX12_laysBest_3 : decode cX12_laysBest 3 = .ok (.putfield 313, 3) := by decide +kernel
theorem dX12_laysBest_6 : decode cX12_laysBest 6 = .ok (.aload_n 0, 1) := by decide +kernel
theorem dX12_laysBest_7 : decode cX12_laysBest 7 = .ok (.bipush (-2), 2) := by decide +kernel
theorem dX12_laysBest_9 : decode cX12_laysBest 9 = .ok (.putfield 316, 3) := by decide +kernel
theorem dX12_laysBest_12 : decode cX12_laysBest 12 = .ok (.aload_n 0, 1) := by decide +kernel
theorem dX12_laysBest_13 : decode cX12_laysBest 13 = .ok (.bipush (-2), 2) := by decide +kernel
theorem dX12_laysBest_15 : decode cX12_laysBest 15 = .ok (.putfield 319, 3) := by decide +kernel
theorem dX12_laysBest_18 : decode cX12_laysBest 18 = .ok (.iconst 0, 1) := by decide +kernel
theorem dX12_laysBest_19 : decode cX12_laysBest 19 = .ok (.istore_n 1, 1) := by decide +kernel
theorem dX12_laysBest_20 : decode cX12_laysBest 20 = .ok (.iload_n 1, 1) := by decide +kernel
theorem dX12_laysBest_21 : decode cX12_laysBest 21 = .ok (.aload_n 0, 1) := by decide +kernel
theorem dX12_laysBest_22 : decode cX12_laysBest 22 = .ok (.getfield 245, 3) := by decide +kernel
theorem dX12_laysBest_25 : decode cX12_laysBest 25 = .ok (.if_icmp .ge 88, 3) := by decide +kernel
theorem dX12_laysBest_28 : decode cX12_laysBest 28 = .ok (.iconst 0, 1) := by decide +kernel
theorem dX12_laysBest_29 : decode cX12_laysBest 29 = .ok (.istore_n 2, 1) := by decide +kernel
theorem dX12_laysBest_30 : decode cX12_laysBest 30 = .ok (.iload_n 2, 1) := by decide +kernel
theorem dX12_laysBest_31 : decode cX12_laysBest 31 = .ok (.aload_n 0, 1) := by decide +kernel
theorem dX12_laysBest_32 : decode cX12_laysBest 32 = .ok (.getfield 245, 3) := by decide +kernel
theorem dX12_laysBest_35 : decode cX12_laysBest 35 = .ok (.if_icmp .ge 72, 3) := by decide +kernel
theorem dX12_laysBest_38 : decode cX12_laysBest 38 = .ok (.aload_n 0, 1) := by decide +kernel
theorem dX12_laysBest_39 : decode cX12_laysBest 39 = .ok (.iload_n 1, 1) := by decide +kernel
theorem dX12_laysBest_40 : decode cX12_laysBest 40 = .ok (.invokevirtual 257, 3) := by decide +kernel
theorem dX12_laysBest_43 : decode cX12_laysBest 43 = .ok (.ifCond .ne 58, 3) := by decide +kernel
theorem dX12_laysBest_46 : decode cX12_laysBest 46 = .ok (.aload_n 0, 1) := by decide +kernel
theorem dX12_laysBest_47 : decode cX12_laysBest 47 = .ok (.iload_n 2, 1) := by decide +kernel
theorem dX12_laysBest_48 : decode cX12_laysBest 48 = .ok (.invokevirtual 257, 3) := by decide +kernel
theorem dX12_laysBest_51 : decode cX12_laysBest 51 = .ok (.ifCond .ne 6, 3) := by decide +kernel
theorem dX12_laysBest_54 : decode cX12_laysBest 54 = .ok (.goto 47, 3) := by decide +kernel
theorem dX12_laysBest_57 : decode cX12_laysBest 57 = .ok (.aload_n 0, 1) := by decide +kernel
theorem dX12_laysBest_58 : decode cX12_laysBest 58 = .ok (.iload_n 1, 1) := by decide +kernel
theorem dX12_laysBest_59 : decode cX12_laysBest 59 = .ok (.iload_n 2, 1) := by decide +kernel
theorem dX12_laysBest_60 : decode cX12_laysBest 60 = .ok (.invokevirtual 322, 3) := by decide +kernel
theorem dX12_laysBest_63 : decode cX12_laysBest 63 = .ok (.istore_n 3, 1) := by decide +kernel
theorem dX12_laysBest_64 : decode cX12_laysBest 64 = .ok (.iload_n 3, 1) := by decide +kernel
theorem dX12_laysBest_65 : decode cX12_laysBest 65 = .ok (.iconst (-1), 1) := by decide +kernel
theorem dX12_laysBest_66 : decode cX12_laysBest 66 = .ok (.if_icmp .eq 35, 3) := by decide +kernel
theorem dX12_laysBest_69 : decode cX12_laysBest 69 = .ok (.aload_n 0, 1) := by decide +kernel
theorem dX12_laysBest_70 : decode cX12_laysBest 70 = .ok (.getfield 319, 3) := by decide +kernel
theorem dX12_laysBest_73 : decode cX12_laysBest 73 = .ok (.bipush (-2), 2) := by decide +kernel
theorem dX12_laysBest_75 : decode cX12_laysBest 75 = .ok (.if_icmp .eq 11, 3) := by decide +kernel
theorem dX12_laysBest_78 : decode cX12_laysBest 78 = .ok (.iload_n 3, 1) := by decide +kernel
theorem dX12_laysBest_79 : decode cX12_laysBest 79 = .ok (.aload_n 0, 1) := by decide +kernel
theorem dX12_laysBest_80 : decode cX12_laysBest 80 = .ok (.getfield 319, 3) := by decide +kernel
theorem dX12_laysBest_83 : decode cX12_laysBest 83 = .ok (.if_icmp .ge 18, 3) := by decide +kernel
theorem dX12_laysBest_86 : decode cX12_laysBest 86 = .ok (.aload_n 0, 1) := by decide +kernel
theorem dX12_laysBest_87 : decode cX12_laysBest 87 = .ok (.iload_n 1, 1) := by decide +kernel
theorem dX12_laysBest_88 : decode cX12_laysBest 88 = .ok (.putfield 313, 3) := by decide +kernel
theorem dX12_laysBest_91 : decode cX12_laysBest 91 = .ok (.aload_n 0, 1) := by decide +kernel
theorem dX12_laysBest_92 : decode cX12_laysBest 92 = .ok (.iload_n 2, 1) := by decide +kernel
theorem dX12_laysBest_93 : decode cX12_laysBest 93 = .ok (.putfield 316, 3) := by decide +kernel
theorem dX12_laysBest_96 : decode cX12_laysBest 96 = .ok (.aload_n 0, 1) := by decide +kernel
theorem dX12_laysBest_97 : decode cX12_laysBest 97 = .ok (.iload_n 3, 1) := by decide +kernel
theorem dX12_laysBest_98 : decode cX12_laysBest 98 = .ok (.putfield 319, 3) := by decide +kernel
theorem dX12_laysBest_101 : decode cX12_laysBest 101 = .ok (.iinc 2 1, 3) := by decide +kernel
theorem dX12_laysBest_104 : decode cX12_laysBest 104 = .ok (.goto (-74), 3) := by decide +kernel
theorem dX12_laysBest_107 : decode cX12_laysBest 107 = .ok (.iinc 1 1, 3) := by decide +kernel
theorem dX12_laysBest_110 : decode cX12_laysBest 110 = .ok (.goto (-90), 3) := by decide +kernel
theorem dX12_laysBest_113 : decode cX12_laysBest 113 = .ok (.return_, 1) := by decide +kernel
theorem dX12_trades_0 : decode cX12_trades 0 = .ok (.aload_n 0, 1) := by decide +kernel
theorem dX12_trades_1 : decode cX12_trades 1 = .ok (.getfield 9, 3) := by decide +kernel
theorem dX12_trades_4 : decode cX12_trades 4 = .ok (.bipush 23, 2) := by decide +kernel
theorem dX12_trades_6 : decode cX12_trades 6 = .ok (.iload_n 1, 1) := by decide +kernel
theorem dX12_trades_7 : decode cX12_trades 7 = .ok (.iadd, 1) := by decide +kernel
theorem dX12_trades_8 : decode cX12_trades 8 = .ok (.iconst 1, 1) := by decide +kernel
theorem dX12_trades_9 : decode cX12_trades 9 = .ok (.iastore, 1) := by decide +kernel
theorem dX12_trades_10 : decode cX12_trades 10 = .ok (.aload_n 0, 1) := by decide +kernel
theorem dX12_trades_11 : decode cX12_trades 11 = .ok (.getfield 9, 3) := by decide +kernel
theorem dX12_trades_14 : decode cX12_trades 14 = .ok (.bipush 23, 2) := by decide +kernel
theorem dX12_trades_16 : decode cX12_trades 16 = .ok (.iload_n 2, 1) := by decide +kernel
theorem dX12_trades_17 : decode cX12_trades 17 = .ok (.iadd, 1) := by decide +kernel
theorem dX12_trades_18 : decode cX12_trades 18 = .ok (.iconst 0, 1) := by decide +kernel
theorem dX12_trades_19 : decode cX12_trades 19 = .ok (.iastore, 1) := by decide +kernel
theorem dX12_trades_20 : decode cX12_trades 20 = .ok (.return_, 1) := by decide +kernel
theorem dX12_trade_0 : decode cX12_trade 0 = .ok (.aload_n 0, 1) := by decide +kernel
theorem dX12_trade_1 : decode cX12_trade 1 = .ok (.iload_n 1, 1) := by decide +kernel
theorem dX12_trade_2 : decode cX12_trade 2 = .ok (.invokevirtual 263, 3) := by decide +kernel
theorem dX12_trade_5 : decode cX12_trade 5 = .ok (.ifCond .eq 11, 3) := by decide +kernel
theorem dX12_trade_8 : decode cX12_trade 8 = .ok (.aload_n 0, 1) := by decide +kernel
theorem dX12_trade_9 : decode cX12_trade 9 = .ok (.iload_n 2, 1) := by decide +kernel
theorem dX12_trade_10 : decode cX12_trade 10 = .ok (.invokevirtual 263, 3) := by decide +kernel
theorem dX12_trade_13 : decode cX12_trade 13 = .ok (.ifCond .ne 5, 3) := by decide +kernel
theorem dX12_trade_16 : decode cX12_trade 16 = .ok (.iconst (-1), 1) := by decide +kernel
theorem dX12_trade_17 : decode cX12_trade 17 = .ok (.ireturn, 1) := by decide +kernel
theorem dX12_trade_18 : decode cX12_trade 18 = .ok (.aload_n 0, 1) := by decide +kernel
theorem dX12_trade_19 : decode cX12_trade 19 = .ok (.iload_n 1, 1) := by decide +kernel
theorem dX12_trade_20 : decode cX12_trade 20 = .ok (.invokevirtual 257, 3) := by decide +kernel
theorem dX12_trade_23 : decode cX12_trade 23 = .ok (.ifCond .ne 11, 3) := by decide +kernel
theorem dX12_trade_26 : decode cX12_trade 26 = .ok (.aload_n 0, 1) := by decide +kernel
theorem dX12_trade_27 : decode cX12_trade 27 = .ok (.iload_n 2, 1) := by decide +kernel
theorem dX12_trade_28 : decode cX12_trade 28 = .ok (.invokevirtual 257, 3) := by decide +kernel
theorem dX12_trade_31 : decode cX12_trade 31 = .ok (.ifCond .ne 6, 3) := by decide +kernel
theorem dX12_trade_34 : decode cX12_trade 34 = .ok (.bipush (-2), 2) := by decide +kernel
theorem dX12_trade_36 : decode cX12_trade 36 = .ok (.ireturn, 1) := by decide +kernel
theorem dX12_trade_37 : decode cX12_trade 37 = .ok (.aload_n 0, 1) := by decide +kernel
theorem dX12_trade_38 : decode cX12_trade 38 = .ok (.invokevirtual 325, 3) := by decide +kernel
theorem dX12_trade_41 : decode cX12_trade 41 = .ok (.ifCond .eq 12, 3) := by decide +kernel
theorem dX12_trade_44 : decode cX12_trade 44 = .ok (.aload_n 0, 1) := by decide +kernel
theorem dX12_trade_45 : decode cX12_trade 45 = .ok (.iload_n 1, 1) := by decide +kernel
theorem dX12_trade_46 : decode cX12_trade 46 = .ok (.iload_n 2, 1) := by decide +kernel
theorem dX12_trade_47 : decode cX12_trade 47 = .ok (.invokevirtual 322, 3) := by decide +kernel
theorem dX12_trade_50 : decode cX12_trade 50 = .ok (.goto 4, 3) := by decide +kernel
theorem dX12_trade_53 : decode cX12_trade 53 = .ok (.iconst (-1), 1) := by decide +kernel
theorem dX12_trade_54 : decode cX12_trade 54 = .ok (.istore_n 3, 1) := by decide +kernel
theorem dX12_trade_55 : decode cX12_trade 55 = .ok (.iload_n 3, 1) := by decide +kernel
theorem dX12_trade_56 : decode cX12_trade 56 = .ok (.iconst (-1), 1) := by decide +kernel
theorem dX12_trade_57 : decode cX12_trade 57 = .ok (.if_icmp .ne 6, 3) := by decide +kernel
theorem dX12_trade_60 : decode cX12_trade 60 = .ok (.bipush (-3), 2) := by decide +kernel
theorem dX12_trade_62 : decode cX12_trade 62 = .ok (.ireturn, 1) := by decide +kernel
theorem dX12_trade_63 : decode cX12_trade 63 = .ok (.aload_n 0, 1) := by decide +kernel
theorem dX12_trade_64 : decode cX12_trade 64 = .ok (.invokevirtual 275, 3) := by decide +kernel
theorem dX12_trade_67 : decode cX12_trade 67 = .ok (.aload_n 0, 1) := by decide +kernel
theorem dX12_trade_68 : decode cX12_trade 68 = .ok (.iload_n 1, 1) := by decide +kernel
theorem dX12_trade_69 : decode cX12_trade 69 = .ok (.iload_n 2, 1) := by decide +kernel
theorem dX12_trade_70 : decode cX12_trade 70 = .ok (.invokevirtual 328, 3) := by decide +kernel
theorem dX12_trade_73 : decode cX12_trade 73 = .ok (.iload_n 3, 1) := by decide +kernel
theorem dX12_trade_74 : decode cX12_trade 74 = .ok (.ireturn, 1) := by decide +kernel
theorem dX12_mend_0 : decode cX12_mend 0 = .ok (.aload_n 0, 1) := by decide +kernel
theorem dX12_mend_1 : decode cX12_mend 1 = .ok (.invokevirtual 325, 3) := by decide +kernel
theorem dX12_mend_4 : decode cX12_mend 4 = .ok (.ifCond .ne 5, 3) := by decide +kernel
theorem dX12_mend_7 : decode cX12_mend 7 = .ok (.iconst (-1), 1) := by decide +kernel
theorem dX12_mend_8 : decode cX12_mend 8 = .ok (.ireturn, 1) := by decide +kernel
theorem dX12_mend_9 : decode cX12_mend 9 = .ok (.aload_n 0, 1) := by decide +kernel
theorem dX12_mend_10 : decode cX12_mend 10 = .ok (.invokevirtual 275, 3) := by decide +kernel
theorem dX12_mend_13 : decode cX12_mend 13 = .ok (.iconst 0, 1) := by decide +kernel
theorem dX12_mend_14 : decode cX12_mend 14 = .ok (.istore_n 1, 1) := by decide +kernel
theorem dX12_mend_15 : decode cX12_mend 15 = .ok (.aload_n 0, 1) := by decide +kernel
theorem dX12_mend_16 : decode cX12_mend 16 = .ok (.invokevirtual 310, 3) := by decide +kernel
theorem dX12_mend_19 : decode cX12_mend 19 = .ok (.istore_n 2, 1) := by decide +kernel
theorem dX12_mend_20 : decode cX12_mend 20 = .ok (.aload_n 0, 1) := by decide +kernel
theorem dX12_mend_21 : decode cX12_mend 21 = .ok (.invokevirtual 331, 3) := by decide +kernel
theorem dX12_mend_24 : decode cX12_mend 24 = .ok (.aload_n 0, 1) := by decide +kernel
theorem dX12_mend_25 : decode cX12_mend 25 = .ok (.getfield 319, 3) := by decide +kernel
theorem dX12_mend_28 : decode cX12_mend 28 = .ok (.bipush (-2), 2) := by decide +kernel
theorem dX12_mend_30 : decode cX12_mend 30 = .ok (.if_icmp .eq 38, 3) := by decide +kernel
theorem dX12_mend_33 : decode cX12_mend 33 = .ok (.aload_n 0, 1) := by decide +kernel
theorem dX12_mend_34 : decode cX12_mend 34 = .ok (.getfield 319, 3) := by decide +kernel
theorem dX12_mend_37 : decode cX12_mend 37 = .ok (.iload_n 2, 1) := by decide +kernel
theorem dX12_mend_38 : decode cX12_mend 38 = .ok (.if_icmp .ge 30, 3) := by decide +kernel
theorem dX12_mend_41 : decode cX12_mend 41 = .ok (.aload_n 0, 1) := by decide +kernel
theorem dX12_mend_42 : decode cX12_mend 42 = .ok (.aload_n 0, 1) := by decide +kernel
theorem dX12_mend_43 : decode cX12_mend 43 = .ok (.getfield 313, 3) := by decide +kernel
theorem dX12_mend_46 : decode cX12_mend 46 = .ok (.aload_n 0, 1) := by decide +kernel
theorem dX12_mend_47 : decode cX12_mend 47 = .ok (.getfield 316, 3) := by decide +kernel
theorem dX12_mend_50 : decode cX12_mend 50 = .ok (.invokevirtual 328, 3) := by decide +kernel
theorem dX12_mend_53 : decode cX12_mend 53 = .ok (.aload_n 0, 1) := by decide +kernel
theorem dX12_mend_54 : decode cX12_mend 54 = .ok (.getfield 319, 3) := by decide +kernel
theorem dX12_mend_57 : decode cX12_mend 57 = .ok (.istore_n 2, 1) := by decide +kernel
theorem dX12_mend_58 : decode cX12_mend 58 = .ok (.iinc 1 1, 3) := by decide +kernel
theorem dX12_mend_61 : decode cX12_mend 61 = .ok (.aload_n 0, 1) := by decide +kernel
theorem dX12_mend_62 : decode cX12_mend 62 = .ok (.invokevirtual 331, 3) := by decide +kernel
theorem dX12_mend_65 : decode cX12_mend 65 = .ok (.goto (-41), 3) := by decide +kernel
theorem dX12_mend_68 : decode cX12_mend 68 = .ok (.iload_n 1, 1) := by decide +kernel
theorem dX12_mend_69 : decode cX12_mend 69 = .ok (.ireturn, 1) := by decide +kernel
theorem dX12_best_0 : decode cX12_best 0 = .ok (.aload_n 0, 1) := by decide +kernel
theorem dX12_best_1 : decode cX12_best 1 = .ok (.invokevirtual 325, 3) := by decide +kernel
theorem dX12_best_4 : decode cX12_best 4 = .ok (.ifCond .eq 15, 3) := by decide +kernel
theorem dX12_best_7 : decode cX12_best 7 = .ok (.iload_n 1, 1) := by decide +kernel
theorem dX12_best_8 : decode cX12_best 8 = .ok (.i2l, 1) := by decide +kernel
theorem dX12_best_9 : decode cX12_best 9 = .ok (.lconst 0, 1) := by decide +kernel
theorem dX12_best_10 : decode cX12_best 10 = .ok (.ldc2_w 334, 3) := by decide +kernel
theorem dX12_best_13 : decode cX12_best 13 = .ok (.invokestatic 143, 3) := by decide +kernel
theorem dX12_best_16 : decode cX12_best 16 = .ok (.ifCond .ne 5, 3) := by decide +kernel
theorem dX12_best_19 : decode cX12_best 19 = .ok (.iconst (-1), 1) := by decide +kernel
theorem dX12_best_20 : decode cX12_best 20 = .ok (.ireturn, 1) := by decide +kernel
theorem dX12_best_21 : decode cX12_best 21 = .ok (.aload_n 0, 1) := by decide +kernel
theorem dX12_best_22 : decode cX12_best 22 = .ok (.invokevirtual 331, 3) := by decide +kernel
theorem dX12_best_25 : decode cX12_best 25 = .ok (.iload_n 1, 1) := by decide +kernel
theorem dX12_best_26 : decode cX12_best 26 = .ok (.ifCond .ne 10, 3) := by decide +kernel
theorem dX12_best_29 : decode cX12_best 29 = .ok (.aload_n 0, 1) := by decide +kernel
theorem dX12_best_30 : decode cX12_best 30 = .ok (.getfield 313, 3) := by decide +kernel
theorem dX12_best_33 : decode cX12_best 33 = .ok (.goto 19, 3) := by decide +kernel
theorem dX12_best_36 : decode cX12_best 36 = .ok (.iload_n 1, 1) := by decide +kernel
theorem dX12_best_37 : decode cX12_best 37 = .ok (.iconst 1, 1) := by decide +kernel
theorem dX12_best_38 : decode cX12_best 38 = .ok (.if_icmp .ne 10, 3) := by decide +kernel
theorem dX12_best_41 : decode cX12_best 41 = .ok (.aload_n 0, 1) := by decide +kernel
theorem dX12_best_42 : decode cX12_best 42 = .ok (.getfield 316, 3) := by decide +kernel
theorem dX12_best_45 : decode cX12_best 45 = .ok (.goto 7, 3) := by decide +kernel
theorem dX12_best_48 : decode cX12_best 48 = .ok (.aload_n 0, 1) := by decide +kernel
theorem dX12_best_49 : decode cX12_best 49 = .ok (.getfield 319, 3) := by decide +kernel
theorem dX12_best_52 : decode cX12_best 52 = .ok (.ireturn, 1) := by decide +kernel
theorem dX12_leastEdge_0 : decode cX12_leastEdge 0 = .ok (.iconst 0, 1) := by decide +kernel
theorem dX12_leastEdge_1 : decode cX12_leastEdge 1 = .ok (.istore_n 1, 1) := by decide +kernel
theorem dX12_leastEdge_2 : decode cX12_leastEdge 2 = .ok (.iload_n 1, 1) := by decide +kernel
theorem dX12_leastEdge_3 : decode cX12_leastEdge 3 = .ok (.aload_n 0, 1) := by decide +kernel
theorem dX12_leastEdge_4 : decode cX12_leastEdge 4 = .ok (.getfield 245, 3) := by decide +kernel
theorem dX12_leastEdge_7 : decode cX12_leastEdge 7 = .ok (.if_icmp .ge 43, 3) := by decide +kernel
theorem dX12_leastEdge_10 : decode cX12_leastEdge 10 = .ok (.aload_n 0, 1) := by decide +kernel
theorem dX12_leastEdge_11 : decode cX12_leastEdge 11 = .ok (.getfield 84, 3) := by decide +kernel
theorem dX12_leastEdge_14 : decode cX12_leastEdge 14 = .ok (.iload_n 1, 1) := by decide +kernel
theorem dX12_leastEdge_15 : decode cX12_leastEdge 15 = .ok (.iaload, 1) := by decide +kernel
theorem dX12_leastEdge_16 : decode cX12_leastEdge 16 = .ok (.ifCond .ne 28, 3) := by decide +kernel
theorem dX12_leastEdge_19 : decode cX12_leastEdge 19 = .ok (.aload_n 0, 1) := by decide +kernel
theorem dX12_leastEdge_20 : decode cX12_leastEdge 20 = .ok (.getfield 87, 3) := by decide +kernel
theorem dX12_leastEdge_23 : decode cX12_leastEdge 23 = .ok (.aload_n 0, 1) := by decide +kernel
theorem dX12_leastEdge_24 : decode cX12_leastEdge 24 = .ok (.iload_n 1, 1) := by decide +kernel
theorem dX12_leastEdge_25 : decode cX12_leastEdge 25 = .ok (.invokevirtual 266, 3) := by decide +kernel
theorem dX12_leastEdge_28 : decode cX12_leastEdge 28 = .ok (.baload, 1) := by decide +kernel
theorem dX12_leastEdge_29 : decode cX12_leastEdge 29 = .ok (.aload_n 0, 1) := by decide +kernel
theorem dX12_leastEdge_30 : decode cX12_leastEdge 30 = .ok (.getfield 87, 3) := by decide +kernel
theorem dX12_leastEdge_33 : decode cX12_leastEdge 33 = .ok (.aload_n 0, 1) := by decide +kernel
theorem dX12_leastEdge_34 : decode cX12_leastEdge 34 = .ok (.iload_n 1, 1) := by decide +kernel
theorem dX12_leastEdge_35 : decode cX12_leastEdge 35 = .ok (.invokevirtual 269, 3) := by decide +kernel
theorem dX12_leastEdge_38 : decode cX12_leastEdge 38 = .ok (.baload, 1) := by decide +kernel
theorem dX12_leastEdge_39 : decode cX12_leastEdge 39 = .ok (.if_icmp .eq 5, 3) := by decide +kernel
theorem dX12_leastEdge_42 : decode cX12_leastEdge 42 = .ok (.iload_n 1, 1) := by decide +kernel
theorem dX12_leastEdge_43 : decode cX12_leastEdge 43 = .ok (.ireturn, 1) := by decide +kernel
theorem dX12_leastEdge_44 : decode cX12_leastEdge 44 = .ok (.iinc 1 1, 3) := by decide +kernel
theorem dX12_leastEdge_47 : decode cX12_leastEdge 47 = .ok (.goto (-45), 3) := by decide +kernel
theorem dX12_leastEdge_50 : decode cX12_leastEdge 50 = .ok (.iconst (-1), 1) := by decide +kernel
theorem dX12_leastEdge_51 : decode cX12_leastEdge 51 = .ok (.ireturn, 1) := by decide +kernel
theorem dX12_isTaken_0 : decode cX12_isTaken 0 = .ok (.iconst 0, 1) := by decide +kernel
theorem dX12_isTaken_1 : decode cX12_isTaken 1 = .ok (.istore_n 3, 1) := by decide +kernel
theorem dX12_isTaken_2 : decode cX12_isTaken 2 = .ok (.iload_n 3, 1) := by decide +kernel
theorem dX12_isTaken_3 : decode cX12_isTaken 3 = .ok (.aload_n 0, 1) := by decide +kernel
theorem dX12_isTaken_4 : decode cX12_isTaken 4 = .ok (.getfield 205, 3) := by decide +kernel
theorem dX12_isTaken_7 : decode cX12_isTaken 7 = .ok (.if_icmp .ge 40, 3) := by decide +kernel
theorem dX12_isTaken_10 : decode cX12_isTaken 10 = .ok (.aload_n 0, 1) := by decide +kernel
theorem dX12_isTaken_11 : decode cX12_isTaken 11 = .ok (.getfield 87, 3) := by decide +kernel
theorem dX12_isTaken_14 : decode cX12_isTaken 14 = .ok (.iload_n 3, 1) := by decide +kernel
theorem dX12_isTaken_15 : decode cX12_isTaken 15 = .ok (.baload, 1) := by decide +kernel
theorem dX12_isTaken_16 : decode cX12_isTaken 16 = .ok (.ifCond .eq 25, 3) := by decide +kernel
theorem dX12_isTaken_19 : decode cX12_isTaken 19 = .ok (.aload_n 0, 1) := by decide +kernel
theorem dX12_isTaken_20 : decode cX12_isTaken 20 = .ok (.getfield 75, 3) := by decide +kernel
theorem dX12_isTaken_23 : decode cX12_isTaken 23 = .ok (.iload_n 3, 1) := by decide +kernel
theorem dX12_isTaken_24 : decode cX12_isTaken 24 = .ok (.iaload, 1) := by decide +kernel
theorem dX12_isTaken_25 : decode cX12_isTaken 25 = .ok (.iload_n 1, 1) := by decide +kernel
theorem dX12_isTaken_26 : decode cX12_isTaken 26 = .ok (.if_icmp .ne 15, 3) := by decide +kernel
theorem dX12_isTaken_29 : decode cX12_isTaken 29 = .ok (.aload_n 0, 1) := by decide +kernel
theorem dX12_isTaken_30 : decode cX12_isTaken 30 = .ok (.getfield 78, 3) := by decide +kernel
theorem dX12_isTaken_33 : decode cX12_isTaken 33 = .ok (.iload_n 3, 1) := by decide +kernel
theorem dX12_isTaken_34 : decode cX12_isTaken 34 = .ok (.iaload, 1) := by decide +kernel
theorem dX12_isTaken_35 : decode cX12_isTaken 35 = .ok (.iload_n 2, 1) := by decide +kernel
theorem dX12_isTaken_36 : decode cX12_isTaken 36 = .ok (.if_icmp .ne 5, 3) := by decide +kernel
theorem dX12_isTaken_39 : decode cX12_isTaken 39 = .ok (.iconst 1, 1) := by decide +kernel
theorem dX12_isTaken_40 : decode cX12_isTaken 40 = .ok (.ireturn, 1) := by decide +kernel
theorem dX12_isTaken_41 : decode cX12_isTaken 41 = .ok (.iinc 3 1, 3) := by decide +kernel
theorem dX12_isTaken_44 : decode cX12_isTaken 44 = .ok (.goto (-42), 3) := by decide +kernel
theorem dX12_isTaken_47 : decode cX12_isTaken 47 = .ok (.iconst 0, 1) := by decide +kernel
theorem dX12_isTaken_48 : decode cX12_isTaken 48 = .ok (.ireturn, 1) := by decide +kernel
theorem dX12_finds_0 : decode cX12_finds 0 = .ok (.aload_n 0, 1) := by decide +kernel
theorem dX12_finds_1 : decode cX12_finds 1 = .ok (.dup, 1) := by decide +kernel
theorem dX12_finds_2 : decode cX12_finds 2 = .ok (.getfield 336, 3) := by decide +kernel
theorem dX12_finds_5 : decode cX12_finds 5 = .ok (.iconst 1, 1) := by decide +kernel
theorem dX12_finds_6 : decode cX12_finds 6 = .ok (.iadd, 1) := by decide +kernel
theorem dX12_finds_7 : decode cX12_finds 7 = .ok (.putfield 336, 3) := by decide +kernel
theorem dX12_finds_10 : decode cX12_finds 10 = .ok (.aload_n 0, 1) := by decide +kernel
theorem dX12_finds_11 : decode cX12_finds 11 = .ok (.getfield 336, 3) := by decide +kernel
theorem dX12_finds_14 : decode cX12_finds 14 = .ok (.sipush 3000, 3) := by decide +kernel
theorem dX12_finds_17 : decode cX12_finds 17 = .ok (.if_icmp .le 5, 3) := by decide +kernel
theorem dX12_finds_20 : decode cX12_finds 20 = .ok (.iconst 0, 1) := by decide +kernel
theorem dX12_finds_21 : decode cX12_finds 21 = .ok (.ireturn, 1) := by decide +kernel
theorem dX12_finds_22 : decode cX12_finds 22 = .ok (.aload_n 0, 1) := by decide +kernel
theorem dX12_finds_23 : decode cX12_finds 23 = .ok (.getfield 339, 3) := by decide +kernel
theorem dX12_finds_26 : decode cX12_finds 26 = .ok (.aload_n 0, 1) := by decide +kernel
theorem dX12_finds_27 : decode cX12_finds 27 = .ok (.getfield 205, 3) := by decide +kernel
theorem dX12_finds_30 : decode cX12_finds 30 = .ok (.if_icmp .ne 5, 3) := by decide +kernel
theorem dX12_finds_33 : decode cX12_finds 33 = .ok (.iconst 1, 1) := by decide +kernel
theorem dX12_finds_34 : decode cX12_finds 34 = .ok (.ireturn, 1) := by decide +kernel
theorem dX12_finds_35 : decode cX12_finds 35 = .ok (.aload_n 0, 1) := by decide +kernel
theorem dX12_finds_36 : decode cX12_finds 36 = .ok (.invokevirtual 342, 3) := by decide +kernel
theorem dX12_finds_39 : decode cX12_finds 39 = .ok (.istore_n 1, 1) := by decide +kernel
theorem dX12_finds_40 : decode cX12_finds 40 = .ok (.iload_n 1, 1) := by decide +kernel
theorem dX12_finds_41 : decode cX12_finds 41 = .ok (.iconst (-1), 1) := by decide +kernel
theorem dX12_finds_42 : decode cX12_finds 42 = .ok (.if_icmp .ne 5, 3) := by decide +kernel
theorem dX12_finds_45 : decode cX12_finds 45 = .ok (.iconst 0, 1) := by decide +kernel
theorem dX12_finds_46 : decode cX12_finds 46 = .ok (.ireturn, 1) := by decide +kernel
theorem dX12_finds_47 : decode cX12_finds 47 = .ok (.aload_n 0, 1) := by decide +kernel
theorem dX12_finds_48 : decode cX12_finds 48 = .ok (.getfield 87, 3) := by decide +kernel
theorem dX12_finds_51 : decode cX12_finds 51 = .ok (.aload_n 0, 1) := by decide +kernel
theorem dX12_finds_52 : decode cX12_finds 52 = .ok (.iload_n 1, 1) := by decide +kernel
theorem dX12_finds_53 : decode cX12_finds 53 = .ok (.invokevirtual 266, 3) := by decide +kernel
theorem dX12_finds_56 : decode cX12_finds 56 = .ok (.baload, 1) := by decide +kernel
theorem dX12_finds_57 : decode cX12_finds 57 = .ok (.ifCond .eq 12, 3) := by decide +kernel
theorem dX12_finds_60 : decode cX12_finds 60 = .ok (.aload_n 0, 1) := by decide +kernel
theorem dX12_finds_61 : decode cX12_finds 61 = .ok (.getfield 51, 3) := by decide +kernel
theorem dX12_finds_64 : decode cX12_finds 64 = .ok (.iload_n 1, 1) := by decide +kernel
theorem dX12_finds_65 : decode cX12_finds 65 = .ok (.iaload, 1) := by decide +kernel
theorem dX12_finds_66 : decode cX12_finds 66 = .ok (.goto 13, 3) := by decide +kernel
theorem dX12_finds_69 : decode cX12_finds 69 = .ok (.aload_n 0, 1) := by decide +kernel
theorem dX12_finds_70 : decode cX12_finds 70 = .ok (.aload_n 0, 1) := by decide +kernel
theorem dX12_finds_71 : decode cX12_finds 71 = .ok (.getfield 51, 3) := by decide +kernel
theorem dX12_finds_74 : decode cX12_finds 74 = .ok (.iload_n 1, 1) := by decide +kernel
theorem dX12_finds_75 : decode cX12_finds 75 = .ok (.iaload, 1) := by decide +kernel
theorem dX12_finds_76 : decode cX12_finds 76 = .ok (.invokevirtual 248, 3) := by decide +kernel
theorem dX12_finds_79 : decode cX12_finds 79 = .ok (.istore_n 2, 1) := by decide +kernel
theorem dX12_finds_80 : decode cX12_finds 80 = .ok (.aload_n 0, 1) := by decide +kernel
theorem dX12_finds_81 : decode cX12_finds 81 = .ok (.getfield 39, 3) := by decide +kernel
theorem dX12_finds_84 : decode cX12_finds 84 = .ok (.iload_n 2, 1) := by decide +kernel
theorem dX12_finds_85 : decode cX12_finds 85 = .ok (.iaload, 1) := by decide +kernel
theorem dX12_finds_86 : decode cX12_finds 86 = .ok (.istore_n 3, 1) := by decide +kernel
theorem dX12_finds_87 : decode cX12_finds 87 = .ok (.aload_n 0, 1) := by decide +kernel
theorem dX12_finds_88 : decode cX12_finds 88 = .ok (.iload_n 2, 1) := by decide +kernel
theorem dX12_finds_89 : decode cX12_finds 89 = .ok (.invokevirtual 301, 3) := by decide +kernel
theorem dX12_finds_92 : decode cX12_finds 92 = .ok (.aload_n 0, 1) := by decide +kernel
theorem dX12_finds_93 : decode cX12_finds 93 = .ok (.aload_n 0, 1) := by decide +kernel
theorem dX12_finds_94 : decode cX12_finds 94 = .ok (.getfield 75, 3) := by decide +kernel
theorem dX12_finds_97 : decode cX12_finds 97 = .ok (.iload_n 3, 1) := by decide +kernel
theorem dX12_finds_98 : decode cX12_finds 98 = .ok (.iaload, 1) := by decide +kernel
theorem dX12_finds_99 : decode cX12_finds 99 = .ok (.aload_n 0, 1) := by decide +kernel
theorem dX12_finds_100 : decode cX12_finds 100 = .ok (.getfield 78, 3) := by decide +kernel
theorem dX12_finds_103 : decode cX12_finds 103 = .ok (.iload_n 3, 1) := by decide +kernel
theorem dX12_finds_104 : decode cX12_finds 104 = .ok (.iaload, 1) := by decide +kernel
theorem dX12_finds_105 : decode cX12_finds 105 = .ok (.invokevirtual 345, 3) := by decide +kernel
theorem dX12_finds_108 : decode cX12_finds 108 = .ok (.ifCond .ne 53, 3) := by decide +kernel
theorem dX12_finds_111 : decode cX12_finds 111 = .ok (.aload_n 0, 1) := by decide +kernel
theorem dX12_finds_112 : decode cX12_finds 112 = .ok (.getfield 84, 3) := by decide +kernel
theorem dX12_finds_115 : decode cX12_finds 115 = .ok (.iload_n 1, 1) := by decide +kernel
theorem dX12_finds_116 : decode cX12_finds 116 = .ok (.iconst 1, 1) := by decide +kernel
theorem dX12_finds_117 : decode cX12_finds 117 = .ok (.iastore, 1) := by decide +kernel
theorem dX12_finds_118 : decode cX12_finds 118 = .ok (.aload_n 0, 1) := by decide +kernel
theorem dX12_finds_119 : decode cX12_finds 119 = .ok (.getfield 87, 3) := by decide +kernel
theorem dX12_finds_122 : decode cX12_finds 122 = .ok (.iload_n 3, 1) := by decide +kernel
theorem dX12_finds_123 : decode cX12_finds 123 = .ok (.iconst 1, 1) := by decide +kernel
theorem dX12_finds_124 : decode cX12_finds 124 = .ok (.bastore, 1) := by decide +kernel
theorem dX12_finds_125 : decode cX12_finds 125 = .ok (.aload_n 0, 1) := by decide +kernel
theorem dX12_finds_126 : decode cX12_finds 126 = .ok (.dup, 1) := by decide +kernel
theorem dX12_finds_127 : decode cX12_finds 127 = .ok (.getfield 339, 3) := by decide +kernel
theorem dX12_finds_130 : decode cX12_finds 130 = .ok (.iconst 1, 1) := by decide +kernel
theorem dX12_finds_131 : decode cX12_finds 131 = .ok (.iadd, 1) := by decide +kernel
theorem dX12_finds_132 : decode cX12_finds 132 = .ok (.putfield 339, 3) := by decide +kernel
theorem dX12_finds_135 : decode cX12_finds 135 = .ok (.aload_n 0, 1) := by decide +kernel
theorem dX12_finds_136 : decode cX12_finds 136 = .ok (.invokevirtual 348, 3) := by decide +kernel
theorem dX12_finds_139 : decode cX12_finds 139 = .ok (.ifCond .eq 5, 3) := by decide +kernel
theorem dX12_finds_142 : decode cX12_finds 142 = .ok (.iconst 1, 1) := by decide +kernel
theorem dX12_finds_143 : decode cX12_finds 143 = .ok (.ireturn, 1) := by decide +kernel
theorem dX12_finds_144 : decode cX12_finds 144 = .ok (.aload_n 0, 1) := by decide +kernel
theorem dX12_finds_145 : decode cX12_finds 145 = .ok (.getfield 87, 3) := by decide +kernel
theorem dX12_finds_148 : decode cX12_finds 148 = .ok (.iload_n 3, 1) := by decide +kernel
theorem dX12_finds_149 : decode cX12_finds 149 = .ok (.iconst 0, 1) := by decide +kernel
theorem dX12_finds_150 : decode cX12_finds 150 = .ok (.bastore, 1) := by decide +kernel
theorem dX12_finds_151 : decode cX12_finds 151 = .ok (.aload_n 0, 1) := by decide +kernel
theorem dX12_finds_152 : decode cX12_finds 152 = .ok (.dup, 1) := by decide +kernel
theorem dX12_finds_153 : decode cX12_finds 153 = .ok (.getfield 339, 3) := by decide +kernel
theorem dX12_finds_156 : decode cX12_finds 156 = .ok (.iconst 1, 1) := by decide +kernel
theorem dX12_finds_157 : decode cX12_finds 157 = .ok (.isub, 1) := by decide +kernel
theorem dX12_finds_158 : decode cX12_finds 158 = .ok (.putfield 339, 3) := by decide +kernel
theorem dX12_finds_161 : decode cX12_finds 161 = .ok (.aload_n 0, 1) := by decide +kernel
theorem dX12_finds_162 : decode cX12_finds 162 = .ok (.getfield 84, 3) := by decide +kernel
theorem dX12_finds_165 : decode cX12_finds 165 = .ok (.iload_n 1, 1) := by decide +kernel
theorem dX12_finds_166 : decode cX12_finds 166 = .ok (.iconst 2, 1) := by decide +kernel
theorem dX12_finds_167 : decode cX12_finds 167 = .ok (.iastore, 1) := by decide +kernel
theorem dX12_finds_168 : decode cX12_finds 168 = .ok (.aload_n 0, 1) := by decide +kernel
theorem dX12_finds_169 : decode cX12_finds 169 = .ok (.getfield 336, 3) := by decide +kernel
theorem dX12_finds_172 : decode cX12_finds 172 = .ok (.sipush 3000, 3) := by decide +kernel
theorem dX12_finds_175 : decode cX12_finds 175 = .ok (.if_icmp .gt 12, 3) := by decide +kernel
theorem dX12_finds_178 : decode cX12_finds 178 = .ok (.aload_n 0, 1) := by decide +kernel
theorem dX12_finds_179 : decode cX12_finds 179 = .ok (.invokevirtual 348, 3) := by decide +kernel
theorem dX12_finds_182 : decode cX12_finds 182 = .ok (.ifCond .eq 5, 3) := by decide +kernel
theorem dX12_finds_185 : decode cX12_finds 185 = .ok (.iconst 1, 1) := by decide +kernel
theorem dX12_finds_186 : decode cX12_finds 186 = .ok (.ireturn, 1) := by decide +kernel
theorem dX12_finds_187 : decode cX12_finds 187 = .ok (.aload_n 0, 1) := by decide +kernel
theorem dX12_finds_188 : decode cX12_finds 188 = .ok (.getfield 84, 3) := by decide +kernel
theorem dX12_finds_191 : decode cX12_finds 191 = .ok (.iload_n 1, 1) := by decide +kernel
theorem dX12_finds_192 : decode cX12_finds 192 = .ok (.iconst 0, 1) := by decide +kernel
theorem dX12_finds_193 : decode cX12_finds 193 = .ok (.iastore, 1) := by decide +kernel
theorem dX12_finds_194 : decode cX12_finds 194 = .ok (.iconst 0, 1) := by decide +kernel
theorem dX12_finds_195 : decode cX12_finds 195 = .ok (.ireturn, 1) := by decide +kernel
theorem dX12_seek_0 : decode cX12_seek 0 = .ok (.aload_n 0, 1) := by decide +kernel
theorem dX12_seek_1 : decode cX12_seek 1 = .ok (.getfield 205, 3) := by decide +kernel
theorem dX12_seek_4 : decode cX12_seek 4 = .ok (.ifCond .ne 5, 3) := by decide +kernel
theorem dX12_seek_7 : decode cX12_seek 7 = .ok (.iconst (-1), 1) := by decide +kernel
theorem dX12_seek_8 : decode cX12_seek 8 = .ok (.ireturn, 1) := by decide +kernel
theorem dX12_seek_9 : decode cX12_seek 9 = .ok (.iconst 0, 1) := by decide +kernel
theorem dX12_seek_10 : decode cX12_seek 10 = .ok (.istore_n 1, 1) := by decide +kernel
theorem dX12_seek_11 : decode cX12_seek 11 = .ok (.iload_n 1, 1) := by decide +kernel
theorem dX12_seek_12 : decode cX12_seek 12 = .ok (.aload_n 0, 1) := by decide +kernel
theorem dX12_seek_13 : decode cX12_seek 13 = .ok (.getfield 245, 3) := by decide +kernel
theorem dX12_seek_16 : decode cX12_seek 16 = .ok (.if_icmp .ge 16, 3) := by decide +kernel
theorem dX12_seek_19 : decode cX12_seek 19 = .ok (.aload_n 0, 1) := by decide +kernel
theorem dX12_seek_20 : decode cX12_seek 20 = .ok (.getfield 84, 3) := by decide +kernel
theorem dX12_seek_23 : decode cX12_seek 23 = .ok (.iload_n 1, 1) := by decide +kernel
theorem dX12_seek_24 : decode cX12_seek 24 = .ok (.iconst 0, 1) := by decide +kernel
theorem dX12_seek_25 : decode cX12_seek 25 = .ok (.iastore, 1) := by decide +kernel
theorem dX12_seek_26 : decode cX12_seek 26 = .ok (.iinc 1 1, 3) := by decide +kernel
theorem dX12_seek_29 : decode cX12_seek 29 = .ok (.goto (-18), 3) := by decide +kernel
theorem dX12_seek_32 : decode cX12_seek 32 = .ok (.iconst 0, 1) := by decide +kernel
theorem dX12_seek_33 : decode cX12_seek 33 = .ok (.istore_n 1, 1) := by decide +kernel
theorem dX12_seek_34 : decode cX12_seek 34 = .ok (.iload_n 1, 1) := by decide +kernel
theorem dX12_seek_35 : decode cX12_seek 35 = .ok (.aload_n 0, 1) := by decide +kernel
theorem dX12_seek_36 : decode cX12_seek 36 = .ok (.getfield 205, 3) := by decide +kernel
theorem dX12_seek_39 : decode cX12_seek 39 = .ok (.if_icmp .ge 31, 3) := by decide +kernel
theorem dX12_seek_42 : decode cX12_seek 42 = .ok (.aload_n 0, 1) := by decide +kernel
theorem dX12_seek_43 : decode cX12_seek 43 = .ok (.getfield 87, 3) := by decide +kernel
theorem dX12_seek_46 : decode cX12_seek 46 = .ok (.iload_n 1, 1) := by decide +kernel
theorem dX12_seek_47 : decode cX12_seek 47 = .ok (.iload_n 1, 1) := by decide +kernel
theorem dX12_seek_48 : decode cX12_seek 48 = .ok (.aload_n 0, 1) := by decide +kernel
theorem dX12_seek_49 : decode cX12_seek 49 = .ok (.getfield 9, 3) := by decide +kernel
theorem dX12_seek_52 : decode cX12_seek 52 = .ok (.bipush 22, 2) := by decide +kernel
theorem dX12_seek_54 : decode cX12_seek 54 = .ok (.iaload, 1) := by decide +kernel
theorem dX12_seek_55 : decode cX12_seek 55 = .ok (.if_icmp .ne 7, 3) := by decide +kernel
theorem dX12_seek_58 : decode cX12_seek 58 = .ok (.iconst 1, 1) := by decide +kernel
theorem dX12_seek_59 : decode cX12_seek 59 = .ok (.goto 4, 3) := by decide +kernel
theorem dX12_seek_62 : decode cX12_seek 62 = .ok (.iconst 0, 1) := by decide +kernel
theorem dX12_seek_63 : decode cX12_seek 63 = .ok (.bastore, 1) := by decide +kernel
theorem dX12_seek_64 : decode cX12_seek 64 = .ok (.iinc 1 1, 3) := by decide +kernel
theorem dX12_seek_67 : decode cX12_seek 67 = .ok (.goto (-33), 3) := by decide +kernel
theorem dX12_seek_70 : decode cX12_seek 70 = .ok (.aload_n 0, 1) := by decide +kernel
theorem dX12_seek_71 : decode cX12_seek 71 = .ok (.getfield 75, 3) := by decide +kernel
theorem dX12_seek_74 : decode cX12_seek 74 = .ok (.aload_n 0, 1) := by decide +kernel
theorem dX12_seek_75 : decode cX12_seek 75 = .ok (.getfield 9, 3) := by decide +kernel
theorem dX12_seek_78 : decode cX12_seek 78 = .ok (.bipush 22, 2) := by decide +kernel
theorem dX12_seek_80 : decode cX12_seek 80 = .ok (.iaload, 1) := by decide +kernel
theorem dX12_seek_81 : decode cX12_seek 81 = .ok (.iconst 0, 1) := by decide +kernel
theorem dX12_seek_82 : decode cX12_seek 82 = .ok (.iastore, 1) := by decide +kernel
theorem dX12_seek_83 : decode cX12_seek 83 = .ok (.aload_n 0, 1) := by decide +kernel
theorem dX12_seek_84 : decode cX12_seek 84 = .ok (.getfield 78, 3) := by decide +kernel
theorem dX12_seek_87 : decode cX12_seek 87 = .ok (.aload_n 0, 1) := by decide +kernel
theorem dX12_seek_88 : decode cX12_seek 88 = .ok (.getfield 9, 3) := by decide +kernel
theorem dX12_seek_91 : decode cX12_seek 91 = .ok (.bipush 22, 2) := by decide +kernel
theorem dX12_seek_93 : decode cX12_seek 93 = .ok (.iaload, 1) := by decide +kernel
theorem dX12_seek_94 : decode cX12_seek 94 = .ok (.iconst 0, 1) := by decide +kernel
theorem dX12_seek_95 : decode cX12_seek 95 = .ok (.iastore, 1) := by decide +kernel
theorem dX12_seek_96 : decode cX12_seek 96 = .ok (.aload_n 0, 1) := by decide +kernel
theorem dX12_seek_97 : decode cX12_seek 97 = .ok (.getfield 81, 3) := by decide +kernel
theorem dX12_seek_100 : decode cX12_seek 100 = .ok (.aload_n 0, 1) := by decide +kernel
theorem dX12_seek_101 : decode cX12_seek 101 = .ok (.getfield 9, 3) := by decide +kernel
theorem dX12_seek_104 : decode cX12_seek 104 = .ok (.bipush 22, 2) := by decide +kernel
theorem dX12_seek_106 : decode cX12_seek 106 = .ok (.iaload, 1) := by decide +kernel
theorem dX12_seek_107 : decode cX12_seek 107 = .ok (.iconst 0, 1) := by decide +kernel
theorem dX12_seek_108 : decode cX12_seek 108 = .ok (.iastore, 1) := by decide +kernel
theorem dX12_seek_109 : decode cX12_seek 109 = .ok (.aload_n 0, 1) := by decide +kernel
theorem dX12_seek_110 : decode cX12_seek 110 = .ok (.iconst 1, 1) := by decide +kernel
theorem dX12_seek_111 : decode cX12_seek 111 = .ok (.putfield 339, 3) := by decide +kernel
theorem dX12_seek_114 : decode cX12_seek 114 = .ok (.aload_n 0, 1) := by decide +kernel
theorem dX12_seek_115 : decode cX12_seek 115 = .ok (.iconst 0, 1) := by decide +kernel
theorem dX12_seek_116 : decode cX12_seek 116 = .ok (.putfield 336, 3) := by decide +kernel
theorem dX12_seek_119 : decode cX12_seek 119 = .ok (.aload_n 0, 1) := by decide +kernel
theorem dX12_seek_120 : decode cX12_seek 120 = .ok (.invokevirtual 348, 3) := by decide +kernel
theorem dX12_seek_123 : decode cX12_seek 123 = .ok (.istore_n 1, 1) := by decide +kernel
theorem dX12_seek_124 : decode cX12_seek 124 = .ok (.iload_n 1, 1) := by decide +kernel
theorem dX12_seek_125 : decode cX12_seek 125 = .ok (.ifCond .ne 21, 3) := by decide +kernel
theorem dX12_seek_128 : decode cX12_seek 128 = .ok (.aload_n 0, 1) := by decide +kernel
theorem dX12_seek_129 : decode cX12_seek 129 = .ok (.getfield 336, 3) := by decide +kernel
theorem dX12_seek_132 : decode cX12_seek 132 = .ok (.sipush 3000, 3) := by decide +kernel
theorem dX12_seek_135 : decode cX12_seek 135 = .ok (.if_icmp .le 8, 3) := by decide +kernel
theorem dX12_seek_138 : decode cX12_seek 138 = .ok (.bipush (-3), 2) := by decide +kernel
theorem dX12_seek_140 : decode cX12_seek 140 = .ok (.goto 5, 3) := by decide +kernel
theorem dX12_seek_143 : decode cX12_seek 143 = .ok (.bipush (-2), 2) := by decide +kernel
theorem dX12_seek_145 : decode cX12_seek 145 = .ok (.ireturn, 1) := by decide +kernel
theorem dX12_seek_146 : decode cX12_seek 146 = .ok (.aload_n 0, 1) := by decide +kernel
theorem dX12_seek_147 : decode cX12_seek 147 = .ok (.invokevirtual 275, 3) := by decide +kernel
theorem dX12_seek_150 : decode cX12_seek 150 = .ok (.iconst 0, 1) := by decide +kernel
theorem dX12_seek_151 : decode cX12_seek 151 = .ok (.istore_n 2, 1) := by decide +kernel
theorem dX12_seek_152 : decode cX12_seek 152 = .ok (.iload_n 2, 1) := by decide +kernel
theorem dX12_seek_153 : decode cX12_seek 153 = .ok (.aload_n 0, 1) := by decide +kernel
theorem dX12_seek_154 : decode cX12_seek 154 = .ok (.getfield 245, 3) := by decide +kernel
theorem dX12_seek_157 : decode cX12_seek 157 = .ok (.if_icmp .ge 36, 3) := by decide +kernel
theorem dX12_seek_160 : decode cX12_seek 160 = .ok (.aload_n 0, 1) := by decide +kernel
theorem dX12_seek_161 : decode cX12_seek 161 = .ok (.getfield 9, 3) := by decide +kernel
theorem dX12_seek_164 : decode cX12_seek 164 = .ok (.bipush 23, 2) := by decide +kernel
theorem dX12_seek_166 : decode cX12_seek 166 = .ok (.iload_n 2, 1) := by decide +kernel
theorem dX12_seek_167 : decode cX12_seek 167 = .ok (.iadd, 1) := by decide +kernel
theorem dX12_seek_168 : decode cX12_seek 168 = .ok (.aload_n 0, 1) := by decide +kernel
theorem dX12_seek_169 : decode cX12_seek 169 = .ok (.getfield 84, 3) := by decide +kernel
theorem dX12_seek_172 : decode cX12_seek 172 = .ok (.iload_n 2, 1) := by decide +kernel
theorem dX12_seek_173 : decode cX12_seek 173 = .ok (.iaload, 1) := by decide +kernel
theorem dX12_seek_174 : decode cX12_seek 174 = .ok (.iconst 1, 1) := by decide +kernel
theorem dX12_seek_175 : decode cX12_seek 175 = .ok (.if_icmp .ne 7, 3) := by decide +kernel
theorem dX12_seek_178 : decode cX12_seek 178 = .ok (.iconst 1, 1) := by decide +kernel
theorem dX12_seek_179 : decode cX12_seek 179 = .ok (.goto 4, 3) := by decide +kernel
theorem dX12_seek_182 : decode cX12_seek 182 = .ok (.iconst 0, 1) := by decide +kernel
theorem dX12_seek_183 : decode cX12_seek 183 = .ok (.invokestatic 185, 3) := by decide +kernel
theorem dX12_seek_186 : decode cX12_seek 186 = .ok (.iastore, 1) := by decide +kernel
theorem dX12_seek_187 : decode cX12_seek 187 = .ok (.iinc 2 1, 3) := by decide +kernel
theorem dX12_seek_190 : decode cX12_seek 190 = .ok (.goto (-38), 3) := by decide +kernel
theorem dX12_seek_193 : decode cX12_seek 193 = .ok (.aload_n 0, 1) := by decide +kernel
theorem dX12_seek_194 : decode cX12_seek 194 = .ok (.getfield 336, 3) := by decide +kernel
theorem dX12_seek_197 : decode cX12_seek 197 = .ok (.ireturn, 1) := by decide +kernel
theorem dX12_face_0 : decode cX12_face 0 = .ok (.aload_n 0, 1) := by decide +kernel
theorem dX12_face_1 : decode cX12_face 1 = .ok (.iload_n 1, 1) := by decide +kernel
theorem dX12_face_2 : decode cX12_face 2 = .ok (.invokevirtual 278, 3) := by decide +kernel
theorem dX12_face_5 : decode cX12_face 5 = .ok (.ifCond .eq 15, 3) := by decide +kernel
theorem dX12_face_8 : decode cX12_face 8 = .ok (.iload_n 2, 1) := by decide +kernel
theorem dX12_face_9 : decode cX12_face 9 = .ok (.i2l, 1) := by decide +kernel
theorem dX12_face_10 : decode cX12_face 10 = .ok (.lconst 0, 1) := by decide +kernel
theorem dX12_face_11 : decode cX12_face 11 = .ok (.ldc2_w 351, 3) := by decide +kernel
theorem dX12_face_14 : decode cX12_face 14 = .ok (.invokestatic 143, 3) := by decide +kernel
theorem dX12_face_17 : decode cX12_face 17 = .ok (.ifCond .ne 5, 3) := by decide +kernel
theorem dX12_face_20 : decode cX12_face 20 = .ok (.iconst (-1), 1) := by decide +kernel
theorem dX12_face_21 : decode cX12_face 21 = .ok (.ireturn, 1) := by decide +kernel
theorem dX12_face_22 : decode cX12_face 22 = .ok (.iload_n 2, 1) := by decide +kernel
theorem dX12_face_23 : decode cX12_face 23 = .ok (.iconst 2, 1) := by decide +kernel
theorem dX12_face_24 : decode cX12_face 24 = .ok (.if_icmp .ge 23, 3) := by decide +kernel
theorem dX12_face_27 : decode cX12_face 27 = .ok (.iload_n 2, 1) := by decide +kernel
theorem dX12_face_28 : decode cX12_face 28 = .ok (.ifCond .ne 12, 3) := by decide +kernel
theorem dX12_face_31 : decode cX12_face 31 = .ok (.aload_n 0, 1) := by decide +kernel
theorem dX12_face_32 : decode cX12_face 32 = .ok (.getfield 33, 3) := by decide +kernel
theorem dX12_face_35 : decode cX12_face 35 = .ok (.iload_n 1, 1) := by decide +kernel
theorem dX12_face_36 : decode cX12_face 36 = .ok (.iaload, 1) := by decide +kernel
theorem dX12_face_37 : decode cX12_face 37 = .ok (.goto 9, 3) := by decide +kernel
theorem dX12_face_40 : decode cX12_face 40 = .ok (.aload_n 0, 1) := by decide +kernel
theorem dX12_face_41 : decode cX12_face 41 = .ok (.getfield 36, 3) := by decide +kernel
theorem dX12_face_44 : decode cX12_face 44 = .ok (.iload_n 1, 1) := by decide +kernel
theorem dX12_face_45 : decode cX12_face 45 = .ok (.iaload, 1) := by decide +kernel
theorem dX12_face_46 : decode cX12_face 46 = .ok (.ireturn, 1) := by decide +kernel
theorem dX12_face_47 : decode cX12_face 47 = .ok (.iload_n 2, 1) := by decide +kernel
theorem dX12_face_48 : decode cX12_face 48 = .ok (.iconst 3, 1) := by decide +kernel
theorem dX12_face_49 : decode cX12_face 49 = .ok (.if_icmp .ne 19, 3) := by decide +kernel
theorem dX12_face_52 : decode cX12_face 52 = .ok (.aload_n 0, 1) := by decide +kernel
theorem dX12_face_53 : decode cX12_face 53 = .ok (.aload_n 0, 1) := by decide +kernel
theorem dX12_face_54 : decode cX12_face 54 = .ok (.getfield 9, 3) := by decide +kernel
theorem dX12_face_57 : decode cX12_face 57 = .ok (.bipush 22, 2) := by decide +kernel
theorem dX12_face_59 : decode cX12_face 59 = .ok (.iaload, 1) := by decide +kernel
theorem dX12_face_60 : decode cX12_face 60 = .ok (.iload_n 1, 1) := by decide +kernel
theorem dX12_face_61 : decode cX12_face 61 = .ok (.invokevirtual 272, 3) := by decide +kernel
theorem dX12_face_64 : decode cX12_face 64 = .ok (.invokestatic 185, 3) := by decide +kernel
theorem dX12_face_67 : decode cX12_face 67 = .ok (.ireturn, 1) := by decide +kernel
theorem dX12_face_68 : decode cX12_face 68 = .ok (.iconst 0, 1) := by decide +kernel
theorem dX12_face_69 : decode cX12_face 69 = .ok (.istore_n 3, 1) := by decide +kernel
theorem dX12_face_70 : decode cX12_face 70 = .ok (.iconst 0, 1) := by decide +kernel
theorem dX12_face_71 : decode cX12_face 71 = .ok (.istore 4, 2) := by decide +kernel
theorem dX12_face_73 : decode cX12_face 73 = .ok (.iload 4, 2) := by decide +kernel
theorem dX12_face_75 : decode cX12_face 75 = .ok (.iconst 4, 1) := by decide +kernel
theorem dX12_face_76 : decode cX12_face 76 = .ok (.if_icmp .ge 30, 3) := by decide +kernel
theorem dX12_face_79 : decode cX12_face 79 = .ok (.iload_n 3, 1) := by decide +kernel
theorem dX12_face_80 : decode cX12_face 80 = .ok (.aload_n 0, 1) := by decide +kernel
theorem dX12_face_81 : decode cX12_face 81 = .ok (.aload_n 0, 1) := by decide +kernel
theorem dX12_face_82 : decode cX12_face 82 = .ok (.getfield 48, 3) := by decide +kernel
theorem dX12_face_85 : decode cX12_face 85 = .ok (.iconst 4, 1) := by decide +kernel
theorem dX12_face_86 : decode cX12_face 86 = .ok (.iload_n 1, 1) := by decide +kernel
theorem dX12_face_87 : decode cX12_face 87 = .ok (.imul, 1) := by decide +kernel
theorem dX12_face_88 : decode cX12_face 88 = .ok (.iload 4, 2) := by decide +kernel
theorem dX12_face_90 : decode cX12_face 90 = .ok (.iadd, 1) := by decide +kernel
theorem dX12_face_91 : decode cX12_face 91 = .ok (.iaload, 1) := by decide +kernel
theorem dX12_face_92 : decode cX12_face 92 = .ok (.invokevirtual 257, 3) := by decide +kernel
theorem dX12_face_95 : decode cX12_face 95 = .ok (.invokestatic 185, 3) := by decide +kernel
theorem dX12_face_98 : decode cX12_face 98 = .ok (.iadd, 1) := by decide +kernel
theorem dX12_face_99 : decode cX12_face 99 = .ok (.istore_n 3, 1) := by decide +kernel
theorem dX12_face_100 : decode cX12_face 100 = .ok (.iinc 4 1, 3) := by decide +kernel
theorem dX12_face_103 : decode cX12_face 103 = .ok (.goto (-30), 3) := by decide +kernel
theorem dX12_face_106 : decode cX12_face 106 = .ok (.iload_n 3, 1) := by decide +kernel
theorem dX12_face_107 : decode cX12_face 107 = .ok (.ireturn, 1) := by decide +kernel
theorem dX12_side_0 : decode cX12_side 0 = .ok (.aload_n 0, 1) := by decide +kernel
theorem dX12_side_1 : decode cX12_side 1 = .ok (.iload_n 1, 1) := by decide +kernel
theorem dX12_side_2 : decode cX12_side 2 = .ok (.invokevirtual 278, 3) := by decide +kernel
theorem dX12_side_5 : decode cX12_side 5 = .ok (.ifCond .eq 27, 3) := by decide +kernel
theorem dX12_side_8 : decode cX12_side 8 = .ok (.iload_n 2, 1) := by decide +kernel
theorem dX12_side_9 : decode cX12_side 9 = .ok (.i2l, 1) := by decide +kernel
theorem dX12_side_10 : decode cX12_side 10 = .ok (.lconst 0, 1) := by decide +kernel
theorem dX12_side_11 : decode cX12_side 11 = .ok (.ldc2_w 351, 3) := by decide +kernel
theorem dX12_side_14 : decode cX12_side 14 = .ok (.invokestatic 143, 3) := by decide +kernel
theorem dX12_side_17 : decode cX12_side 17 = .ok (.ifCond .eq 15, 3) := by decide +kernel
theorem dX12_side_20 : decode cX12_side 20 = .ok (.iload_n 3, 1) := by decide +kernel
theorem dX12_side_21 : decode cX12_side 21 = .ok (.i2l, 1) := by decide +kernel
theorem dX12_side_22 : decode cX12_side 22 = .ok (.lconst 0, 1) := by decide +kernel
theorem dX12_side_23 : decode cX12_side 23 = .ok (.ldc2_w 334, 3) := by decide +kernel
theorem dX12_side_26 : decode cX12_side 26 = .ok (.invokestatic 143, 3) := by decide +kernel
theorem dX12_side_29 : decode cX12_side 29 = .ok (.ifCond .ne 5, 3) := by decide +kernel
theorem dX12_side_32 : decode cX12_side 32 = .ok (.iconst (-1), 1) := by decide +kernel
theorem dX12_side_33 : decode cX12_side 33 = .ok (.ireturn, 1) := by decide +kernel
theorem dX12_side_34 : decode cX12_side 34 = .ok (.iconst 4, 1) := by decide +kernel
theorem dX12_side_35 : decode cX12_side 35 = .ok (.iload_n 1, 1) := by decide +kernel
theorem dX12_side_36 : decode cX12_side 36 = .ok (.imul, 1) := by decide +kernel
theorem dX12_side_37 : decode cX12_side 37 = .ok (.iload_n 2, 1) := by decide +kernel
theorem dX12_side_38 : decode cX12_side 38 = .ok (.iadd, 1) := by decide +kernel
theorem dX12_side_39 : decode cX12_side 39 = .ok (.istore 4, 2) := by decide +kernel
theorem dX12_side_41 : decode cX12_side 41 = .ok (.iload_n 3, 1) := by decide +kernel
theorem dX12_side_42 : decode cX12_side 42 = .ok (.ifCond .ne 13, 3) := by decide +kernel
theorem dX12_side_45 : decode cX12_side 45 = .ok (.aload_n 0, 1) := by decide +kernel
theorem dX12_side_46 : decode cX12_side 46 = .ok (.getfield 48, 3) := by decide +kernel
theorem dX12_side_49 : decode cX12_side 49 = .ok (.iload 4, 2) := by decide +kernel
theorem dX12_side_51 : decode cX12_side 51 = .ok (.iaload, 1) := by decide +kernel
theorem dX12_side_52 : decode cX12_side 52 = .ok (.goto 25, 3) := by decide +kernel
theorem dX12_side_55 : decode cX12_side 55 = .ok (.iload_n 3, 1) := by decide +kernel
theorem dX12_side_56 : decode cX12_side 56 = .ok (.iconst 1, 1) := by decide +kernel
theorem dX12_side_57 : decode cX12_side 57 = .ok (.if_icmp .ne 13, 3) := by decide +kernel
theorem dX12_side_60 : decode cX12_side 60 = .ok (.aload_n 0, 1) := by decide +kernel
theorem dX12_side_61 : decode cX12_side 61 = .ok (.getfield 39, 3) := by decide +kernel
theorem dX12_side_64 : decode cX12_side 64 = .ok (.iload 4, 2) := by decide +kernel
theorem dX12_side_66 : decode cX12_side 66 = .ok (.iaload, 1) := by decide +kernel
theorem dX12_side_67 : decode cX12_side 67 = .ok (.goto 10, 3) := by decide +kernel
theorem dX12_side_70 : decode cX12_side 70 = .ok (.aload_n 0, 1) := by decide +kernel
theorem dX12_side_71 : decode cX12_side 71 = .ok (.getfield 42, 3) := by decide +kernel
theorem dX12_side_74 : decode cX12_side 74 = .ok (.iload 4, 2) := by decide +kernel
theorem dX12_side_76 : decode cX12_side 76 = .ok (.iaload, 1) := by decide +kernel
theorem dX12_side_77 : decode cX12_side 77 = .ok (.ireturn, 1) := by decide +kernel
theorem dX12_edge_0 : decode cX12_edge 0 = .ok (.aload_n 0, 1) := by decide +kernel
theorem dX12_edge_1 : decode cX12_edge 1 = .ok (.iload_n 1, 1) := by decide +kernel
theorem dX12_edge_2 : decode cX12_edge 2 = .ok (.invokevirtual 263, 3) := by decide +kernel
theorem dX12_edge_5 : decode cX12_edge 5 = .ok (.ifCond .ne 5, 3) := by decide +kernel
theorem dX12_edge_8 : decode cX12_edge 8 = .ok (.iconst (-1), 1) := by decide +kernel
theorem dX12_edge_9 : decode cX12_edge 9 = .ok (.ireturn, 1) := by decide +kernel
theorem dX12_edge_10 : decode cX12_edge 10 = .ok (.aload_n 0, 1) := by decide +kernel
theorem dX12_edge_11 : decode cX12_edge 11 = .ok (.getfield 51, 3) := by decide +kernel
theorem dX12_edge_14 : decode cX12_edge 14 = .ok (.iload_n 1, 1) := by decide +kernel
theorem dX12_edge_15 : decode cX12_edge 15 = .ok (.iaload, 1) := by decide +kernel
theorem dX12_edge_16 : decode cX12_edge 16 = .ok (.istore_n 3, 1) := by decide +kernel
theorem dX12_edge_17 : decode cX12_edge 17 = .ok (.iload_n 2, 1) := by decide +kernel
theorem dX12_edge_18 : decode cX12_edge 18 = .ok (.tableswitch 109 0 7 #[46, 50, 57, 61, 68, 75, 85, 95], 46) := by decide +kernel
theorem dX12_edge_64 : decode cX12_edge 64 = .ok (.iload_n 3, 1) := by decide +kernel
theorem dX12_edge_65 : decode cX12_edge 65 = .ok (.iconst 4, 1) := by decide +kernel
theorem dX12_edge_66 : decode cX12_edge 66 = .ok (.idiv, 1) := by decide +kernel
theorem dX12_edge_67 : decode cX12_edge 67 = .ok (.ireturn, 1) := by decide +kernel
theorem dX12_edge_68 : decode cX12_edge 68 = .ok (.aload_n 0, 1) := by decide +kernel
theorem dX12_edge_69 : decode cX12_edge 69 = .ok (.getfield 39, 3) := by decide +kernel
theorem dX12_edge_72 : decode cX12_edge 72 = .ok (.iload_n 3, 1) := by decide +kernel
theorem dX12_edge_73 : decode cX12_edge 73 = .ok (.iaload, 1) := by decide +kernel
theorem dX12_edge_74 : decode cX12_edge 74 = .ok (.ireturn, 1) := by decide +kernel
theorem dX12_edge_75 : decode cX12_edge 75 = .ok (.iload_n 3, 1) := by decide +kernel
theorem dX12_edge_76 : decode cX12_edge 76 = .ok (.iconst 4, 1) := by decide +kernel
theorem dX12_edge_77 : decode cX12_edge 77 = .ok (.irem, 1) := by decide +kernel
theorem dX12_edge_78 : decode cX12_edge 78 = .ok (.ireturn, 1) := by decide +kernel
theorem dX12_edge_79 : decode cX12_edge 79 = .ok (.aload_n 0, 1) := by decide +kernel
theorem dX12_edge_80 : decode cX12_edge 80 = .ok (.getfield 42, 3) := by decide +kernel
theorem dX12_edge_83 : decode cX12_edge 83 = .ok (.iload_n 3, 1) := by decide +kernel
theorem dX12_edge_84 : decode cX12_edge 84 = .ok (.iaload, 1) := by decide +kernel
theorem dX12_edge_85 : decode cX12_edge 85 = .ok (.ireturn, 1) := by decide +kernel
theorem dX12_edge_86 : decode cX12_edge 86 = .ok (.aload_n 0, 1) := by decide +kernel
theorem dX12_edge_87 : decode cX12_edge 87 = .ok (.getfield 45, 3) := by decide +kernel
theorem dX12_edge_90 : decode cX12_edge 90 = .ok (.iload_n 3, 1) := by decide +kernel
theorem dX12_edge_91 : decode cX12_edge 91 = .ok (.iaload, 1) := by decide +kernel
theorem dX12_edge_92 : decode cX12_edge 92 = .ok (.ireturn, 1) := by decide +kernel
theorem dX12_edge_93 : decode cX12_edge 93 = .ok (.aload_n 0, 1) := by decide +kernel
theorem dX12_edge_94 : decode cX12_edge 94 = .ok (.getfield 9, 3) := by decide +kernel
theorem dX12_edge_97 : decode cX12_edge 97 = .ok (.bipush 83, 2) := by decide +kernel
theorem dX12_edge_99 : decode cX12_edge 99 = .ok (.iload_n 1, 1) := by decide +kernel
theorem dX12_edge_100 : decode cX12_edge 100 = .ok (.iadd, 1) := by decide +kernel
theorem dX12_edge_101 : decode cX12_edge 101 = .ok (.iaload, 1) := by decide +kernel
theorem dX12_edge_102 : decode cX12_edge 102 = .ok (.ireturn, 1) := by decide +kernel
theorem dX12_edge_103 : decode cX12_edge 103 = .ok (.aload_n 0, 1) := by decide +kernel
theorem dX12_edge_104 : decode cX12_edge 104 = .ok (.getfield 9, 3) := by decide +kernel
theorem dX12_edge_107 : decode cX12_edge 107 = .ok (.bipush 23, 2) := by decide +kernel
theorem dX12_edge_109 : decode cX12_edge 109 = .ok (.iload_n 1, 1) := by decide +kernel
theorem dX12_edge_110 : decode cX12_edge 110 = .ok (.iadd, 1) := by decide +kernel
theorem dX12_edge_111 : decode cX12_edge 111 = .ok (.iaload, 1) := by decide +kernel
theorem dX12_edge_112 : decode cX12_edge 112 = .ok (.ireturn, 1) := by decide +kernel
theorem dX12_edge_113 : decode cX12_edge 113 = .ok (.aload_n 0, 1) := by decide +kernel
theorem dX12_edge_114 : decode cX12_edge 114 = .ok (.invokevirtual 304, 3) := by decide +kernel
theorem dX12_edge_117 : decode cX12_edge 117 = .ok (.pop, 1) := by decide +kernel
theorem dX12_edge_118 : decode cX12_edge 118 = .ok (.aload_n 0, 1) := by decide +kernel
theorem dX12_edge_119 : decode cX12_edge 119 = .ok (.iload_n 1, 1) := by decide +kernel
theorem dX12_edge_120 : decode cX12_edge 120 = .ok (.invokevirtual 353, 3) := by decide +kernel
theorem dX12_edge_123 : decode cX12_edge 123 = .ok (.invokestatic 185, 3) := by decide +kernel
theorem dX12_edge_126 : decode cX12_edge 126 = .ok (.ireturn, 1) := by decide +kernel
theorem dX12_edge_127 : decode cX12_edge 127 = .ok (.iconst (-1), 1) := by decide +kernel
theorem dX12_edge_128 : decode cX12_edge 128 = .ok (.ireturn, 1) := by decide +kernel
theorem dX12_corner_0 : decode cX12_corner 0 = .ok (.aload_n 0, 1) := by decide +kernel
theorem dX12_corner_1 : decode cX12_corner 1 = .ok (.iload_n 1, 1) := by decide +kernel
theorem dX12_corner_2 : decode cX12_corner 2 = .ok (.invokevirtual 278, 3) := by decide +kernel
theorem dX12_corner_5 : decode cX12_corner 5 = .ok (.ifCond .eq 25, 3) := by decide +kernel
theorem dX12_corner_8 : decode cX12_corner 8 = .ok (.iload_n 2, 1) := by decide +kernel
theorem dX12_corner_9 : decode cX12_corner 9 = .ok (.i2l, 1) := by decide +kernel
theorem dX12_corner_10 : decode cX12_corner 10 = .ok (.lconst 0, 1) := by decide +kernel
theorem dX12_corner_11 : decode cX12_corner 11 = .ok (.ldc2_w 351, 3) := by decide +kernel
theorem dX12_corner_14 : decode cX12_corner 14 = .ok (.invokestatic 143, 3) := by decide +kernel
theorem dX12_corner_17 : decode cX12_corner 17 = .ok (.ifCond .eq 13, 3) := by decide +kernel
theorem dX12_corner_20 : decode cX12_corner 20 = .ok (.iload_n 3, 1) := by decide +kernel
theorem dX12_corner_21 : decode cX12_corner 21 = .ok (.i2l, 1) := by decide +kernel
theorem dX12_corner_22 : decode cX12_corner 22 = .ok (.lconst 0, 1) := by decide +kernel
theorem dX12_corner_23 : decode cX12_corner 23 = .ok (.lconst 1, 1) := by decide +kernel
theorem dX12_corner_24 : decode cX12_corner 24 = .ok (.invokestatic 143, 3) := by decide +kernel
theorem dX12_corner_27 : decode cX12_corner 27 = .ok (.ifCond .ne 5, 3) := by decide +kernel
theorem dX12_corner_30 : decode cX12_corner 30 = .ok (.iconst (-1), 1) := by decide +kernel
theorem dX12_corner_31 : decode cX12_corner 31 = .ok (.ireturn, 1) := by decide +kernel
theorem dX12_corner_32 : decode cX12_corner 32 = .ok (.aload_n 0, 1) := by decide +kernel
theorem dX12_corner_33 : decode cX12_corner 33 = .ok (.getfield 54, 3) := by decide +kernel
theorem dX12_corner_36 : decode cX12_corner 36 = .ok (.iconst 4, 1) := by decide +kernel
theorem dX12_corner_37 : decode cX12_corner 37 = .ok (.iload_n 1, 1) := by decide +kernel
theorem dX12_corner_38 : decode cX12_corner 38 = .ok (.imul, 1) := by decide +kernel
theorem dX12_corner_39 : decode cX12_corner 39 = .ok (.iload_n 2, 1) := by decide +kernel
theorem dX12_corner_40 : decode cX12_corner 40 = .ok (.iadd, 1) := by decide +kernel
theorem dX12_corner_41 : decode cX12_corner 41 = .ok (.iaload, 1) := by decide +kernel
theorem dX12_corner_42 : decode cX12_corner 42 = .ok (.istore 4, 2) := by decide +kernel
theorem dX12_corner_44 : decode cX12_corner 44 = .ok (.iload_n 3, 1) := by decide +kernel
theorem dX12_corner_45 : decode cX12_corner 45 = .ok (.ifCond .ne 8, 3) := by decide +kernel
theorem dX12_corner_48 : decode cX12_corner 48 = .ok (.iload 4, 2) := by decide +kernel
theorem dX12_corner_50 : decode cX12_corner 50 = .ok (.goto 10, 3) := by decide +kernel
theorem dX12_corner_53 : decode cX12_corner 53 = .ok (.aload_n 0, 1) := by decide +kernel
theorem dX12_corner_54 : decode cX12_corner 54 = .ok (.getfield 57, 3) := by decide +kernel
theorem dX12_corner_57 : decode cX12_corner 57 = .ok (.iload 4, 2) := by decide +kernel
theorem dX12_corner_59 : decode cX12_corner 59 = .ok (.iaload, 1) := by decide +kernel
theorem dX12_corner_60 : decode cX12_corner 60 = .ok (.ireturn, 1) := by decide +kernel
theorem dX12_cutsAt_0 : decode cX12_cutsAt 0 = .ok (.iconst 0, 1) := by decide +kernel
theorem dX12_cutsAt_1 : decode cX12_cutsAt 1 = .ok (.istore_n 2, 1) := by decide +kernel
theorem dX12_cutsAt_2 : decode cX12_cutsAt 2 = .ok (.iconst 0, 1) := by decide +kernel
theorem dX12_cutsAt_3 : decode cX12_cutsAt 3 = .ok (.istore_n 3, 1) := by decide +kernel
theorem dX12_cutsAt_4 : decode cX12_cutsAt 4 = .ok (.iload_n 3, 1) := by decide +kernel
theorem dX12_cutsAt_5 : decode cX12_cutsAt 5 = .ok (.aload_n 0, 1) := by decide +kernel
theorem dX12_cutsAt_6 : decode cX12_cutsAt 6 = .ok (.getfield 245, 3) := by decide +kernel
theorem dX12_cutsAt_9 : decode cX12_cutsAt 9 = .ok (.if_icmp .ge 69, 3) := by decide +kernel
theorem dX12_cutsAt_12 : decode cX12_cutsAt 12 = .ok (.aload_n 0, 1) := by decide +kernel
theorem dX12_cutsAt_13 : decode cX12_cutsAt 13 = .ok (.getfield 51, 3) := by decide +kernel
theorem dX12_cutsAt_16 : decode cX12_cutsAt 16 = .ok (.iload_n 3, 1) := by decide +kernel
theorem dX12_cutsAt_17 : decode cX12_cutsAt 17 = .ok (.iaload, 1) := by decide +kernel
theorem dX12_cutsAt_18 : decode cX12_cutsAt 18 = .ok (.istore 4, 2) := by decide +kernel
theorem dX12_cutsAt_20 : decode cX12_cutsAt 20 = .ok (.iload_n 2, 1) := by decide +kernel
theorem dX12_cutsAt_21 : decode cX12_cutsAt 21 = .ok (.aload_n 0, 1) := by decide +kernel
theorem dX12_cutsAt_22 : decode cX12_cutsAt 22 = .ok (.iload_n 3, 1) := by decide +kernel
theorem dX12_cutsAt_23 : decode cX12_cutsAt 23 = .ok (.invokevirtual 257, 3) := by decide +kernel
theorem dX12_cutsAt_26 : decode cX12_cutsAt 26 = .ok (.ifCond .ne 40, 3) := by decide +kernel
theorem dX12_cutsAt_29 : decode cX12_cutsAt 29 = .ok (.aload_n 0, 1) := by decide +kernel
theorem dX12_cutsAt_30 : decode cX12_cutsAt 30 = .ok (.getfield 54, 3) := by decide +kernel
theorem dX12_cutsAt_33 : decode cX12_cutsAt 33 = .ok (.iload 4, 2) := by decide +kernel
theorem dX12_cutsAt_35 : decode cX12_cutsAt 35 = .ok (.iaload, 1) := by decide +kernel
theorem dX12_cutsAt_36 : decode cX12_cutsAt 36 = .ok (.iload_n 1, 1) := by decide +kernel
theorem dX12_cutsAt_37 : decode cX12_cutsAt 37 = .ok (.if_icmp .eq 25, 3) := by decide +kernel
theorem dX12_cutsAt_40 : decode cX12_cutsAt 40 = .ok (.aload_n 0, 1) := by decide +kernel
theorem dX12_cutsAt_41 : decode cX12_cutsAt 41 = .ok (.getfield 54, 3) := by decide +kernel
theorem dX12_cutsAt_44 : decode cX12_cutsAt 44 = .ok (.iload 4, 2) := by decide +kernel
theorem dX12_cutsAt_46 : decode cX12_cutsAt 46 = .ok (.iconst 4, 1) := by decide +kernel
theorem dX12_cutsAt_47 : decode cX12_cutsAt 47 = .ok (.idiv, 1) := by decide +kernel
theorem dX12_cutsAt_48 : decode cX12_cutsAt 48 = .ok (.iconst 4, 1) := by decide +kernel
theorem dX12_cutsAt_49 : decode cX12_cutsAt 49 = .ok (.imul, 1) := by decide +kernel
theorem dX12_cutsAt_50 : decode cX12_cutsAt 50 = .ok (.iload 4, 2) := by decide +kernel
theorem dX12_cutsAt_52 : decode cX12_cutsAt 52 = .ok (.iconst 3, 1) := by decide +kernel
theorem dX12_cutsAt_53 : decode cX12_cutsAt 53 = .ok (.iadd, 1) := by decide +kernel
theorem dX12_cutsAt_54 : decode cX12_cutsAt 54 = .ok (.iconst 4, 1) := by decide +kernel
theorem dX12_cutsAt_55 : decode cX12_cutsAt 55 = .ok (.irem, 1) := by decide +kernel
theorem dX12_cutsAt_56 : decode cX12_cutsAt 56 = .ok (.iadd, 1) := by decide +kernel
theorem dX12_cutsAt_57 : decode cX12_cutsAt 57 = .ok (.iaload, 1) := by decide +kernel
theorem dX12_cutsAt_58 : decode cX12_cutsAt 58 = .ok (.iload_n 1, 1) := by decide +kernel
theorem dX12_cutsAt_59 : decode cX12_cutsAt 59 = .ok (.if_icmp .ne 7, 3) := by decide +kernel
theorem dX12_cutsAt_62 : decode cX12_cutsAt 62 = .ok (.iconst 1, 1) := by decide +kernel
theorem dX12_cutsAt_63 : decode cX12_cutsAt 63 = .ok (.goto 4, 3) := by decide +kernel
theorem dX12_cutsAt_66 : decode cX12_cutsAt 66 = .ok (.iconst 0, 1) := by decide +kernel
theorem dX12_cutsAt_67 : decode cX12_cutsAt 67 = .ok (.invokestatic 185, 3) := by decide +kernel
theorem dX12_cutsAt_70 : decode cX12_cutsAt 70 = .ok (.iadd, 1) := by decide +kernel
theorem dX12_cutsAt_71 : decode cX12_cutsAt 71 = .ok (.istore_n 2, 1) := by decide +kernel
theorem dX12_cutsAt_72 : decode cX12_cutsAt 72 = .ok (.iinc 3 1, 3) := by decide +kernel
theorem dX12_cutsAt_75 : decode cX12_cutsAt 75 = .ok (.goto (-71), 3) := by decide +kernel
theorem dX12_cutsAt_78 : decode cX12_cutsAt 78 = .ok (.iload_n 2, 1) := by decide +kernel
theorem dX12_cutsAt_79 : decode cX12_cutsAt 79 = .ok (.ireturn, 1) := by decide +kernel
theorem dX12_vertex_0 : decode cX12_vertex 0 = .ok (.iload_n 1, 1) := by decide +kernel
theorem dX12_vertex_1 : decode cX12_vertex 1 = .ok (.i2l, 1) := by decide +kernel
theorem dX12_vertex_2 : decode cX12_vertex 2 = .ok (.lconst 0, 1) := by decide +kernel
theorem dX12_vertex_3 : decode cX12_vertex 3 = .ok (.aload_n 0, 1) := by decide +kernel
theorem dX12_vertex_4 : decode cX12_vertex 4 = .ok (.getfield 251, 3) := by decide +kernel
theorem dX12_vertex_7 : decode cX12_vertex 7 = .ok (.iconst 1, 1) := by decide +kernel
theorem dX12_vertex_8 : decode cX12_vertex 8 = .ok (.isub, 1) := by decide +kernel
theorem dX12_vertex_9 : decode cX12_vertex 9 = .ok (.i2l, 1) := by decide +kernel
theorem dX12_vertex_10 : decode cX12_vertex 10 = .ok (.invokestatic 143, 3) := by decide +kernel
theorem dX12_vertex_13 : decode cX12_vertex 13 = .ok (.ifCond .eq 15, 3) := by decide +kernel
theorem dX12_vertex_16 : decode cX12_vertex 16 = .ok (.iload_n 2, 1) := by decide +kernel
theorem dX12_vertex_17 : decode cX12_vertex 17 = .ok (.i2l, 1) := by decide +kernel
theorem dX12_vertex_18 : decode cX12_vertex 18 = .ok (.lconst 0, 1) := by decide +kernel
theorem dX12_vertex_19 : decode cX12_vertex 19 = .ok (.ldc2_w 334, 3) := by decide +kernel
theorem dX12_vertex_22 : decode cX12_vertex 22 = .ok (.invokestatic 143, 3) := by decide +kernel
theorem dX12_vertex_25 : decode cX12_vertex 25 = .ok (.ifCond .ne 5, 3) := by decide +kernel
theorem dX12_vertex_28 : decode cX12_vertex 28 = .ok (.iconst (-1), 1) := by decide +kernel
theorem dX12_vertex_29 : decode cX12_vertex 29 = .ok (.ireturn, 1) := by decide +kernel
theorem dX12_vertex_30 : decode cX12_vertex 30 = .ok (.iload_n 2, 1) := by decide +kernel
theorem dX12_vertex_31 : decode cX12_vertex 31 = .ok (.ifCond .ne 12, 3) := by decide +kernel
theorem dX12_vertex_34 : decode cX12_vertex 34 = .ok (.aload_n 0, 1) := by decide +kernel
theorem dX12_vertex_35 : decode cX12_vertex 35 = .ok (.getfield 57, 3) := by decide +kernel
theorem dX12_vertex_38 : decode cX12_vertex 38 = .ok (.iload_n 1, 1) := by decide +kernel
theorem dX12_vertex_39 : decode cX12_vertex 39 = .ok (.iaload, 1) := by decide +kernel
theorem dX12_vertex_40 : decode cX12_vertex 40 = .ok (.goto 24, 3) := by decide +kernel
theorem dX12_vertex_43 : decode cX12_vertex 43 = .ok (.iload_n 2, 1) := by decide +kernel
theorem dX12_vertex_44 : decode cX12_vertex 44 = .ok (.iconst 1, 1) := by decide +kernel
theorem dX12_vertex_45 : decode cX12_vertex 45 = .ok (.if_icmp .ne 14, 3) := by decide +kernel
theorem dX12_vertex_48 : decode cX12_vertex 48 = .ok (.iconst 4, 1) := by decide +kernel
theorem dX12_vertex_49 : decode cX12_vertex 49 = .ok (.aload_n 0, 1) := by decide +kernel
theorem dX12_vertex_50 : decode cX12_vertex 50 = .ok (.getfield 57, 3) := by decide +kernel
theorem dX12_vertex_53 : decode cX12_vertex 53 = .ok (.iload_n 1, 1) := by decide +kernel
theorem dX12_vertex_54 : decode cX12_vertex 54 = .ok (.iaload, 1) := by decide +kernel
theorem dX12_vertex_55 : decode cX12_vertex 55 = .ok (.isub, 1) := by decide +kernel
theorem dX12_vertex_56 : decode cX12_vertex 56 = .ok (.goto 8, 3) := by decide +kernel
theorem dX12_vertex_59 : decode cX12_vertex 59 = .ok (.aload_n 0, 1) := by decide +kernel
theorem dX12_vertex_60 : decode cX12_vertex 60 = .ok (.iload_n 1, 1) := by decide +kernel
theorem dX12_vertex_61 : decode cX12_vertex 61 = .ok (.invokevirtual 356, 3) := by decide +kernel
theorem dX12_vertex_64 : decode cX12_vertex 64 = .ok (.ireturn, 1) := by decide +kernel
theorem dX12_place_0 : decode cX12_place 0 = .ok (.aload_n 0, 1) := by decide +kernel
theorem dX12_place_1 : decode cX12_place 1 = .ok (.iload_n 1, 1) := by decide +kernel
theorem dX12_place_2 : decode cX12_place 2 = .ok (.invokevirtual 278, 3) := by decide +kernel
theorem dX12_place_5 : decode cX12_place 5 = .ok (.ifCond .eq 15, 3) := by decide +kernel
theorem dX12_place_8 : decode cX12_place 8 = .ok (.iload_n 2, 1) := by decide +kernel
theorem dX12_place_9 : decode cX12_place 9 = .ok (.i2l, 1) := by decide +kernel
theorem dX12_place_10 : decode cX12_place 10 = .ok (.lconst 0, 1) := by decide +kernel
theorem dX12_place_11 : decode cX12_place 11 = .ok (.ldc2_w 334, 3) := by decide +kernel
theorem dX12_place_14 : decode cX12_place 14 = .ok (.invokestatic 143, 3) := by decide +kernel
theorem dX12_place_17 : decode cX12_place 17 = .ok (.ifCond .ne 7, 3) := by decide +kernel
theorem dX12_place_20 : decode cX12_place 20 = .ok (.sipush (-1000), 3) := by decide +kernel
theorem dX12_place_23 : decode cX12_place 23 = .ok (.ireturn, 1) := by decide +kernel
theorem dX12_place_24 : decode cX12_place 24 = .ok (.aload_n 0, 1) := by decide +kernel
theorem dX12_place_25 : decode cX12_place 25 = .ok (.invokevirtual 304, 3) := by decide +kernel
theorem dX12_place_28 : decode cX12_place 28 = .ok (.pop, 1) := by decide +kernel
theorem dX12_place_29 : decode cX12_place 29 = .ok (.aload_n 0, 1) := by decide +kernel
theorem dX12_place_30 : decode cX12_place 30 = .ok (.getfield 60, 3) := by decide +kernel
theorem dX12_place_33 : decode cX12_place 33 = .ok (.iload_n 1, 1) := by decide +kernel
theorem dX12_place_34 : decode cX12_place 34 = .ok (.baload, 1) := by decide +kernel
theorem dX12_place_35 : decode cX12_place 35 = .ok (.ifCond .ne 9, 3) := by decide +kernel
theorem dX12_place_38 : decode cX12_place 38 = .ok (.sipush (-1000), 3) := by decide +kernel
theorem dX12_place_41 : decode cX12_place 41 = .ok (.goto 36, 3) := by decide +kernel
theorem dX12_place_44 : decode cX12_place 44 = .ok (.iload_n 2, 1) := by decide +kernel
theorem dX12_place_45 : decode cX12_place 45 = .ok (.ifCond .ne 12, 3) := by decide +kernel
theorem dX12_place_48 : decode cX12_place 48 = .ok (.aload_n 0, 1) := by decide +kernel
theorem dX12_place_49 : decode cX12_place 49 = .ok (.getfield 75, 3) := by decide +kernel
theorem dX12_place_52 : decode cX12_place 52 = .ok (.iload_n 1, 1) := by decide +kernel
theorem dX12_place_53 : decode cX12_place 53 = .ok (.iaload, 1) := by decide +kernel
theorem dX12_place_54 : decode cX12_place 54 = .ok (.goto 23, 3) := by decide +kernel
theorem dX12_place_57 : decode cX12_place 57 = .ok (.iload_n 2, 1) := by decide +kernel
theorem dX12_place_58 : decode cX12_place 58 = .ok (.iconst 1, 1) := by decide +kernel
theorem dX12_place_59 : decode cX12_place 59 = .ok (.if_icmp .ne 12, 3) := by decide +kernel
theorem dX12_place_62 : decode cX12_place 62 = .ok (.aload_n 0, 1) := by decide +kernel
theorem dX12_place_63 : decode cX12_place 63 = .ok (.getfield 78, 3) := by decide +kernel
theorem dX12_place_66 : decode cX12_place 66 = .ok (.iload_n 1, 1) := by decide +kernel
theorem dX12_place_67 : decode cX12_place 67 = .ok (.iaload, 1) := by decide +kernel
theorem dX12_place_68 : decode cX12_place 68 = .ok (.goto 9, 3) := by decide +kernel
theorem dX12_place_71 : decode cX12_place 71 = .ok (.aload_n 0, 1) := by decide +kernel
theorem dX12_place_72 : decode cX12_place 72 = .ok (.getfield 81, 3) := by decide +kernel
theorem dX12_place_75 : decode cX12_place 75 = .ok (.iload_n 1, 1) := by decide +kernel
theorem dX12_place_76 : decode cX12_place 76 = .ok (.iaload, 1) := by decide +kernel
theorem dX12_place_77 : decode cX12_place 77 = .ok (.ireturn, 1) := by decide +kernel
theorem dX12_over_0 : decode cX12_over 0 = .ok (.iload_n 1, 1) := by decide +kernel
theorem dX12_over_1 : decode cX12_over 1 = .ok (.iconst (-1), 1) := by decide +kernel
theorem dX12_over_2 : decode cX12_over 2 = .ok (.if_icmp .ge 5, 3) := by decide +kernel
theorem dX12_over_5 : decode cX12_over 5 = .ok (.iconst (-1), 1) := by decide +kernel
theorem dX12_over_6 : decode cX12_over 6 = .ok (.ireturn, 1) := by decide +kernel
theorem dX12_over_7 : decode cX12_over 7 = .ok (.aload_n 0, 1) := by decide +kernel
theorem dX12_over_8 : decode cX12_over 8 = .ok (.invokevirtual 304, 3) := by decide +kernel
theorem dX12_over_11 : decode cX12_over 11 = .ok (.pop, 1) := by decide +kernel
theorem dX12_over_12 : decode cX12_over 12 = .ok (.iconst 0, 1) := by decide +kernel
theorem dX12_over_13 : decode cX12_over 13 = .ok (.istore_n 2, 1) := by decide +kernel
theorem dX12_over_14 : decode cX12_over 14 = .ok (.iconst 0, 1) := by decide +kernel
theorem dX12_over_15 : decode cX12_over 15 = .ok (.istore_n 3, 1) := by decide +kernel
theorem dX12_over_16 : decode cX12_over 16 = .ok (.iload_n 3, 1) := by decide +kernel
theorem dX12_over_17 : decode cX12_over 17 = .ok (.aload_n 0, 1) := by decide +kernel
theorem dX12_over_18 : decode cX12_over 18 = .ok (.getfield 205, 3) := by decide +kernel
theorem dX12_over_21 : decode cX12_over 21 = .ok (.if_icmp .ge 58, 3) := by decide +kernel
theorem dX12_over_24 : decode cX12_over 24 = .ok (.iload_n 3, 1) := by decide +kernel
theorem dX12_over_25 : decode cX12_over 25 = .ok (.iconst 1, 1) := by decide +kernel
theorem dX12_over_26 : decode cX12_over 26 = .ok (.iadd, 1) := by decide +kernel
theorem dX12_over_27 : decode cX12_over 27 = .ok (.istore 4, 2) := by decide +kernel
theorem dX12_over_29 : decode cX12_over 29 = .ok (.iload 4, 2) := by decide +kernel
theorem dX12_over_31 : decode cX12_over 31 = .ok (.aload_n 0, 1) := by decide +kernel
theorem dX12_over_32 : decode cX12_over 32 = .ok (.getfield 205, 3) := by decide +kernel
theorem dX12_over_35 : decode cX12_over 35 = .ok (.if_icmp .ge 38, 3) := by decide +kernel
theorem dX12_over_38 : decode cX12_over 38 = .ok (.aload_n 0, 1) := by decide +kernel
theorem dX12_over_39 : decode cX12_over 39 = .ok (.iload_n 3, 1) := by decide +kernel
theorem dX12_over_40 : decode cX12_over 40 = .ok (.iload 4, 2) := by decide +kernel
theorem dX12_over_42 : decode cX12_over 42 = .ok (.invokevirtual 307, 3) := by decide +kernel
theorem dX12_over_45 : decode cX12_over 45 = .ok (.ifCond .ne 6, 3) := by decide +kernel
theorem dX12_over_48 : decode cX12_over 48 = .ok (.goto 19, 3) := by decide +kernel
theorem dX12_over_51 : decode cX12_over 51 = .ok (.iload_n 2, 1) := by decide +kernel
theorem dX12_over_52 : decode cX12_over 52 = .ok (.iload_n 1, 1) := by decide +kernel
theorem dX12_over_53 : decode cX12_over 53 = .ok (.if_icmp .ne 11, 3) := by decide +kernel
theorem dX12_over_56 : decode cX12_over 56 = .ok (.bipush 100, 2) := by decide +kernel
theorem dX12_over_58 : decode cX12_over 58 = .ok (.iload_n 3, 1) := by decide +kernel
theorem dX12_over_59 : decode cX12_over 59 = .ok (.imul, 1) := by decide +kernel
theorem dX12_over_60 : decode cX12_over 60 = .ok (.iload 4, 2) := by decide +kernel
theorem dX12_over_62 : decode cX12_over 62 = .ok (.iadd, 1) := by decide +kernel
theorem dX12_over_63 : decode cX12_over 63 = .ok (.ireturn, 1) := by decide +kernel
theorem dX12_over_64 : decode cX12_over 64 = .ok (.iinc 2 1, 3) := by decide +kernel
theorem dX12_over_67 : decode cX12_over 67 = .ok (.iinc 4 1, 3) := by decide +kernel
theorem dX12_over_70 : decode cX12_over 70 = .ok (.goto (-41), 3) := by decide +kernel
theorem dX12_over_73 : decode cX12_over 73 = .ok (.iinc 3 1, 3) := by decide +kernel
theorem dX12_over_76 : decode cX12_over 76 = .ok (.goto (-60), 3) := by decide +kernel
theorem dX12_over_79 : decode cX12_over 79 = .ok (.iload_n 1, 1) := by decide +kernel
theorem dX12_over_80 : decode cX12_over 80 = .ok (.iconst (-1), 1) := by decide +kernel
theorem dX12_over_81 : decode cX12_over 81 = .ok (.if_icmp .ne 7, 3) := by decide +kernel
theorem dX12_over_84 : decode cX12_over 84 = .ok (.iload_n 2, 1) := by decide +kernel
theorem dX12_over_85 : decode cX12_over 85 = .ok (.goto 5, 3) := by decide +kernel
theorem dX12_over_88 : decode cX12_over 88 = .ok (.bipush (-2), 2) := by decide +kernel
theorem dX12_over_90 : decode cX12_over 90 = .ok (.ireturn, 1) := by decide +kernel
theorem dX12_box_0 : decode cX12_box 0 = .ok (.aload_n 0, 1) := by decide +kernel
theorem dX12_box_1 : decode cX12_box 1 = .ok (.getfield 205, 3) := by decide +kernel
theorem dX12_box_4 : decode cX12_box 4 = .ok (.ifCond .eq 15, 3) := by decide +kernel
theorem dX12_box_7 : decode cX12_box 7 = .ok (.iload_n 1, 1) := by decide +kernel
theorem dX12_box_8 : decode cX12_box 8 = .ok (.i2l, 1) := by decide +kernel
theorem dX12_box_9 : decode cX12_box 9 = .ok (.lconst 0, 1) := by decide +kernel
theorem dX12_box_10 : decode cX12_box 10 = .ok (.ldc2_w 351, 3) := by decide +kernel
theorem dX12_box_13 : decode cX12_box 13 = .ok (.invokestatic 143, 3) := by decide +kernel
theorem dX12_box_16 : decode cX12_box 16 = .ok (.ifCond .ne 7, 3) := by decide +kernel
theorem dX12_box_19 : decode cX12_box 19 = .ok (.sipush (-1000), 3) := by decide +kernel
theorem dX12_box_22 : decode cX12_box 22 = .ok (.ireturn, 1) := by decide +kernel
theorem dX12_box_23 : decode cX12_box 23 = .ok (.aload_n 0, 1) := by decide +kernel
theorem dX12_box_24 : decode cX12_box 24 = .ok (.invokevirtual 304, 3) := by decide +kernel
theorem dX12_box_27 : decode cX12_box 27 = .ok (.pop, 1) := by decide +kernel
theorem dX12_box_28 : decode cX12_box 28 = .ok (.iconst 0, 1) := by decide +kernel
theorem dX12_box_29 : decode cX12_box 29 = .ok (.istore_n 2, 1) := by decide +kernel
theorem dX12_box_30 : decode cX12_box 30 = .ok (.iconst 0, 1) := by decide +kernel
theorem dX12_box_31 : decode cX12_box 31 = .ok (.istore_n 3, 1) := by decide +kernel
theorem dX12_box_32 : decode cX12_box 32 = .ok (.iload_n 3, 1) := by decide +kernel
theorem dX12_box_33 : decode cX12_box 33 = .ok (.aload_n 0, 1) := by decide +kernel
theorem dX12_box_34 : decode cX12_box 34 = .ok (.getfield 205, 3) := by decide +kernel
theorem dX12_box_37 : decode cX12_box 37 = .ok (.if_icmp .ge 62, 3) := by decide +kernel
theorem dX12_box_40 : decode cX12_box 40 = .ok (.iload_n 1, 1) := by decide +kernel
theorem dX12_box_41 : decode cX12_box 41 = .ok (.iconst 2, 1) := by decide +kernel
theorem dX12_box_42 : decode cX12_box 42 = .ok (.irem, 1) := by decide +kernel
theorem dX12_box_43 : decode cX12_box 43 = .ok (.ifCond .ne 12, 3) := by decide +kernel
theorem dX12_box_46 : decode cX12_box 46 = .ok (.aload_n 0, 1) := by decide +kernel
theorem dX12_box_47 : decode cX12_box 47 = .ok (.getfield 75, 3) := by decide +kernel
theorem dX12_box_50 : decode cX12_box 50 = .ok (.iload_n 3, 1) := by decide +kernel
theorem dX12_box_51 : decode cX12_box 51 = .ok (.iaload, 1) := by decide +kernel
theorem dX12_box_52 : decode cX12_box 52 = .ok (.goto 9, 3) := by decide +kernel
theorem dX12_box_55 : decode cX12_box 55 = .ok (.aload_n 0, 1) := by decide +kernel
theorem dX12_box_56 : decode cX12_box 56 = .ok (.getfield 78, 3) := by decide +kernel
theorem dX12_box_59 : decode cX12_box 59 = .ok (.iload_n 3, 1) := by decide +kernel
theorem dX12_box_60 : decode cX12_box 60 = .ok (.iaload, 1) := by decide +kernel
theorem dX12_box_61 : decode cX12_box 61 = .ok (.istore 4, 2) := by decide +kernel
theorem dX12_box_63 : decode cX12_box 63 = .ok (.aload_n 0, 1) := by decide +kernel
theorem dX12_box_64 : decode cX12_box 64 = .ok (.getfield 60, 3) := by decide +kernel
theorem dX12_box_67 : decode cX12_box 67 = .ok (.iload_n 3, 1) := by decide +kernel
theorem dX12_box_68 : decode cX12_box 68 = .ok (.baload, 1) := by decide +kernel
theorem dX12_box_69 : decode cX12_box 69 = .ok (.ifCond .eq 24, 3) := by decide +kernel
theorem dX12_box_72 : decode cX12_box 72 = .ok (.iload_n 1, 1) := by decide +kernel
theorem dX12_box_73 : decode cX12_box 73 = .ok (.iconst 2, 1) := by decide +kernel
theorem dX12_box_74 : decode cX12_box 74 = .ok (.if_icmp .ge 12, 3) := by decide +kernel
theorem dX12_box_77 : decode cX12_box 77 = .ok (.iload_n 2, 1) := by decide +kernel
theorem dX12_box_78 : decode cX12_box 78 = .ok (.iload 4, 2) := by decide +kernel
theorem dX12_box_80 : decode cX12_box 80 = .ok (.invokestatic 158, 3) := by decide +kernel
theorem dX12_box_83 : decode cX12_box 83 = .ok (.goto 9, 3) := by decide +kernel
theorem dX12_box_86 : decode cX12_box 86 = .ok (.iload_n 2, 1) := by decide +kernel
theorem dX12_box_87 : decode cX12_box 87 = .ok (.iload 4, 2) := by decide +kernel
theorem dX12_box_89 : decode cX12_box 89 = .ok (.invokestatic 292, 3) := by decide +kernel
theorem dX12_box_92 : decode cX12_box 92 = .ok (.istore_n 2, 1) := by decide +kernel
theorem dX12_box_93 : decode cX12_box 93 = .ok (.iinc 3 1, 3) := by decide +kernel
theorem dX12_box_96 : decode cX12_box 96 = .ok (.goto (-64), 3) := by decide +kernel
theorem dX12_box_99 : decode cX12_box 99 = .ok (.iload_n 2, 1) := by decide +kernel
theorem dX12_box_100 : decode cX12_box 100 = .ok (.ireturn, 1) := by decide +kernel
theorem dX12_part_0 : decode cX12_part 0 = .ok (.aload_n 0, 1) := by decide +kernel
theorem dX12_part_1 : decode cX12_part 1 = .ok (.iload_n 1, 1) := by decide +kernel
theorem dX12_part_2 : decode cX12_part 2 = .ok (.invokevirtual 263, 3) := by decide +kernel
theorem dX12_part_5 : decode cX12_part 5 = .ok (.ifCond .ne 5, 3) := by decide +kernel
theorem dX12_part_8 : decode cX12_part 8 = .ok (.iconst (-1), 1) := by decide +kernel
theorem dX12_part_9 : decode cX12_part 9 = .ok (.ireturn, 1) := by decide +kernel
theorem dX12_part_10 : decode cX12_part 10 = .ok (.aload_n 0, 1) := by decide +kernel
theorem dX12_part_11 : decode cX12_part 11 = .ok (.iload_n 1, 1) := by decide +kernel
theorem dX12_part_12 : decode cX12_part 12 = .ok (.invokevirtual 257, 3) := by decide +kernel
theorem dX12_part_15 : decode cX12_part 15 = .ok (.ifCond .ne 6, 3) := by decide +kernel
theorem dX12_part_18 : decode cX12_part 18 = .ok (.bipush (-2), 2) := by decide +kernel
theorem dX12_part_20 : decode cX12_part 20 = .ok (.ireturn, 1) := by decide +kernel
theorem dX12_part_21 : decode cX12_part 21 = .ok (.aload_n 0, 1) := by decide +kernel
theorem dX12_part_22 : decode cX12_part 22 = .ok (.aload_n 0, 1) := by decide +kernel
theorem dX12_part_23 : decode cX12_part 23 = .ok (.getfield 9, 3) := by decide +kernel
theorem dX12_part_26 : decode cX12_part 26 = .ok (.bipush 22, 2) := by decide +kernel
theorem dX12_part_28 : decode cX12_part 28 = .ok (.iaload, 1) := by decide +kernel
theorem dX12_part_29 : decode cX12_part 29 = .ok (.invokevirtual 260, 3) := by decide +kernel
theorem dX12_part_32 : decode cX12_part 32 = .ok (.pop, 1) := by decide +kernel
theorem dX12_part_33 : decode cX12_part 33 = .ok (.iconst 0, 1) := by decide +kernel
theorem dX12_part_34 : decode cX12_part 34 = .ok (.istore_n 2, 1) := by decide +kernel
theorem dX12_part_35 : decode cX12_part 35 = .ok (.iconst 0, 1) := by decide +kernel
theorem dX12_part_36 : decode cX12_part 36 = .ok (.istore_n 3, 1) := by decide +kernel
theorem dX12_part_37 : decode cX12_part 37 = .ok (.iload_n 3, 1) := by decide +kernel
theorem dX12_part_38 : decode cX12_part 38 = .ok (.aload_n 0, 1) := by decide +kernel
theorem dX12_part_39 : decode cX12_part 39 = .ok (.getfield 205, 3) := by decide +kernel
theorem dX12_part_42 : decode cX12_part 42 = .ok (.if_icmp .ge 28, 3) := by decide +kernel
theorem dX12_part_45 : decode cX12_part 45 = .ok (.iload_n 2, 1) := by decide +kernel
theorem dX12_part_46 : decode cX12_part 46 = .ok (.aload_n 0, 1) := by decide +kernel
theorem dX12_part_47 : decode cX12_part 47 = .ok (.getfield 60, 3) := by decide +kernel
theorem dX12_part_50 : decode cX12_part 50 = .ok (.iload_n 3, 1) := by decide +kernel
theorem dX12_part_51 : decode cX12_part 51 = .ok (.baload, 1) := by decide +kernel
theorem dX12_part_52 : decode cX12_part 52 = .ok (.ifCond .eq 9, 3) := by decide +kernel
theorem dX12_part_55 : decode cX12_part 55 = .ok (.iconst 1, 1) := by decide +kernel
theorem dX12_part_56 : decode cX12_part 56 = .ok (.iload_n 3, 1) := by decide +kernel
theorem dX12_part_57 : decode cX12_part 57 = .ok (.ishl, 1) := by decide +kernel
theorem dX12_part_58 : decode cX12_part 58 = .ok (.goto 4, 3) := by decide +kernel
theorem dX12_part_61 : decode cX12_part 61 = .ok (.iconst 0, 1) := by decide +kernel
theorem dX12_part_62 : decode cX12_part 62 = .ok (.ior, 1) := by decide +kernel
theorem dX12_part_63 : decode cX12_part 63 = .ok (.istore_n 2, 1) := by decide +kernel
theorem dX12_part_64 : decode cX12_part 64 = .ok (.iinc 3 1, 3) := by decide +kernel
theorem dX12_part_67 : decode cX12_part 67 = .ok (.goto (-30), 3) := by decide +kernel
theorem dX12_part_70 : decode cX12_part 70 = .ok (.aload_n 0, 1) := by decide +kernel
theorem dX12_part_71 : decode cX12_part 71 = .ok (.getfield 9, 3) := by decide +kernel
theorem dX12_part_74 : decode cX12_part 74 = .ok (.bipush 23, 2) := by decide +kernel
theorem dX12_part_76 : decode cX12_part 76 = .ok (.iload_n 1, 1) := by decide +kernel
theorem dX12_part_77 : decode cX12_part 77 = .ok (.iadd, 1) := by decide +kernel
theorem dX12_part_78 : decode cX12_part 78 = .ok (.iconst 0, 1) := by decide +kernel
theorem dX12_part_79 : decode cX12_part 79 = .ok (.iastore, 1) := by decide +kernel
theorem dX12_part_80 : decode cX12_part 80 = .ok (.aload_n 0, 1) := by decide +kernel
theorem dX12_part_81 : decode cX12_part 81 = .ok (.aload_n 0, 1) := by decide +kernel
theorem dX12_part_82 : decode cX12_part 82 = .ok (.getfield 9, 3) := by decide +kernel
theorem dX12_part_85 : decode cX12_part 85 = .ok (.bipush 22, 2) := by decide +kernel
theorem dX12_part_87 : decode cX12_part 87 = .ok (.iaload, 1) := by decide +kernel
theorem dX12_part_88 : decode cX12_part 88 = .ok (.invokevirtual 260, 3) := by decide +kernel
theorem dX12_part_91 : decode cX12_part 91 = .ok (.pop, 1) := by decide +kernel
theorem dX12_part_92 : decode cX12_part 92 = .ok (.aload_n 0, 1) := by decide +kernel
theorem dX12_part_93 : decode cX12_part 93 = .ok (.getfield 9, 3) := by decide +kernel
theorem dX12_part_96 : decode cX12_part 96 = .ok (.bipush 23, 2) := by decide +kernel
theorem dX12_part_98 : decode cX12_part 98 = .ok (.iload_n 1, 1) := by decide +kernel
theorem dX12_part_99 : decode cX12_part 99 = .ok (.iadd, 1) := by decide +kernel
theorem dX12_part_100 : decode cX12_part 100 = .ok (.iconst 1, 1) := by decide +kernel
theorem dX12_part_101 : decode cX12_part 101 = .ok (.iastore, 1) := by decide +kernel
theorem dX12_part_102 : decode cX12_part 102 = .ok (.iconst 0, 1) := by decide +kernel
theorem dX12_part_103 : decode cX12_part 103 = .ok (.istore_n 3, 1) := by decide +kernel
theorem dX12_part_104 : decode cX12_part 104 = .ok (.iload_n 3, 1) := by decide +kernel
theorem dX12_part_105 : decode cX12_part 105 = .ok (.aload_n 0, 1) := by decide +kernel
theorem dX12_part_106 : decode cX12_part 106 = .ok (.getfield 205, 3) := by decide +kernel
theorem dX12_part_109 : decode cX12_part 109 = .ok (.if_icmp .ge 30, 3) := by decide +kernel
theorem dX12_part_112 : decode cX12_part 112 = .ok (.iload_n 2, 1) := by decide +kernel
theorem dX12_part_113 : decode cX12_part 113 = .ok (.aload_n 0, 1) := by decide +kernel
theorem dX12_part_114 : decode cX12_part 114 = .ok (.getfield 60, 3) := by decide +kernel
theorem dX12_part_117 : decode cX12_part 117 = .ok (.iload_n 3, 1) := by decide +kernel
theorem dX12_part_118 : decode cX12_part 118 = .ok (.baload, 1) := by decide +kernel
theorem dX12_part_119 : decode cX12_part 119 = .ok (.ifCond .eq 11, 3) := by decide +kernel
theorem dX12_part_122 : decode cX12_part 122 = .ok (.iconst 1, 1) := by decide +kernel
theorem dX12_part_123 : decode cX12_part 123 = .ok (.iload_n 3, 1) := by decide +kernel
theorem dX12_part_124 : decode cX12_part 124 = .ok (.ishl, 1) := by decide +kernel
theorem dX12_part_125 : decode cX12_part 125 = .ok (.iconst (-1), 1) := by decide +kernel
theorem dX12_part_126 : decode cX12_part 126 = .ok (.ixor, 1) := by decide +kernel
theorem dX12_part_127 : decode cX12_part 127 = .ok (.goto 4, 3) := by decide +kernel
theorem dX12_part_130 : decode cX12_part 130 = .ok (.iconst (-1), 1) := by decide +kernel
theorem dX12_part_131 : decode cX12_part 131 = .ok (.iand, 1) := by decide +kernel
theorem dX12_part_132 : decode cX12_part 132 = .ok (.istore_n 2, 1) := by decide +kernel
theorem dX12_part_133 : decode cX12_part 133 = .ok (.iinc 3 1, 3) := by decide +kernel
theorem dX12_part_136 : decode cX12_part 136 = .ok (.goto (-32), 3) := by decide +kernel
theorem dX12_part_139 : decode cX12_part 139 = .ok (.iload_n 2, 1) := by decide +kernel
theorem dX12_part_140 : decode cX12_part 140 = .ok (.ireturn, 1) := by decide +kernel
theorem dX12_way_0 : decode cX12_way 0 = .ok (.aload_n 0, 1) := by decide +kernel
theorem dX12_way_1 : decode cX12_way 1 = .ok (.iload_n 1, 1) := by decide +kernel
theorem dX12_way_2 : decode cX12_way 2 = .ok (.invokevirtual 278, 3) := by decide +kernel
theorem dX12_way_5 : decode cX12_way 5 = .ok (.ifCond .eq 16, 3) := by decide +kernel
theorem dX12_way_8 : decode cX12_way 8 = .ok (.aload_n 0, 1) := by decide +kernel
theorem dX12_way_9 : decode cX12_way 9 = .ok (.iload_n 2, 1) := by decide +kernel
theorem dX12_way_10 : decode cX12_way 10 = .ok (.invokevirtual 278, 3) := by decide +kernel
theorem dX12_way_13 : decode cX12_way 13 = .ok (.ifCond .eq 8, 3) := by decide +kernel
theorem dX12_way_16 : decode cX12_way 16 = .ok (.iload_n 3, 1) := by decide +kernel
theorem dX12_way_17 : decode cX12_way 17 = .ok (.iconst (-1), 1) := by decide +kernel
theorem dX12_way_18 : decode cX12_way 18 = .ok (.if_icmp .ge 5, 3) := by decide +kernel
theorem dX12_way_21 : decode cX12_way 21 = .ok (.iconst (-1), 1) := by decide +kernel
theorem dX12_way_22 : decode cX12_way 22 = .ok (.ireturn, 1) := by decide +kernel
theorem dX12_way_23 : decode cX12_way 23 = .ok (.aload_n 0, 1) := by decide +kernel
theorem dX12_way_24 : decode cX12_way 24 = .ok (.iload_n 2, 1) := by decide +kernel
theorem dX12_way_25 : decode cX12_way 25 = .ok (.iload_n 1, 1) := by decide +kernel
theorem dX12_way_26 : decode cX12_way 26 = .ok (.invokevirtual 272, 3) := by decide +kernel
theorem dX12_way_29 : decode cX12_way 29 = .ok (.ifCond .ne 6, 3) := by decide +kernel
theorem dX12_way_32 : decode cX12_way 32 = .ok (.bipush (-3), 2) := by decide +kernel
theorem dX12_way_34 : decode cX12_way 34 = .ok (.ireturn, 1) := by decide +kernel
theorem dX12_way_35 : decode cX12_way 35 = .ok (.iconst 0, 1) := by decide +kernel
theorem dX12_way_36 : decode cX12_way 36 = .ok (.istore 4, 2) := by decide +kernel
theorem dX12_way_38 : decode cX12_way 38 = .ok (.iload_n 1, 1) := by decide +kernel
theorem dX12_way_39 : decode cX12_way 39 = .ok (.istore 5, 2) := by decide +kernel
theorem dX12_way_41 : decode cX12_way 41 = .ok (.iload 5, 2) := by decide +kernel
theorem dX12_way_43 : decode cX12_way 43 = .ok (.iload_n 2, 1) := by decide +kernel
theorem dX12_way_44 : decode cX12_way 44 = .ok (.if_icmp .eq 26, 3) := by decide +kernel
theorem dX12_way_47 : decode cX12_way 47 = .ok (.iload 4, 2) := by decide +kernel
theorem dX12_way_49 : decode cX12_way 49 = .ok (.iload_n 3, 1) := by decide +kernel
theorem dX12_way_50 : decode cX12_way 50 = .ok (.if_icmp .eq 20, 3) := by decide +kernel
theorem dX12_way_53 : decode cX12_way 53 = .ok (.aload_n 0, 1) := by decide +kernel
theorem dX12_way_54 : decode cX12_way 54 = .ok (.getfield 66, 3) := by decide +kernel
theorem dX12_way_57 : decode cX12_way 57 = .ok (.iload 5, 2) := by decide +kernel
theorem dX12_way_59 : decode cX12_way 59 = .ok (.iaload, 1) := by decide +kernel
theorem dX12_way_60 : decode cX12_way 60 = .ok (.iconst 4, 1) := by decide +kernel
theorem dX12_way_61 : decode cX12_way 61 = .ok (.idiv, 1) := by decide +kernel
theorem dX12_way_62 : decode cX12_way 62 = .ok (.istore 5, 2) := by decide +kernel
theorem dX12_way_64 : decode cX12_way 64 = .ok (.iinc 4 1, 3) := by decide +kernel
theorem dX12_way_67 : decode cX12_way 67 = .ok (.goto (-26), 3) := by decide +kernel
theorem dX12_way_70 : decode cX12_way 70 = .ok (.iload_n 3, 1) := by decide +kernel
theorem dX12_way_71 : decode cX12_way 71 = .ok (.iconst (-1), 1) := by decide +kernel
theorem dX12_way_72 : decode cX12_way 72 = .ok (.if_icmp .ne 8, 3) := by decide +kernel
theorem dX12_way_75 : decode cX12_way 75 = .ok (.iload 4, 2) := by decide +kernel
theorem dX12_way_77 : decode cX12_way 77 = .ok (.goto 16, 3) := by decide +kernel
theorem dX12_way_80 : decode cX12_way 80 = .ok (.iload 4, 2) := by decide +kernel
theorem dX12_way_82 : decode cX12_way 82 = .ok (.iload_n 3, 1) := by decide +kernel
theorem dX12_way_83 : decode cX12_way 83 = .ok (.if_icmp .ne 8, 3) := by decide +kernel
theorem dX12_way_86 : decode cX12_way 86 = .ok (.iload 5, 2) := by decide +kernel
theorem dX12_way_88 : decode cX12_way 88 = .ok (.goto 5, 3) := by decide +kernel
theorem dX12_way_91 : decode cX12_way 91 = .ok (.bipush (-2), 2) := by decide +kernel
theorem dX12_way_93 : decode cX12_way 93 = .ok (.ireturn, 1) := by decide +kernel
theorem dX12_free_0 : decode cX12_free 0 = .ok (.iload_n 1, 1) := by decide +kernel
theorem dX12_free_1 : decode cX12_free 1 = .ok (.iconst (-1), 1) := by decide +kernel
theorem dX12_free_2 : decode cX12_free 2 = .ok (.if_icmp .ge 5, 3) := by decide +kernel
theorem dX12_free_5 : decode cX12_free 5 = .ok (.iconst (-1), 1) := by decide +kernel
theorem dX12_free_6 : decode cX12_free 6 = .ok (.ireturn, 1) := by decide +kernel
theorem dX12_free_7 : decode cX12_free 7 = .ok (.aload_n 0, 1) := by decide +kernel
theorem dX12_free_8 : decode cX12_free 8 = .ok (.invokevirtual 304, 3) := by decide +kernel
theorem dX12_free_11 : decode cX12_free 11 = .ok (.pop, 1) := by decide +kernel
theorem dX12_free_12 : decode cX12_free 12 = .ok (.iconst 0, 1) := by decide +kernel
theorem dX12_free_13 : decode cX12_free 13 = .ok (.istore_n 2, 1) := by decide +kernel
theorem dX12_free_14 : decode cX12_free 14 = .ok (.iconst 0, 1) := by decide +kernel
theorem dX12_free_15 : decode cX12_free 15 = .ok (.istore_n 3, 1) := by decide +kernel
theorem dX12_free_16 : decode cX12_free 16 = .ok (.iload_n 3, 1) := by decide +kernel
theorem dX12_free_17 : decode cX12_free 17 = .ok (.aload_n 0, 1) := by decide +kernel
theorem dX12_free_18 : decode cX12_free 18 = .ok (.getfield 245, 3) := by decide +kernel
theorem dX12_free_21 : decode cX12_free 21 = .ok (.if_icmp .ge 30, 3) := by decide +kernel
theorem dX12_free_24 : decode cX12_free 24 = .ok (.aload_n 0, 1) := by decide +kernel
theorem dX12_free_25 : decode cX12_free 25 = .ok (.iload_n 3, 1) := by decide +kernel
theorem dX12_free_26 : decode cX12_free 26 = .ok (.invokevirtual 353, 3) := by decide +kernel
theorem dX12_free_29 : decode cX12_free 29 = .ok (.ifCond .ne 6, 3) := by decide +kernel
theorem dX12_free_32 : decode cX12_free 32 = .ok (.goto 13, 3) := by decide +kernel
theorem dX12_free_35 : decode cX12_free 35 = .ok (.iload_n 2, 1) := by decide +kernel
theorem dX12_free_36 : decode cX12_free 36 = .ok (.iload_n 1, 1) := by decide +kernel
theorem dX12_free_37 : decode cX12_free 37 = .ok (.if_icmp .ne 5, 3) := by decide +kernel
theorem dX12_free_40 : decode cX12_free 40 = .ok (.iload_n 3, 1) := by decide +kernel
theorem dX12_free_41 : decode cX12_free 41 = .ok (.ireturn, 1) := by decide +kernel
theorem dX12_free_42 : decode cX12_free 42 = .ok (.iinc 2 1, 3) := by decide +kernel
theorem dX12_free_45 : decode cX12_free 45 = .ok (.iinc 3 1, 3) := by decide +kernel
theorem dX12_free_48 : decode cX12_free 48 = .ok (.goto (-32), 3) := by decide +kernel
theorem dX12_free_51 : decode cX12_free 51 = .ok (.iload_n 1, 1) := by decide +kernel
theorem dX12_free_52 : decode cX12_free 52 = .ok (.iconst (-1), 1) := by decide +kernel
theorem dX12_free_53 : decode cX12_free 53 = .ok (.if_icmp .ne 7, 3) := by decide +kernel
theorem dX12_free_56 : decode cX12_free 56 = .ok (.iload_n 2, 1) := by decide +kernel
theorem dX12_free_57 : decode cX12_free 57 = .ok (.goto 5, 3) := by decide +kernel
theorem dX12_free_60 : decode cX12_free 60 = .ok (.bipush (-2), 2) := by decide +kernel
theorem dX12_free_62 : decode cX12_free 62 = .ok (.ireturn, 1) := by decide +kernel
theorem dX12_nextSide_0 : decode cX12_nextSide 0 = .ok (.iload_n 0, 1) := by decide +kernel
theorem dX12_nextSide_1 : decode cX12_nextSide 1 = .ok (.iconst 4, 1) := by decide +kernel
theorem dX12_nextSide_2 : decode cX12_nextSide 2 = .ok (.idiv, 1) := by decide +kernel
theorem dX12_nextSide_3 : decode cX12_nextSide 3 = .ok (.iconst 4, 1) := by decide +kernel
theorem dX12_nextSide_4 : decode cX12_nextSide 4 = .ok (.imul, 1) := by decide +kernel
theorem dX12_nextSide_5 : decode cX12_nextSide 5 = .ok (.iload_n 0, 1) := by decide +kernel
theorem dX12_nextSide_6 : decode cX12_nextSide 6 = .ok (.iconst 1, 1) := by decide +kernel
theorem dX12_nextSide_7 : decode cX12_nextSide 7 = .ok (.iadd, 1) := by decide +kernel
theorem dX12_nextSide_8 : decode cX12_nextSide 8 = .ok (.iconst 4, 1) := by decide +kernel
theorem dX12_nextSide_9 : decode cX12_nextSide 9 = .ok (.irem, 1) := by decide +kernel
theorem dX12_nextSide_10 : decode cX12_nextSide 10 = .ok (.iadd, 1) := by decide +kernel
theorem dX12_nextSide_11 : decode cX12_nextSide 11 = .ok (.ireturn, 1) := by decide +kernel
theorem dX12_isCutSide_0 : decode cX12_isCutSide 0 = .ok (.aload_n 0, 1) := by decide +kernel
theorem dX12_isCutSide_1 : decode cX12_isCutSide 1 = .ok (.aload_n 0, 1) := by decide +kernel
theorem dX12_isCutSide_2 : decode cX12_isCutSide 2 = .ok (.getfield 48, 3) := by decide +kernel
theorem dX12_isCutSide_5 : decode cX12_isCutSide 5 = .ok (.iload_n 1, 1) := by decide +kernel
theorem dX12_isCutSide_6 : decode cX12_isCutSide 6 = .ok (.iaload, 1) := by decide +kernel
theorem dX12_isCutSide_7 : decode cX12_isCutSide 7 = .ok (.invokevirtual 257, 3) := by decide +kernel
theorem dX12_isCutSide_10 : decode cX12_isCutSide 10 = .ok (.ifCond .ne 7, 3) := by decide +kernel
theorem dX12_isCutSide_13 : decode cX12_isCutSide 13 = .ok (.iconst 1, 1) := by decide +kernel
theorem dX12_isCutSide_14 : decode cX12_isCutSide 14 = .ok (.goto 4, 3) := by decide +kernel
theorem dX12_isCutSide_17 : decode cX12_isCutSide 17 = .ok (.iconst 0, 1) := by decide +kernel
theorem dX12_isCutSide_18 : decode cX12_isCutSide 18 = .ok (.ireturn, 1) := by decide +kernel
theorem dX12_laysRim_0 : decode cX12_laysRim 0 = .ok (.aload_n 0, 1) := by decide +kernel
theorem dX12_laysRim_1 : decode cX12_laysRim 1 = .ok (.invokevirtual 325, 3) := by decide +kernel
theorem dX12_laysRim_4 : decode cX12_laysRim 4 = .ok (.ifCond .ne 5, 3) := by decide +kernel
theorem dX12_laysRim_7 : decode cX12_laysRim 7 = .ok (.iconst 0, 1) := by decide +kernel
theorem dX12_laysRim_8 : decode cX12_laysRim 8 = .ok (.ireturn, 1) := by decide +kernel
theorem dX12_laysRim_9 : decode cX12_laysRim 9 = .ok (.iconst 0, 1) := by decide +kernel
theorem dX12_laysRim_10 : decode cX12_laysRim 10 = .ok (.istore_n 1, 1) := by decide +kernel
theorem dX12_laysRim_11 : decode cX12_laysRim 11 = .ok (.aload_n 0, 1) := by decide +kernel
theorem dX12_laysRim_12 : decode cX12_laysRim 12 = .ok (.iload_n 1, 1) := by decide +kernel
theorem dX12_laysRim_13 : decode cX12_laysRim 13 = .ok (.invokevirtual 359, 3) := by decide +kernel
theorem dX12_laysRim_16 : decode cX12_laysRim 16 = .ok (.ifCond .ne 9, 3) := by decide +kernel
theorem dX12_laysRim_19 : decode cX12_laysRim 19 = .ok (.iinc 1 1, 3) := by decide +kernel
theorem dX12_laysRim_22 : decode cX12_laysRim 22 = .ok (.goto (-11), 3) := by decide +kernel
theorem dX12_laysRim_25 : decode cX12_laysRim 25 = .ok (.aload_n 0, 1) := by decide +kernel
theorem dX12_laysRim_26 : decode cX12_laysRim 26 = .ok (.iconst 0, 1) := by decide +kernel
theorem dX12_laysRim_27 : decode cX12_laysRim 27 = .ok (.putfield 362, 3) := by decide +kernel
theorem dX12_laysRim_30 : decode cX12_laysRim 30 = .ok (.iload_n 1, 1) := by decide +kernel
theorem dX12_laysRim_31 : decode cX12_laysRim 31 = .ok (.istore_n 2, 1) := by decide +kernel
theorem dX12_laysRim_32 : decode cX12_laysRim 32 = .ok (.iconst 1, 1) := by decide +kernel
theorem dX12_laysRim_33 : decode cX12_laysRim 33 = .ok (.istore_n 3, 1) := by decide +kernel
theorem dX12_laysRim_34 : decode cX12_laysRim 34 = .ok (.iload_n 3, 1) := by decide +kernel
theorem dX12_laysRim_35 : decode cX12_laysRim 35 = .ok (.ifCond .eq 87, 3) := by decide +kernel
theorem dX12_laysRim_38 : decode cX12_laysRim 38 = .ok (.aload_n 0, 1) := by decide +kernel
theorem dX12_laysRim_39 : decode cX12_laysRim 39 = .ok (.getfield 90, 3) := by decide +kernel
theorem dX12_laysRim_42 : decode cX12_laysRim 42 = .ok (.aload_n 0, 1) := by decide +kernel
theorem dX12_laysRim_43 : decode cX12_laysRim 43 = .ok (.getfield 362, 3) := by decide +kernel
theorem dX12_laysRim_46 : decode cX12_laysRim 46 = .ok (.iload_n 2, 1) := by decide +kernel
theorem dX12_laysRim_47 : decode cX12_laysRim 47 = .ok (.iastore, 1) := by decide +kernel
theorem dX12_laysRim_48 : decode cX12_laysRim 48 = .ok (.aload_n 0, 1) := by decide +kernel
theorem dX12_laysRim_49 : decode cX12_laysRim 49 = .ok (.dup, 1) := by decide +kernel
theorem dX12_laysRim_50 : decode cX12_laysRim 50 = .ok (.getfield 362, 3) := by decide +kernel
theorem dX12_laysRim_53 : decode cX12_laysRim 53 = .ok (.iconst 1, 1) := by decide +kernel
theorem dX12_laysRim_54 : decode cX12_laysRim 54 = .ok (.iadd, 1) := by decide +kernel
theorem dX12_laysRim_55 : decode cX12_laysRim 55 = .ok (.putfield 362, 3) := by decide +kernel
theorem dX12_laysRim_58 : decode cX12_laysRim 58 = .ok (.iconst 1, 1) := by decide +kernel
theorem dX12_laysRim_59 : decode cX12_laysRim 59 = .ok (.istore 4, 2) := by decide +kernel
theorem dX12_laysRim_61 : decode cX12_laysRim 61 = .ok (.iload_n 2, 1) := by decide +kernel
theorem dX12_laysRim_62 : decode cX12_laysRim 62 = .ok (.invokestatic 365, 3) := by decide +kernel
theorem dX12_laysRim_65 : decode cX12_laysRim 65 = .ok (.istore_n 2, 1) := by decide +kernel
theorem dX12_laysRim_66 : decode cX12_laysRim 66 = .ok (.aload_n 0, 1) := by decide +kernel
theorem dX12_laysRim_67 : decode cX12_laysRim 67 = .ok (.iload_n 2, 1) := by decide +kernel
theorem dX12_laysRim_68 : decode cX12_laysRim 68 = .ok (.invokevirtual 359, 3) := by decide +kernel
theorem dX12_laysRim_71 : decode cX12_laysRim 71 = .ok (.ifCond .ne 18, 3) := by decide +kernel
theorem dX12_laysRim_74 : decode cX12_laysRim 74 = .ok (.aload_n 0, 1) := by decide +kernel
theorem dX12_laysRim_75 : decode cX12_laysRim 75 = .ok (.iload_n 2, 1) := by decide +kernel
theorem dX12_laysRim_76 : decode cX12_laysRim 76 = .ok (.invokevirtual 248, 3) := by decide +kernel
theorem dX12_laysRim_79 : decode cX12_laysRim 79 = .ok (.invokestatic 365, 3) := by decide +kernel
theorem dX12_laysRim_82 : decode cX12_laysRim 82 = .ok (.istore_n 2, 1) := by decide +kernel
theorem dX12_laysRim_83 : decode cX12_laysRim 83 = .ok (.iinc 4 1, 3) := by decide +kernel
theorem dX12_laysRim_86 : decode cX12_laysRim 86 = .ok (.goto (-20), 3) := by decide +kernel
theorem dX12_laysRim_89 : decode cX12_laysRim 89 = .ok (.iload_n 2, 1) := by decide +kernel
theorem dX12_laysRim_90 : decode cX12_laysRim 90 = .ok (.iload_n 1, 1) := by decide +kernel
theorem dX12_laysRim_91 : decode cX12_laysRim 91 = .ok (.if_icmp .eq 7, 3) := by decide +kernel
theorem dX12_laysRim_94 : decode cX12_laysRim 94 = .ok (.iconst 1, 1) := by decide +kernel
theorem dX12_laysRim_95 : decode cX12_laysRim 95 = .ok (.goto 4, 3) := by decide +kernel
theorem dX12_laysRim_98 : decode cX12_laysRim 98 = .ok (.iconst 0, 1) := by decide +kernel
theorem dX12_laysRim_99 : decode cX12_laysRim 99 = .ok (.istore_n 3, 1) := by decide +kernel
theorem dX12_laysRim_100 : decode cX12_laysRim 100 = .ok (.aload_n 0, 1) := by decide +kernel
theorem dX12_laysRim_101 : decode cX12_laysRim 101 = .ok (.getfield 93, 3) := by decide +kernel
theorem dX12_laysRim_104 : decode cX12_laysRim 104 = .ok (.iload_n 3, 1) := by decide +kernel
theorem dX12_laysRim_105 : decode cX12_laysRim 105 = .ok (.ifCond .eq 10, 3) := by decide +kernel
theorem dX12_laysRim_108 : decode cX12_laysRim 108 = .ok (.aload_n 0, 1) := by decide +kernel
theorem dX12_laysRim_109 : decode cX12_laysRim 109 = .ok (.getfield 362, 3) := by decide +kernel
theorem dX12_laysRim_112 : decode cX12_laysRim 112 = .ok (.goto 4, 3) := by decide +kernel
theorem dX12_laysRim_115 : decode cX12_laysRim 115 = .ok (.iconst 0, 1) := by decide +kernel
theorem dX12_laysRim_116 : decode cX12_laysRim 116 = .ok (.iload 4, 2) := by decide +kernel
theorem dX12_laysRim_118 : decode cX12_laysRim 118 = .ok (.iastore, 1) := by decide +kernel
theorem dX12_laysRim_119 : decode cX12_laysRim 119 = .ok (.goto (-85), 3) := by decide +kernel
theorem dX12_laysRim_122 : decode cX12_laysRim 122 = .ok (.iconst 1, 1) := by decide +kernel
theorem dX12_laysRim_123 : decode cX12_laysRim 123 = .ok (.ireturn, 1) := by decide +kernel
theorem dX12_partner_0 : decode cX12_partner 0 = .ok (.aload_n 0, 1) := by decide +kernel
theorem dX12_partner_1 : decode cX12_partner 1 = .ok (.aload_n 0, 1) := by decide +kernel
theorem dX12_partner_2 : decode cX12_partner 2 = .ok (.getfield 90, 3) := by decide +kernel
theorem dX12_partner_5 : decode cX12_partner 5 = .ok (.iload_n 1, 1) := by decide +kernel
theorem dX12_partner_6 : decode cX12_partner 6 = .ok (.iaload, 1) := by decide +kernel
theorem dX12_partner_7 : decode cX12_partner 7 = .ok (.invokevirtual 248, 3) := by decide +kernel
theorem dX12_partner_10 : decode cX12_partner 10 = .ok (.istore_n 2, 1) := by decide +kernel
theorem dX12_partner_11 : decode cX12_partner 11 = .ok (.iconst 0, 1) := by decide +kernel
theorem dX12_partner_12 : decode cX12_partner 12 = .ok (.istore_n 3, 1) := by decide +kernel
theorem dX12_partner_13 : decode cX12_partner 13 = .ok (.aload_n 0, 1) := by decide +kernel
theorem dX12_partner_14 : decode cX12_partner 14 = .ok (.getfield 90, 3) := by decide +kernel
theorem dX12_partner_17 : decode cX12_partner 17 = .ok (.iload_n 3, 1) := by decide +kernel
theorem dX12_partner_18 : decode cX12_partner 18 = .ok (.iaload, 1) := by decide +kernel
theorem dX12_partner_19 : decode cX12_partner 19 = .ok (.iload_n 2, 1) := by decide +kernel
theorem dX12_partner_20 : decode cX12_partner 20 = .ok (.if_icmp .eq 9, 3) := by decide +kernel
theorem dX12_partner_23 : decode cX12_partner 23 = .ok (.iinc 3 1, 3) := by decide +kernel
theorem dX12_partner_26 : decode cX12_partner 26 = .ok (.goto (-13), 3) := by decide +kernel
theorem dX12_partner_29 : decode cX12_partner 29 = .ok (.iload_n 3, 1) := by decide +kernel
theorem dX12_partner_30 : decode cX12_partner 30 = .ok (.ireturn, 1) := by decide +kernel
theorem dX12_rim_0 : decode cX12_rim 0 = .ok (.aload_n 0, 1) := by decide +kernel
theorem dX12_rim_1 : decode cX12_rim 1 = .ok (.invokevirtual 368, 3) := by decide +kernel
theorem dX12_rim_4 : decode cX12_rim 4 = .ok (.ifCond .ne 5, 3) := by decide +kernel
theorem dX12_rim_7 : decode cX12_rim 7 = .ok (.iconst (-1), 1) := by decide +kernel
theorem dX12_rim_8 : decode cX12_rim 8 = .ok (.ireturn, 1) := by decide +kernel
theorem dX12_rim_9 : decode cX12_rim 9 = .ok (.iload_n 1, 1) := by decide +kernel
theorem dX12_rim_10 : decode cX12_rim 10 = .ok (.iconst (-1), 1) := by decide +kernel
theorem dX12_rim_11 : decode cX12_rim 11 = .ok (.if_icmp .ne 16, 3) := by decide +kernel
theorem dX12_rim_14 : decode cX12_rim 14 = .ok (.iload_n 2, 1) := by decide +kernel
theorem dX12_rim_15 : decode cX12_rim 15 = .ok (.ifCond .ne 10, 3) := by decide +kernel
theorem dX12_rim_18 : decode cX12_rim 18 = .ok (.aload_n 0, 1) := by decide +kernel
theorem dX12_rim_19 : decode cX12_rim 19 = .ok (.getfield 362, 3) := by decide +kernel
theorem dX12_rim_22 : decode cX12_rim 22 = .ok (.goto 4, 3) := by decide +kernel
theorem dX12_rim_25 : decode cX12_rim 25 = .ok (.iconst (-1), 1) := by decide +kernel
theorem dX12_rim_26 : decode cX12_rim 26 = .ok (.ireturn, 1) := by decide +kernel
theorem dX12_rim_27 : decode cX12_rim 27 = .ok (.iload_n 1, 1) := by decide +kernel
theorem dX12_rim_28 : decode cX12_rim 28 = .ok (.i2l, 1) := by decide +kernel
theorem dX12_rim_29 : decode cX12_rim 29 = .ok (.lconst 0, 1) := by decide +kernel
theorem dX12_rim_30 : decode cX12_rim 30 = .ok (.aload_n 0, 1) := by decide +kernel
theorem dX12_rim_31 : decode cX12_rim 31 = .ok (.getfield 362, 3) := by decide +kernel
theorem dX12_rim_34 : decode cX12_rim 34 = .ok (.iconst 1, 1) := by decide +kernel
theorem dX12_rim_35 : decode cX12_rim 35 = .ok (.isub, 1) := by decide +kernel
theorem dX12_rim_36 : decode cX12_rim 36 = .ok (.i2l, 1) := by decide +kernel
theorem dX12_rim_37 : decode cX12_rim 37 = .ok (.invokestatic 143, 3) := by decide +kernel
theorem dX12_rim_40 : decode cX12_rim 40 = .ok (.ifCond .ne 5, 3) := by decide +kernel
theorem dX12_rim_43 : decode cX12_rim 43 = .ok (.iconst (-1), 1) := by decide +kernel
theorem dX12_rim_44 : decode cX12_rim 44 = .ok (.ireturn, 1) := by decide +kernel
theorem dX12_rim_45 : decode cX12_rim 45 = .ok (.iload_n 2, 1) := by decide +kernel
theorem dX12_rim_46 : decode cX12_rim 46 = .ok (.tableswitch 61 0 3 #[30, 39, 48, 55], 30) := by decide +kernel
theorem dX12_rim_76 : decode cX12_rim 76 = .ok (.aload_n 0, 1) := by decide +kernel
theorem dX12_rim_77 : decode cX12_rim 77 = .ok (.getfield 90, 3) := by decide +kernel
theorem dX12_rim_80 : decode cX12_rim 80 = .ok (.iload_n 1, 1) := by decide +kernel
theorem dX12_rim_81 : decode cX12_rim 81 = .ok (.iaload, 1) := by decide +kernel
theorem dX12_rim_82 : decode cX12_rim 82 = .ok (.iconst 4, 1) := by decide +kernel
theorem dX12_rim_83 : decode cX12_rim 83 = .ok (.idiv, 1) := by decide +kernel
theorem dX12_rim_84 : decode cX12_rim 84 = .ok (.ireturn, 1) := by decide +kernel
theorem dX12_rim_85 : decode cX12_rim 85 = .ok (.aload_n 0, 1) := by decide +kernel
theorem dX12_rim_86 : decode cX12_rim 86 = .ok (.getfield 90, 3) := by decide +kernel
theorem dX12_rim_89 : decode cX12_rim 89 = .ok (.iload_n 1, 1) := by decide +kernel
theorem dX12_rim_90 : decode cX12_rim 90 = .ok (.iaload, 1) := by decide +kernel
theorem dX12_rim_91 : decode cX12_rim 91 = .ok (.iconst 4, 1) := by decide +kernel
theorem dX12_rim_92 : decode cX12_rim 92 = .ok (.irem, 1) := by decide +kernel
theorem dX12_rim_93 : decode cX12_rim 93 = .ok (.ireturn, 1) := by decide +kernel
theorem dX12_rim_94 : decode cX12_rim 94 = .ok (.aload_n 0, 1) := by decide +kernel
theorem dX12_rim_95 : decode cX12_rim 95 = .ok (.getfield 93, 3) := by decide +kernel
theorem dX12_rim_98 : decode cX12_rim 98 = .ok (.iload_n 1, 1) := by decide +kernel
theorem dX12_rim_99 : decode cX12_rim 99 = .ok (.iaload, 1) := by decide +kernel
theorem dX12_rim_100 : decode cX12_rim 100 = .ok (.ireturn, 1) := by decide +kernel
theorem dX12_rim_101 : decode cX12_rim 101 = .ok (.aload_n 0, 1) := by decide +kernel
theorem dX12_rim_102 : decode cX12_rim 102 = .ok (.iload_n 1, 1) := by decide +kernel
theorem dX12_rim_103 : decode cX12_rim 103 = .ok (.invokevirtual 371, 3) := by decide +kernel
theorem dX12_rim_106 : decode cX12_rim 106 = .ok (.ireturn, 1) := by decide +kernel
theorem dX12_rim_107 : decode cX12_rim 107 = .ok (.iconst (-1), 1) := by decide +kernel
theorem dX12_rim_108 : decode cX12_rim 108 = .ok (.ireturn, 1) := by decide +kernel
theorem dX12_pointOf_0 : decode cX12_pointOf 0 = .ok (.iload_n 1, 1) := by decide +kernel
theorem dX12_pointOf_1 : decode cX12_pointOf 1 = .ok (.aload_n 0, 1) := by decide +kernel
theorem dX12_pointOf_2 : decode cX12_pointOf 2 = .ok (.getfield 362, 3) := by decide +kernel
theorem dX12_pointOf_5 : decode cX12_pointOf 5 = .ok (.irem, 1) := by decide +kernel
theorem dX12_pointOf_6 : decode cX12_pointOf 6 = .ok (.istore_n 2, 1) := by decide +kernel
theorem dX12_pointOf_7 : decode cX12_pointOf 7 = .ok (.aload_n 0, 1) := by decide +kernel
theorem dX12_pointOf_8 : decode cX12_pointOf 8 = .ok (.getfield 99, 3) := by decide +kernel
theorem dX12_pointOf_11 : decode cX12_pointOf 11 = .ok (.iload_n 2, 1) := by decide +kernel
theorem dX12_pointOf_12 : decode cX12_pointOf 12 = .ok (.iaload, 1) := by decide +kernel
theorem dX12_pointOf_13 : decode cX12_pointOf 13 = .ok (.iload_n 2, 1) := by decide +kernel
theorem dX12_pointOf_14 : decode cX12_pointOf 14 = .ok (.if_icmp .eq 13, 3) := by decide +kernel
theorem dX12_pointOf_17 : decode cX12_pointOf 17 = .ok (.aload_n 0, 1) := by decide +kernel
theorem dX12_pointOf_18 : decode cX12_pointOf 18 = .ok (.getfield 99, 3) := by decide +kernel
theorem dX12_pointOf_21 : decode cX12_pointOf 21 = .ok (.iload_n 2, 1) := by decide +kernel
theorem dX12_pointOf_22 : decode cX12_pointOf 22 = .ok (.iaload, 1) := by decide +kernel
theorem dX12_pointOf_23 : decode cX12_pointOf 23 = .ok (.istore_n 2, 1) := by decide +kernel
theorem dX12_pointOf_24 : decode cX12_pointOf 24 = .ok (.goto (-17), 3) := by decide +kernel
theorem dX12_pointOf_27 : decode cX12_pointOf 27 = .ok (.iload_n 2, 1) := by decide +kernel
theorem dX12_pointOf_28 : decode cX12_pointOf 28 = .ok (.ireturn, 1) := by decide +kernel
theorem dX12_makesOne_0 : decode cX12_makesOne 0 = .ok (.aload_n 0, 1) := by decide +kernel
theorem dX12_makesOne_1 : decode cX12_makesOne 1 = .ok (.getfield 99, 3) := by decide +kernel
theorem dX12_makesOne_4 : decode cX12_makesOne 4 = .ok (.aload_n 0, 1) := by decide +kernel
theorem dX12_makesOne_5 : decode cX12_makesOne 5 = .ok (.iload_n 1, 1) := by decide +kernel
theorem dX12_makesOne_6 : decode cX12_makesOne 6 = .ok (.invokevirtual 374, 3) := by decide +kernel
theorem dX12_makesOne_9 : decode cX12_makesOne 9 = .ok (.aload_n 0, 1) := by decide +kernel
theorem dX12_makesOne_10 : decode cX12_makesOne 10 = .ok (.iload_n 2, 1) := by decide +kernel
theorem dX12_makesOne_11 : decode cX12_makesOne 11 = .ok (.invokevirtual 374, 3) := by decide +kernel
theorem dX12_makesOne_14 : decode cX12_makesOne 14 = .ok (.invokestatic 292, 3) := by decide +kernel
theorem dX12_makesOne_17 : decode cX12_makesOne 17 = .ok (.aload_n 0, 1) := by decide +kernel
theorem dX12_makesOne_18 : decode cX12_makesOne 18 = .ok (.iload_n 1, 1) := by decide +kernel
theorem dX12_makesOne_19 : decode cX12_makesOne 19 = .ok (.invokevirtual 374, 3) := by decide +kernel
theorem dX12_makesOne_22 : decode cX12_makesOne 22 = .ok (.aload_n 0, 1) := by decide +kernel
theorem dX12_makesOne_23 : decode cX12_makesOne 23 = .ok (.iload_n 2, 1) := by decide +kernel
theorem dX12_makesOne_24 : decode cX12_makesOne 24 = .ok (.invokevirtual 374, 3) := by decide +kernel
theorem dX12_makesOne_27 : decode cX12_makesOne 27 = .ok (.invokestatic 158, 3) := by decide +kernel
theorem dX12_makesOne_30 : decode cX12_makesOne 30 = .ok (.iastore, 1) := by decide +kernel
theorem dX12_makesOne_31 : decode cX12_makesOne 31 = .ok (.return_, 1) := by decide +kernel
theorem dX12_laysPoints_0 : decode cX12_laysPoints 0 = .ok (.iconst 0, 1) := by decide +kernel
theorem dX12_laysPoints_1 : decode cX12_laysPoints 1 = .ok (.istore_n 1, 1) := by decide +kernel
theorem dX12_laysPoints_2 : decode cX12_laysPoints 2 = .ok (.iload_n 1, 1) := by decide +kernel
theorem dX12_laysPoints_3 : decode cX12_laysPoints 3 = .ok (.aload_n 0, 1) := by decide +kernel
theorem dX12_laysPoints_4 : decode cX12_laysPoints 4 = .ok (.getfield 362, 3) := by decide +kernel
theorem dX12_laysPoints_7 : decode cX12_laysPoints 7 = .ok (.if_icmp .ge 23, 3) := by decide +kernel
theorem dX12_laysPoints_10 : decode cX12_laysPoints 10 = .ok (.aload_n 0, 1) := by decide +kernel
theorem dX12_laysPoints_11 : decode cX12_laysPoints 11 = .ok (.getfield 99, 3) := by decide +kernel
theorem dX12_laysPoints_14 : decode cX12_laysPoints 14 = .ok (.iload_n 1, 1) := by decide +kernel
theorem dX12_laysPoints_15 : decode cX12_laysPoints 15 = .ok (.iload_n 1, 1) := by decide +kernel
theorem dX12_laysPoints_16 : decode cX12_laysPoints 16 = .ok (.iastore, 1) := by decide +kernel
theorem dX12_laysPoints_17 : decode cX12_laysPoints 17 = .ok (.aload_n 0, 1) := by decide +kernel
theorem dX12_laysPoints_18 : decode cX12_laysPoints 18 = .ok (.getfield 102, 3) := by decide +kernel
theorem dX12_laysPoints_21 : decode cX12_laysPoints 21 = .ok (.iload_n 1, 1) := by decide +kernel
theorem dX12_laysPoints_22 : decode cX12_laysPoints 22 = .ok (.iconst 0, 1) := by decide +kernel
theorem dX12_laysPoints_23 : decode cX12_laysPoints 23 = .ok (.iastore, 1) := by decide +kernel
theorem dX12_laysPoints_24 : decode cX12_laysPoints 24 = .ok (.iinc 1 1, 3) := by decide +kernel
theorem dX12_laysPoints_27 : decode cX12_laysPoints 27 = .ok (.goto (-25), 3) := by decide +kernel
theorem dX12_laysPoints_30 : decode cX12_laysPoints 30 = .ok (.iconst 0, 1) := by decide +kernel
theorem dX12_laysPoints_31 : decode cX12_laysPoints 31 = .ok (.istore_n 1, 1) := by decide +kernel
theorem dX12_laysPoints_32 : decode cX12_laysPoints 32 = .ok (.iload_n 1, 1) := by decide +kernel
theorem dX12_laysPoints_33 : decode cX12_laysPoints 33 = .ok (.aload_n 0, 1) := by decide +kernel
theorem dX12_laysPoints_34 : decode cX12_laysPoints 34 = .ok (.getfield 362, 3) := by decide +kernel
theorem dX12_laysPoints_37 : decode cX12_laysPoints 37 = .ok (.if_icmp .ge 22, 3) := by decide +kernel
theorem dX12_laysPoints_40 : decode cX12_laysPoints 40 = .ok (.aload_n 0, 1) := by decide +kernel
theorem dX12_laysPoints_41 : decode cX12_laysPoints 41 = .ok (.iload_n 1, 1) := by decide +kernel
theorem dX12_laysPoints_42 : decode cX12_laysPoints 42 = .ok (.aload_n 0, 1) := by decide +kernel
theorem dX12_laysPoints_43 : decode cX12_laysPoints 43 = .ok (.getfield 96, 3) := by decide +kernel
theorem dX12_laysPoints_46 : decode cX12_laysPoints 46 = .ok (.iload_n 1, 1) := by decide +kernel
theorem dX12_laysPoints_47 : decode cX12_laysPoints 47 = .ok (.iaload, 1) := by decide +kernel
theorem dX12_laysPoints_48 : decode cX12_laysPoints 48 = .ok (.iconst 1, 1) := by decide +kernel
theorem dX12_laysPoints_49 : decode cX12_laysPoints 49 = .ok (.iadd, 1) := by decide +kernel
theorem dX12_laysPoints_50 : decode cX12_laysPoints 50 = .ok (.invokevirtual 377, 3) := by decide +kernel
theorem dX12_laysPoints_53 : decode cX12_laysPoints 53 = .ok (.iinc 1 1, 3) := by decide +kernel
theorem dX12_laysPoints_56 : decode cX12_laysPoints 56 = .ok (.goto (-24), 3) := by decide +kernel
theorem dX12_laysPoints_59 : decode cX12_laysPoints 59 = .ok (.iconst 1, 1) := by decide +kernel
theorem dX12_laysPoints_60 : decode cX12_laysPoints 60 = .ok (.istore_n 1, 1) := by decide +kernel
theorem dX12_laysPoints_61 : decode cX12_laysPoints 61 = .ok (.iconst 0, 1) := by decide +kernel
theorem dX12_laysPoints_62 : decode cX12_laysPoints 62 = .ok (.istore_n 2, 1) := by decide +kernel
theorem dX12_laysPoints_63 : decode cX12_laysPoints 63 = .ok (.iload_n 2, 1) := by decide +kernel
theorem dX12_laysPoints_64 : decode cX12_laysPoints 64 = .ok (.aload_n 0, 1) := by decide +kernel
theorem dX12_laysPoints_65 : decode cX12_laysPoints 65 = .ok (.getfield 362, 3) := by decide +kernel
theorem dX12_laysPoints_68 : decode cX12_laysPoints 68 = .ok (.if_icmp .ge 52, 3) := by decide +kernel
theorem dX12_laysPoints_71 : decode cX12_laysPoints 71 = .ok (.aload_n 0, 1) := by decide +kernel
theorem dX12_laysPoints_72 : decode cX12_laysPoints 72 = .ok (.getfield 102, 3) := by decide +kernel
theorem dX12_laysPoints_75 : decode cX12_laysPoints 75 = .ok (.aload_n 0, 1) := by decide +kernel
theorem dX12_laysPoints_76 : decode cX12_laysPoints 76 = .ok (.iload_n 2, 1) := by decide +kernel
theorem dX12_laysPoints_77 : decode cX12_laysPoints 77 = .ok (.invokevirtual 374, 3) := by decide +kernel
theorem dX12_laysPoints_80 : decode cX12_laysPoints 80 = .ok (.dup2, 1) := by decide +kernel
theorem dX12_laysPoints_81 : decode cX12_laysPoints 81 = .ok (.iaload, 1) := by decide +kernel
theorem dX12_laysPoints_82 : decode cX12_laysPoints 82 = .ok (.aload_n 0, 1) := by decide +kernel
theorem dX12_laysPoints_83 : decode cX12_laysPoints 83 = .ok (.getfield 93, 3) := by decide +kernel
theorem dX12_laysPoints_86 : decode cX12_laysPoints 86 = .ok (.iload_n 2, 1) := by decide +kernel
theorem dX12_laysPoints_87 : decode cX12_laysPoints 87 = .ok (.iaload, 1) := by decide +kernel
theorem dX12_laysPoints_88 : decode cX12_laysPoints 88 = .ok (.iadd, 1) := by decide +kernel
theorem dX12_laysPoints_89 : decode cX12_laysPoints 89 = .ok (.iastore, 1) := by decide +kernel
theorem dX12_laysPoints_90 : decode cX12_laysPoints 90 = .ok (.iload_n 1, 1) := by decide +kernel
theorem dX12_laysPoints_91 : decode cX12_laysPoints 91 = .ok (.ifCond .eq 21, 3) := by decide +kernel
theorem dX12_laysPoints_94 : decode cX12_laysPoints 94 = .ok (.aload_n 0, 1) := by decide +kernel
theorem dX12_laysPoints_95 : decode cX12_laysPoints 95 = .ok (.getfield 102, 3) := by decide +kernel
theorem dX12_laysPoints_98 : decode cX12_laysPoints 98 = .ok (.aload_n 0, 1) := by decide +kernel
theorem dX12_laysPoints_99 : decode cX12_laysPoints 99 = .ok (.iload_n 2, 1) := by decide +kernel
theorem dX12_laysPoints_100 : decode cX12_laysPoints 100 = .ok (.invokevirtual 374, 3) := by decide +kernel
theorem dX12_laysPoints_103 : decode cX12_laysPoints 103 = .ok (.iaload, 1) := by decide +kernel
theorem dX12_laysPoints_104 : decode cX12_laysPoints 104 = .ok (.iconst 4, 1) := by decide +kernel
theorem dX12_laysPoints_105 : decode cX12_laysPoints 105 = .ok (.if_icmp .gt 7, 3) := by decide +kernel
theorem dX12_laysPoints_108 : decode cX12_laysPoints 108 = .ok (.iconst 1, 1) := by decide +kernel
theorem dX12_laysPoints_109 : decode cX12_laysPoints 109 = .ok (.goto 4, 3) := by decide +kernel
theorem dX12_laysPoints_112 : decode cX12_laysPoints 112 = .ok (.iconst 0, 1) := by decide +kernel
theorem dX12_laysPoints_113 : decode cX12_laysPoints 113 = .ok (.istore_n 1, 1) := by decide +kernel
theorem dX12_laysPoints_114 : decode cX12_laysPoints 114 = .ok (.iinc 2 1, 3) := by decide +kernel
theorem dX12_laysPoints_117 : decode cX12_laysPoints 117 = .ok (.goto (-54), 3) := by decide +kernel
theorem dX12_laysPoints_120 : decode cX12_laysPoints 120 = .ok (.iload_n 1, 1) := by decide +kernel
theorem dX12_laysPoints_121 : decode cX12_laysPoints 121 = .ok (.ireturn, 1) := by decide +kernel
theorem dX12_glues_0 : decode cX12_glues 0 = .ok (.iload_n 1, 1) := by decide +kernel
theorem dX12_glues_1 : decode cX12_glues 1 = .ok (.istore_n 2, 1) := by decide +kernel
theorem dX12_glues_2 : decode cX12_glues 2 = .ok (.iload_n 2, 1) := by decide +kernel
theorem dX12_glues_3 : decode cX12_glues 3 = .ok (.aload_n 0, 1) := by decide +kernel
theorem dX12_glues_4 : decode cX12_glues 4 = .ok (.getfield 362, 3) := by decide +kernel
theorem dX12_glues_7 : decode cX12_glues 7 = .ok (.if_icmp .ge 19, 3) := by decide +kernel
theorem dX12_glues_10 : decode cX12_glues 10 = .ok (.aload_n 0, 1) := by decide +kernel
theorem dX12_glues_11 : decode cX12_glues 11 = .ok (.getfield 96, 3) := by decide +kernel
theorem dX12_glues_14 : decode cX12_glues 14 = .ok (.iload_n 2, 1) := by decide +kernel
theorem dX12_glues_15 : decode cX12_glues 15 = .ok (.iaload, 1) := by decide +kernel
theorem dX12_glues_16 : decode cX12_glues 16 = .ok (.iconst (-1), 1) := by decide +kernel
theorem dX12_glues_17 : decode cX12_glues 17 = .ok (.if_icmp .eq 9, 3) := by decide +kernel
theorem dX12_glues_20 : decode cX12_glues 20 = .ok (.iinc 2 1, 3) := by decide +kernel
theorem dX12_glues_23 : decode cX12_glues 23 = .ok (.goto (-21), 3) := by decide +kernel
theorem dX12_glues_26 : decode cX12_glues 26 = .ok (.iload_n 2, 1) := by decide +kernel
theorem dX12_glues_27 : decode cX12_glues 27 = .ok (.aload_n 0, 1) := by decide +kernel
theorem dX12_glues_28 : decode cX12_glues 28 = .ok (.getfield 362, 3) := by decide +kernel
theorem dX12_glues_31 : decode cX12_glues 31 = .ok (.if_icmp .ne 41, 3) := by decide +kernel
theorem dX12_glues_34 : decode cX12_glues 34 = .ok (.aload_n 0, 1) := by decide +kernel
theorem dX12_glues_35 : decode cX12_glues 35 = .ok (.invokevirtual 380, 3) := by decide +kernel
theorem dX12_glues_38 : decode cX12_glues 38 = .ok (.ifCond .ne 5, 3) := by decide +kernel
theorem dX12_glues_41 : decode cX12_glues 41 = .ok (.iconst 0, 1) := by decide +kernel
theorem dX12_glues_42 : decode cX12_glues 42 = .ok (.ireturn, 1) := by decide +kernel
theorem dX12_glues_43 : decode cX12_glues 43 = .ok (.aload_n 0, 1) := by decide +kernel
theorem dX12_glues_44 : decode cX12_glues 44 = .ok (.dup, 1) := by decide +kernel
theorem dX12_glues_45 : decode cX12_glues 45 = .ok (.getfield 383, 3) := by decide +kernel
theorem dX12_glues_48 : decode cX12_glues 48 = .ok (.iconst 1, 1) := by decide +kernel
theorem dX12_glues_49 : decode cX12_glues 49 = .ok (.iadd, 1) := by decide +kernel
theorem dX12_glues_50 : decode cX12_glues 50 = .ok (.putfield 383, 3) := by decide +kernel
theorem dX12_glues_53 : decode cX12_glues 53 = .ok (.aload_n 0, 1) := by decide +kernel
theorem dX12_glues_54 : decode cX12_glues 54 = .ok (.getfield 383, 3) := by decide +kernel
theorem dX12_glues_57 : decode cX12_glues 57 = .ok (.iconst 1, 1) := by decide +kernel
theorem dX12_glues_58 : decode cX12_glues 58 = .ok (.isub, 1) := by decide +kernel
theorem dX12_glues_59 : decode cX12_glues 59 = .ok (.aload_n 0, 1) := by decide +kernel
theorem dX12_glues_60 : decode cX12_glues 60 = .ok (.getfield 386, 3) := by decide +kernel
theorem dX12_glues_63 : decode cX12_glues 63 = .ok (.if_icmp .ne 7, 3) := by decide +kernel
theorem dX12_glues_66 : decode cX12_glues 66 = .ok (.iconst 1, 1) := by decide +kernel
theorem dX12_glues_67 : decode cX12_glues 67 = .ok (.goto 4, 3) := by decide +kernel
theorem dX12_glues_70 : decode cX12_glues 70 = .ok (.iconst 0, 1) := by decide +kernel
theorem dX12_glues_71 : decode cX12_glues 71 = .ok (.ireturn, 1) := by decide +kernel
theorem dX12_glues_72 : decode cX12_glues 72 = .ok (.iload_n 2, 1) := by decide +kernel
theorem dX12_glues_73 : decode cX12_glues 73 = .ok (.iconst 1, 1) := by decide +kernel
theorem dX12_glues_74 : decode cX12_glues 74 = .ok (.iadd, 1) := by decide +kernel
theorem dX12_glues_75 : decode cX12_glues 75 = .ok (.istore_n 3, 1) := by decide +kernel
theorem dX12_glues_76 : decode cX12_glues 76 = .ok (.iload_n 3, 1) := by decide +kernel
theorem dX12_glues_77 : decode cX12_glues 77 = .ok (.aload_n 0, 1) := by decide +kernel
theorem dX12_glues_78 : decode cX12_glues 78 = .ok (.getfield 362, 3) := by decide +kernel
theorem dX12_glues_81 : decode cX12_glues 81 = .ok (.if_icmp .ge 73, 3) := by decide +kernel
theorem dX12_glues_84 : decode cX12_glues 84 = .ok (.aload_n 0, 1) := by decide +kernel
theorem dX12_glues_85 : decode cX12_glues 85 = .ok (.getfield 96, 3) := by decide +kernel
theorem dX12_glues_88 : decode cX12_glues 88 = .ok (.iload_n 3, 1) := by decide +kernel
theorem dX12_glues_89 : decode cX12_glues 89 = .ok (.iaload, 1) := by decide +kernel
theorem dX12_glues_90 : decode cX12_glues 90 = .ok (.iconst (-1), 1) := by decide +kernel
theorem dX12_glues_91 : decode cX12_glues 91 = .ok (.if_icmp .ne 63, 3) := by decide +kernel
theorem dX12_glues_94 : decode cX12_glues 94 = .ok (.aload_n 0, 1) := by decide +kernel
theorem dX12_glues_95 : decode cX12_glues 95 = .ok (.iload_n 2, 1) := by decide +kernel
theorem dX12_glues_96 : decode cX12_glues 96 = .ok (.iconst 1, 1) := by decide +kernel
theorem dX12_glues_97 : decode cX12_glues 97 = .ok (.iadd, 1) := by decide +kernel
theorem dX12_glues_98 : decode cX12_glues 98 = .ok (.iload_n 3, 1) := by decide +kernel
theorem dX12_glues_99 : decode cX12_glues 99 = .ok (.invokevirtual 389, 3) := by decide +kernel
theorem dX12_glues_102 : decode cX12_glues 102 = .ok (.ifCond .ne 6, 3) := by decide +kernel
theorem dX12_glues_105 : decode cX12_glues 105 = .ok (.goto 49, 3) := by decide +kernel
theorem dX12_glues_108 : decode cX12_glues 108 = .ok (.aload_n 0, 1) := by decide +kernel
theorem dX12_glues_109 : decode cX12_glues 109 = .ok (.getfield 96, 3) := by decide +kernel
theorem dX12_glues_112 : decode cX12_glues 112 = .ok (.iload_n 2, 1) := by decide +kernel
theorem dX12_glues_113 : decode cX12_glues 113 = .ok (.iload_n 3, 1) := by decide +kernel
theorem dX12_glues_114 : decode cX12_glues 114 = .ok (.iastore, 1) := by decide +kernel
theorem dX12_glues_115 : decode cX12_glues 115 = .ok (.aload_n 0, 1) := by decide +kernel
theorem dX12_glues_116 : decode cX12_glues 116 = .ok (.getfield 96, 3) := by decide +kernel
theorem dX12_glues_119 : decode cX12_glues 119 = .ok (.iload_n 3, 1) := by decide +kernel
theorem dX12_glues_120 : decode cX12_glues 120 = .ok (.iload_n 2, 1) := by decide +kernel
theorem dX12_glues_121 : decode cX12_glues 121 = .ok (.iastore, 1) := by decide +kernel
theorem dX12_glues_122 : decode cX12_glues 122 = .ok (.aload_n 0, 1) := by decide +kernel
theorem dX12_glues_123 : decode cX12_glues 123 = .ok (.iload_n 2, 1) := by decide +kernel
theorem dX12_glues_124 : decode cX12_glues 124 = .ok (.iconst 1, 1) := by decide +kernel
theorem dX12_glues_125 : decode cX12_glues 125 = .ok (.iadd, 1) := by decide +kernel
theorem dX12_glues_126 : decode cX12_glues 126 = .ok (.invokevirtual 392, 3) := by decide +kernel
theorem dX12_glues_129 : decode cX12_glues 129 = .ok (.ifCond .eq 5, 3) := by decide +kernel
theorem dX12_glues_132 : decode cX12_glues 132 = .ok (.iconst 1, 1) := by decide +kernel
theorem dX12_glues_133 : decode cX12_glues 133 = .ok (.ireturn, 1) := by decide +kernel
theorem dX12_glues_134 : decode cX12_glues 134 = .ok (.aload_n 0, 1) := by decide +kernel
theorem dX12_glues_135 : decode cX12_glues 135 = .ok (.getfield 96, 3) := by decide +kernel
theorem dX12_glues_138 : decode cX12_glues 138 = .ok (.iload_n 2, 1) := by decide +kernel
theorem dX12_glues_139 : decode cX12_glues 139 = .ok (.iconst (-1), 1) := by decide +kernel
theorem dX12_glues_140 : decode cX12_glues 140 = .ok (.iastore, 1) := by decide +kernel
theorem dX12_glues_141 : decode cX12_glues 141 = .ok (.aload_n 0, 1) := by decide +kernel
theorem dX12_glues_142 : decode cX12_glues 142 = .ok (.getfield 96, 3) := by decide +kernel
theorem dX12_glues_145 : decode cX12_glues 145 = .ok (.iload_n 3, 1) := by decide +kernel
theorem dX12_glues_146 : decode cX12_glues 146 = .ok (.iconst (-1), 1) := by decide +kernel
theorem dX12_glues_147 : decode cX12_glues 147 = .ok (.iastore, 1) := by decide +kernel
theorem dX12_glues_148 : decode cX12_glues 148 = .ok (.iinc 3 2, 3) := by decide +kernel
theorem dX12_glues_151 : decode cX12_glues 151 = .ok (.goto (-75), 3) := by decide +kernel
theorem dX12_glues_154 : decode cX12_glues 154 = .ok (.iconst 0, 1) := by decide +kernel
theorem dX12_glues_155 : decode cX12_glues 155 = .ok (.ireturn, 1) := by decide +kernel
theorem dX12_areFree_0 : decode cX12_areFree 0 = .ok (.iload_n 1, 1) := by decide +kernel
theorem dX12_areFree_1 : decode cX12_areFree 1 = .ok (.istore_n 3, 1) := by decide +kernel
theorem dX12_areFree_2 : decode cX12_areFree 2 = .ok (.iload_n 3, 1) := by decide +kernel
theorem dX12_areFree_3 : decode cX12_areFree 3 = .ok (.iload_n 2, 1) := by decide +kernel
theorem dX12_areFree_4 : decode cX12_areFree 4 = .ok (.if_icmp .ge 21, 3) := by decide +kernel
theorem dX12_areFree_7 : decode cX12_areFree 7 = .ok (.aload_n 0, 1) := by decide +kernel
theorem dX12_areFree_8 : decode cX12_areFree 8 = .ok (.getfield 96, 3) := by decide +kernel
theorem dX12_areFree_11 : decode cX12_areFree 11 = .ok (.iload_n 3, 1) := by decide +kernel
theorem dX12_areFree_12 : decode cX12_areFree 12 = .ok (.iaload, 1) := by decide +kernel
theorem dX12_areFree_13 : decode cX12_areFree 13 = .ok (.iconst (-1), 1) := by decide +kernel
theorem dX12_areFree_14 : decode cX12_areFree 14 = .ok (.if_icmp .eq 5, 3) := by decide +kernel
theorem dX12_areFree_17 : decode cX12_areFree 17 = .ok (.iconst 0, 1) := by decide +kernel
theorem dX12_areFree_18 : decode cX12_areFree 18 = .ok (.ireturn, 1) := by decide +kernel
theorem dX12_areFree_19 : decode cX12_areFree 19 = .ok (.iinc 3 1, 3) := by decide +kernel
theorem dX12_areFree_22 : decode cX12_areFree 22 = .ok (.goto (-20), 3) := by decide +kernel
theorem dX12_areFree_25 : decode cX12_areFree 25 = .ok (.iconst 1, 1) := by decide +kernel
theorem dX12_areFree_26 : decode cX12_areFree 26 = .ok (.ireturn, 1) := by decide +kernel
theorem dX12_laysGluings_0 : decode cX12_laysGluings 0 = .ok (.aload_n 0, 1) := by decide +kernel
theorem dX12_laysGluings_1 : decode cX12_laysGluings 1 = .ok (.invokevirtual 368, 3) := by decide +kernel
theorem dX12_laysGluings_4 : decode cX12_laysGluings 4 = .ok (.ifCond .ne 5, 3) := by decide +kernel
theorem dX12_laysGluings_7 : decode cX12_laysGluings 7 = .ok (.iconst (-1), 1) := by decide +kernel
theorem dX12_laysGluings_8 : decode cX12_laysGluings 8 = .ok (.ireturn, 1) := by decide +kernel
theorem dX12_laysGluings_9 : decode cX12_laysGluings 9 = .ok (.aload_n 0, 1) := by decide +kernel
theorem dX12_laysGluings_10 : decode cX12_laysGluings 10 = .ok (.getfield 362, 3) := by decide +kernel
theorem dX12_laysGluings_13 : decode cX12_laysGluings 13 = .ok (.bipush 22, 2) := by decide +kernel
theorem dX12_laysGluings_15 : decode cX12_laysGluings 15 = .ok (.if_icmp .le 6, 3) := by decide +kernel
theorem dX12_laysGluings_18 : decode cX12_laysGluings 18 = .ok (.bipush (-3), 2) := by decide +kernel
theorem dX12_laysGluings_20 : decode cX12_laysGluings 20 = .ok (.ireturn, 1) := by decide +kernel
theorem dX12_laysGluings_21 : decode cX12_laysGluings 21 = .ok (.iconst 0, 1) := by decide +kernel
theorem dX12_laysGluings_22 : decode cX12_laysGluings 22 = .ok (.istore_n 2, 1) := by decide +kernel
theorem dX12_laysGluings_23 : decode cX12_laysGluings 23 = .ok (.iload_n 2, 1) := by decide +kernel
theorem dX12_laysGluings_24 : decode cX12_laysGluings 24 = .ok (.aload_n 0, 1) := by decide +kernel
theorem dX12_laysGluings_25 : decode cX12_laysGluings 25 = .ok (.getfield 362, 3) := by decide +kernel
theorem dX12_laysGluings_28 : decode cX12_laysGluings 28 = .ok (.if_icmp .ge 16, 3) := by decide +kernel
theorem dX12_laysGluings_31 : decode cX12_laysGluings 31 = .ok (.aload_n 0, 1) := by decide +kernel
theorem dX12_laysGluings_32 : decode cX12_laysGluings 32 = .ok (.getfield 96, 3) := by decide +kernel
theorem dX12_laysGluings_35 : decode cX12_laysGluings 35 = .ok (.iload_n 2, 1) := by decide +kernel
theorem dX12_laysGluings_36 : decode cX12_laysGluings 36 = .ok (.iconst (-1), 1) := by decide +kernel
theorem dX12_laysGluings_37 : decode cX12_laysGluings 37 = .ok (.iastore, 1) := by decide +kernel
theorem dX12_laysGluings_38 : decode cX12_laysGluings 38 = .ok (.iinc 2 1, 3) := by decide +kernel
theorem dX12_laysGluings_41 : decode cX12_laysGluings 41 = .ok (.goto (-18), 3) := by decide +kernel
theorem dX12_laysGluings_44 : decode cX12_laysGluings 44 = .ok (.aload_n 0, 1) := by decide +kernel
theorem dX12_laysGluings_45 : decode cX12_laysGluings 45 = .ok (.iconst 0, 1) := by decide +kernel
theorem dX12_laysGluings_46 : decode cX12_laysGluings 46 = .ok (.putfield 383, 3) := by decide +kernel
theorem dX12_laysGluings_49 : decode cX12_laysGluings 49 = .ok (.aload_n 0, 1) := by decide +kernel
theorem dX12_laysGluings_50 : decode cX12_laysGluings 50 = .ok (.iload_n 1, 1) := by decide +kernel
theorem dX12_laysGluings_51 : decode cX12_laysGluings 51 = .ok (.putfield 386, 3) := by decide +kernel
theorem dX12_laysGluings_54 : decode cX12_laysGluings 54 = .ok (.aload_n 0, 1) := by decide +kernel
theorem dX12_laysGluings_55 : decode cX12_laysGluings 55 = .ok (.iconst 0, 1) := by decide +kernel
theorem dX12_laysGluings_56 : decode cX12_laysGluings 56 = .ok (.invokevirtual 392, 3) := by decide +kernel
theorem dX12_laysGluings_59 : decode cX12_laysGluings 59 = .ok (.istore_n 2, 1) := by decide +kernel
theorem dX12_laysGluings_60 : decode cX12_laysGluings 60 = .ok (.aload_n 0, 1) := by decide +kernel
theorem dX12_laysGluings_61 : decode cX12_laysGluings 61 = .ok (.getfield 383, 3) := by decide +kernel
theorem dX12_laysGluings_64 : decode cX12_laysGluings 64 = .ok (.ireturn, 1) := by decide +kernel
theorem dX12_gluings_0 : decode cX12_gluings 0 = .ok (.aload_n 0, 1) := by decide +kernel
theorem dX12_gluings_1 : decode cX12_gluings 1 = .ok (.iconst (-1), 1) := by decide +kernel
theorem dX12_gluings_2 : decode cX12_gluings 2 = .ok (.invokevirtual 395, 3) := by decide +kernel
theorem dX12_gluings_5 : decode cX12_gluings 5 = .ok (.ireturn, 1) := by decide +kernel
theorem dX12_laysOne_0 : decode cX12_laysOne 0 = .ok (.iload_n 1, 1) := by decide +kernel
theorem dX12_laysOne_1 : decode cX12_laysOne 1 = .ok (.ifCond .ge 5, 3) := by decide +kernel
theorem dX12_laysOne_4 : decode cX12_laysOne 4 = .ok (.iconst (-1), 1) := by decide +kernel
theorem dX12_laysOne_5 : decode cX12_laysOne 5 = .ok (.ireturn, 1) := by decide +kernel
theorem dX12_laysOne_6 : decode cX12_laysOne 6 = .ok (.aload_n 0, 1) := by decide +kernel
theorem dX12_laysOne_7 : decode cX12_laysOne 7 = .ok (.iload_n 1, 1) := by decide +kernel
theorem dX12_laysOne_8 : decode cX12_laysOne 8 = .ok (.invokevirtual 395, 3) := by decide +kernel
theorem dX12_laysOne_11 : decode cX12_laysOne 11 = .ok (.istore_n 2, 1) := by decide +kernel
theorem dX12_laysOne_12 : decode cX12_laysOne 12 = .ok (.iload_n 2, 1) := by decide +kernel
theorem dX12_laysOne_13 : decode cX12_laysOne 13 = .ok (.ifCond .ge 7, 3) := by decide +kernel
theorem dX12_laysOne_16 : decode cX12_laysOne 16 = .ok (.iload_n 2, 1) := by decide +kernel
theorem dX12_laysOne_17 : decode cX12_laysOne 17 = .ok (.goto 15, 3) := by decide +kernel
theorem dX12_laysOne_20 : decode cX12_laysOne 20 = .ok (.iload_n 2, 1) := by decide +kernel
theorem dX12_laysOne_21 : decode cX12_laysOne 21 = .ok (.iload_n 1, 1) := by decide +kernel
theorem dX12_laysOne_22 : decode cX12_laysOne 22 = .ok (.iconst 1, 1) := by decide +kernel
theorem dX12_laysOne_23 : decode cX12_laysOne 23 = .ok (.iadd, 1) := by decide +kernel
theorem dX12_laysOne_24 : decode cX12_laysOne 24 = .ok (.if_icmp .ne 7, 3) := by decide +kernel
theorem dX12_laysOne_27 : decode cX12_laysOne 27 = .ok (.iconst 1, 1) := by decide +kernel
theorem dX12_laysOne_28 : decode cX12_laysOne 28 = .ok (.goto 4, 3) := by decide +kernel
theorem dX12_laysOne_31 : decode cX12_laysOne 31 = .ok (.iconst (-1), 1) := by decide +kernel
theorem dX12_laysOne_32 : decode cX12_laysOne 32 = .ok (.ireturn, 1) := by decide +kernel
theorem dX12_glued_0 : decode cX12_glued 0 = .ok (.aload_n 0, 1) := by decide +kernel
theorem dX12_glued_1 : decode cX12_glued 1 = .ok (.invokevirtual 368, 3) := by decide +kernel
theorem dX12_glued_4 : decode cX12_glued 4 = .ok (.ifCond .eq 23, 3) := by decide +kernel
theorem dX12_glued_7 : decode cX12_glued 7 = .ok (.iload_n 2, 1) := by decide +kernel
theorem dX12_glued_8 : decode cX12_glued 8 = .ok (.i2l, 1) := by decide +kernel
theorem dX12_glued_9 : decode cX12_glued 9 = .ok (.lconst 0, 1) := by decide +kernel
theorem dX12_glued_10 : decode cX12_glued 10 = .ok (.aload_n 0, 1) := by decide +kernel
theorem dX12_glued_11 : decode cX12_glued 11 = .ok (.getfield 362, 3) := by decide +kernel
theorem dX12_glued_14 : decode cX12_glued 14 = .ok (.iconst 1, 1) := by decide +kernel
theorem dX12_glued_15 : decode cX12_glued 15 = .ok (.isub, 1) := by decide +kernel
theorem dX12_glued_16 : decode cX12_glued 16 = .ok (.i2l, 1) := by decide +kernel
theorem dX12_glued_17 : decode cX12_glued 17 = .ok (.invokestatic 143, 3) := by decide +kernel
theorem dX12_glued_20 : decode cX12_glued 20 = .ok (.ifCond .eq 7, 3) := by decide +kernel
theorem dX12_glued_23 : decode cX12_glued 23 = .ok (.iload_n 1, 1) := by decide +kernel
theorem dX12_glued_24 : decode cX12_glued 24 = .ok (.ifCond .ge 5, 3) := by decide +kernel
theorem dX12_glued_27 : decode cX12_glued 27 = .ok (.iconst (-1), 1) := by decide +kernel
theorem dX12_glued_28 : decode cX12_glued 28 = .ok (.ireturn, 1) := by decide +kernel
theorem dX12_glued_29 : decode cX12_glued 29 = .ok (.aload_n 0, 1) := by decide +kernel
theorem dX12_glued_30 : decode cX12_glued 30 = .ok (.iload_n 1, 1) := by decide +kernel
theorem dX12_glued_31 : decode cX12_glued 31 = .ok (.invokevirtual 398, 3) := by decide +kernel
theorem dX12_glued_34 : decode cX12_glued 34 = .ok (.istore_n 3, 1) := by decide +kernel
theorem dX12_glued_35 : decode cX12_glued 35 = .ok (.iload_n 3, 1) := by decide +kernel
theorem dX12_glued_36 : decode cX12_glued 36 = .ok (.iconst 1, 1) := by decide +kernel
theorem dX12_glued_37 : decode cX12_glued 37 = .ok (.if_icmp .ne 12, 3) := by decide +kernel
theorem dX12_glued_40 : decode cX12_glued 40 = .ok (.aload_n 0, 1) := by decide +kernel
theorem dX12_glued_41 : decode cX12_glued 41 = .ok (.getfield 96, 3) := by decide +kernel
theorem dX12_glued_44 : decode cX12_glued 44 = .ok (.iload_n 2, 1) := by decide +kernel
theorem dX12_glued_45 : decode cX12_glued 45 = .ok (.iaload, 1) := by decide +kernel
theorem dX12_glued_46 : decode cX12_glued 46 = .ok (.goto 4, 3) := by decide +kernel
theorem dX12_glued_49 : decode cX12_glued 49 = .ok (.iload_n 3, 1) := by decide +kernel
theorem dX12_glued_50 : decode cX12_glued 50 = .ok (.ireturn, 1) := by decide +kernel
theorem dX12_lacks_0 : decode cX12_lacks 0 = .ok (.iload_n 2, 1) := by decide +kernel
theorem dX12_lacks_1 : decode cX12_lacks 1 = .ok (.i2l, 1) := by decide +kernel
theorem dX12_lacks_2 : decode cX12_lacks 2 = .ok (.lconst 0, 1) := by decide +kernel
theorem dX12_lacks_3 : decode cX12_lacks 3 = .ok (.ldc2_w 334, 3) := by decide +kernel
theorem dX12_lacks_6 : decode cX12_lacks 6 = .ok (.invokestatic 143, 3) := by decide +kernel
theorem dX12_lacks_9 : decode cX12_lacks 9 = .ok (.ifCond .ne 5, 3) := by decide +kernel
theorem dX12_lacks_12 : decode cX12_lacks 12 = .ok (.iconst (-1), 1) := by decide +kernel
theorem dX12_lacks_13 : decode cX12_lacks 13 = .ok (.ireturn, 1) := by decide +kernel
theorem dX12_lacks_14 : decode cX12_lacks 14 = .ok (.aload_n 0, 1) := by decide +kernel
theorem dX12_lacks_15 : decode cX12_lacks 15 = .ok (.iload_n 1, 1) := by decide +kernel
theorem dX12_lacks_16 : decode cX12_lacks 16 = .ok (.invokevirtual 398, 3) := by decide +kernel
theorem dX12_lacks_19 : decode cX12_lacks 19 = .ok (.istore_n 3, 1) := by decide +kernel
theorem dX12_lacks_20 : decode cX12_lacks 20 = .ok (.iload_n 3, 1) := by decide +kernel
theorem dX12_lacks_21 : decode cX12_lacks 21 = .ok (.iconst 1, 1) := by decide +kernel
theorem dX12_lacks_22 : decode cX12_lacks 22 = .ok (.if_icmp .eq 5, 3) := by decide +kernel
theorem dX12_lacks_25 : decode cX12_lacks 25 = .ok (.iload_n 3, 1) := by decide +kernel
theorem dX12_lacks_26 : decode cX12_lacks 26 = .ok (.ireturn, 1) := by decide +kernel
theorem dX12_lacks_27 : decode cX12_lacks 27 = .ok (.iconst 0, 1) := by decide +kernel
theorem dX12_lacks_28 : decode cX12_lacks 28 = .ok (.istore 4, 2) := by decide +kernel
theorem dX12_lacks_30 : decode cX12_lacks 30 = .ok (.iconst 0, 1) := by decide +kernel
theorem dX12_lacks_31 : decode cX12_lacks 31 = .ok (.istore 5, 2) := by decide +kernel
theorem dX12_lacks_33 : decode cX12_lacks 33 = .ok (.iconst 4, 1) := by decide +kernel
theorem dX12_lacks_34 : decode cX12_lacks 34 = .ok (.istore 6, 2) := by decide +kernel
theorem dX12_lacks_36 : decode cX12_lacks 36 = .ok (.iconst 0, 1) := by decide +kernel
theorem dX12_lacks_37 : decode cX12_lacks 37 = .ok (.istore 7, 2) := by decide +kernel
theorem dX12_lacks_39 : decode cX12_lacks 39 = .ok (.iload 7, 2) := by decide +kernel
theorem dX12_lacks_41 : decode cX12_lacks 41 = .ok (.aload_n 0, 1) := by decide +kernel
theorem dX12_lacks_42 : decode cX12_lacks 42 = .ok (.getfield 362, 3) := by decide +kernel
theorem dX12_lacks_45 : decode cX12_lacks 45 = .ok (.if_icmp .ge 65, 3) := by decide +kernel
theorem dX12_lacks_48 : decode cX12_lacks 48 = .ok (.aload_n 0, 1) := by decide +kernel
theorem dX12_lacks_49 : decode cX12_lacks 49 = .ok (.getfield 99, 3) := by decide +kernel
theorem dX12_lacks_52 : decode cX12_lacks 52 = .ok (.iload 7, 2) := by decide +kernel
theorem dX12_lacks_54 : decode cX12_lacks 54 = .ok (.iaload, 1) := by decide +kernel
theorem dX12_lacks_55 : decode cX12_lacks 55 = .ok (.iload 7, 2) := by decide +kernel
theorem dX12_lacks_57 : decode cX12_lacks 57 = .ok (.if_icmp .eq 6, 3) := by decide +kernel
theorem dX12_lacks_60 : decode cX12_lacks 60 = .ok (.goto 44, 3) := by decide +kernel
theorem dX12_lacks_63 : decode cX12_lacks 63 = .ok (.iinc 4 1, 3) := by decide +kernel
theorem dX12_lacks_66 : decode cX12_lacks 66 = .ok (.iload 5, 2) := by decide +kernel
theorem dX12_lacks_68 : decode cX12_lacks 68 = .ok (.aload_n 0, 1) := by decide +kernel
theorem dX12_lacks_69 : decode cX12_lacks 69 = .ok (.getfield 102, 3) := by decide +kernel
theorem dX12_lacks_72 : decode cX12_lacks 72 = .ok (.iload 7, 2) := by decide +kernel
theorem dX12_lacks_74 : decode cX12_lacks 74 = .ok (.iaload, 1) := by decide +kernel
theorem dX12_lacks_75 : decode cX12_lacks 75 = .ok (.iconst 4, 1) := by decide +kernel
theorem dX12_lacks_76 : decode cX12_lacks 76 = .ok (.if_icmp .ge 7, 3) := by decide +kernel
theorem dX12_lacks_79 : decode cX12_lacks 79 = .ok (.iconst 1, 1) := by decide +kernel
theorem dX12_lacks_80 : decode cX12_lacks 80 = .ok (.goto 4, 3) := by decide +kernel
theorem dX12_lacks_83 : decode cX12_lacks 83 = .ok (.iconst 0, 1) := by decide +kernel
theorem dX12_lacks_84 : decode cX12_lacks 84 = .ok (.invokestatic 185, 3) := by decide +kernel
theorem dX12_lacks_87 : decode cX12_lacks 87 = .ok (.iadd, 1) := by decide +kernel
theorem dX12_lacks_88 : decode cX12_lacks 88 = .ok (.istore 5, 2) := by decide +kernel
theorem dX12_lacks_90 : decode cX12_lacks 90 = .ok (.iload 6, 2) := by decide +kernel
theorem dX12_lacks_92 : decode cX12_lacks 92 = .ok (.aload_n 0, 1) := by decide +kernel
theorem dX12_lacks_93 : decode cX12_lacks 93 = .ok (.getfield 102, 3) := by decide +kernel
theorem dX12_lacks_96 : decode cX12_lacks 96 = .ok (.iload 7, 2) := by decide +kernel
theorem dX12_lacks_98 : decode cX12_lacks 98 = .ok (.iaload, 1) := by decide +kernel
theorem dX12_lacks_99 : decode cX12_lacks 99 = .ok (.invokestatic 158, 3) := by decide +kernel
theorem dX12_lacks_102 : decode cX12_lacks 102 = .ok (.istore 6, 2) := by decide +kernel
theorem dX12_lacks_104 : decode cX12_lacks 104 = .ok (.iinc 7 1, 3) := by decide +kernel
theorem dX12_lacks_107 : decode cX12_lacks 107 = .ok (.goto (-68), 3) := by decide +kernel
theorem dX12_lacks_110 : decode cX12_lacks 110 = .ok (.iload_n 2, 1) := by decide +kernel
theorem dX12_lacks_111 : decode cX12_lacks 111 = .ok (.ifCond .ne 8, 3) := by decide +kernel
theorem dX12_lacks_114 : decode cX12_lacks 114 = .ok (.iload 4, 2) := by decide +kernel
theorem dX12_lacks_116 : decode cX12_lacks 116 = .ok (.goto 15, 3) := by decide +kernel
theorem dX12_lacks_119 : decode cX12_lacks 119 = .ok (.iload_n 2, 1) := by decide +kernel
theorem dX12_lacks_120 : decode cX12_lacks 120 = .ok (.iconst 1, 1) := by decide +kernel
theorem dX12_lacks_121 : decode cX12_lacks 121 = .ok (.if_icmp .ne 8, 3) := by decide +kernel
theorem dX12_lacks_124 : decode cX12_lacks 124 = .ok (.iload 5, 2) := by decide +kernel
theorem dX12_lacks_126 : decode cX12_lacks 126 = .ok (.goto 5, 3) := by decide +kernel
theorem dX12_lacks_129 : decode cX12_lacks 129 = .ok (.iload 6, 2) := by decide +kernel
theorem dX12_lacks_131 : decode cX12_lacks 131 = .ok (.ireturn, 1) := by decide +kernel
theorem dX12_isOwn_0 : decode cX12_isOwn 0 = .ok (.iconst 0, 1) := by decide +kernel
theorem dX12_isOwn_1 : decode cX12_isOwn 1 = .ok (.istore_n 1, 1) := by decide +kernel
theorem dX12_isOwn_2 : decode cX12_isOwn 2 = .ok (.iload_n 1, 1) := by decide +kernel
theorem dX12_isOwn_3 : decode cX12_isOwn 3 = .ok (.aload_n 0, 1) := by decide +kernel
theorem dX12_isOwn_4 : decode cX12_isOwn 4 = .ok (.getfield 362, 3) := by decide +kernel
theorem dX12_isOwn_7 : decode cX12_isOwn 7 = .ok (.if_icmp .ge 25, 3) := by decide +kernel
theorem dX12_isOwn_10 : decode cX12_isOwn 10 = .ok (.aload_n 0, 1) := by decide +kernel
theorem dX12_isOwn_11 : decode cX12_isOwn 11 = .ok (.getfield 96, 3) := by decide +kernel
theorem dX12_isOwn_14 : decode cX12_isOwn 14 = .ok (.iload_n 1, 1) := by decide +kernel
theorem dX12_isOwn_15 : decode cX12_isOwn 15 = .ok (.iaload, 1) := by decide +kernel
theorem dX12_isOwn_16 : decode cX12_isOwn 16 = .ok (.aload_n 0, 1) := by decide +kernel
theorem dX12_isOwn_17 : decode cX12_isOwn 17 = .ok (.iload_n 1, 1) := by decide +kernel
theorem dX12_isOwn_18 : decode cX12_isOwn 18 = .ok (.invokevirtual 371, 3) := by decide +kernel
theorem dX12_isOwn_21 : decode cX12_isOwn 21 = .ok (.if_icmp .eq 5, 3) := by decide +kernel
theorem dX12_isOwn_24 : decode cX12_isOwn 24 = .ok (.iconst 0, 1) := by decide +kernel
theorem dX12_isOwn_25 : decode cX12_isOwn 25 = .ok (.ireturn, 1) := by decide +kernel
theorem dX12_isOwn_26 : decode cX12_isOwn 26 = .ok (.iinc 1 1, 3) := by decide +kernel
theorem dX12_isOwn_29 : decode cX12_isOwn 29 = .ok (.goto (-27), 3) := by decide +kernel
theorem dX12_isOwn_32 : decode cX12_isOwn 32 = .ok (.iconst 1, 1) := by decide +kernel
theorem dX12_isOwn_33 : decode cX12_isOwn 33 = .ok (.ireturn, 1) := by decide +kernel
theorem dX12_itself_0 : decode cX12_itself 0 = .ok (.aload_n 0, 1) := by decide +kernel
theorem dX12_itself_1 : decode cX12_itself 1 = .ok (.iconst (-1), 1) := by decide +kernel
theorem dX12_itself_2 : decode cX12_itself 2 = .ok (.invokevirtual 395, 3) := by decide +kernel
theorem dX12_itself_5 : decode cX12_itself 5 = .ok (.istore_n 1, 1) := by decide +kernel
theorem dX12_itself_6 : decode cX12_itself 6 = .ok (.iload_n 1, 1) := by decide +kernel
theorem dX12_itself_7 : decode cX12_itself 7 = .ok (.ifCond .ge 5, 3) := by decide +kernel
theorem dX12_itself_10 : decode cX12_itself 10 = .ok (.iload_n 1, 1) := by decide +kernel
theorem dX12_itself_11 : decode cX12_itself 11 = .ok (.ireturn, 1) := by decide +kernel
theorem dX12_itself_12 : decode cX12_itself 12 = .ok (.iconst 0, 1) := by decide +kernel
theorem dX12_itself_13 : decode cX12_itself 13 = .ok (.istore_n 2, 1) := by decide +kernel
theorem dX12_itself_14 : decode cX12_itself 14 = .ok (.iload_n 2, 1) := by decide +kernel
theorem dX12_itself_15 : decode cX12_itself 15 = .ok (.aload_n 0, 1) := by decide +kernel
theorem dX12_itself_16 : decode cX12_itself 16 = .ok (.getfield 362, 3) := by decide +kernel
theorem dX12_itself_19 : decode cX12_itself 19 = .ok (.if_icmp .ge 20, 3) := by decide +kernel
theorem dX12_itself_22 : decode cX12_itself 22 = .ok (.aload_n 0, 1) := by decide +kernel
theorem dX12_itself_23 : decode cX12_itself 23 = .ok (.getfield 96, 3) := by decide +kernel
theorem dX12_itself_26 : decode cX12_itself 26 = .ok (.iload_n 2, 1) := by decide +kernel
theorem dX12_itself_27 : decode cX12_itself 27 = .ok (.aload_n 0, 1) := by decide +kernel
theorem dX12_itself_28 : decode cX12_itself 28 = .ok (.iload_n 2, 1) := by decide +kernel
theorem dX12_itself_29 : decode cX12_itself 29 = .ok (.invokevirtual 371, 3) := by decide +kernel
theorem dX12_itself_32 : decode cX12_itself 32 = .ok (.iastore, 1) := by decide +kernel
theorem dX12_itself_33 : decode cX12_itself 33 = .ok (.iinc 2 1, 3) := by decide +kernel
theorem dX12_itself_36 : decode cX12_itself 36 = .ok (.goto (-22), 3) := by decide +kernel
theorem dX12_itself_39 : decode cX12_itself 39 = .ok (.aload_n 0, 1) := by decide +kernel
theorem dX12_itself_40 : decode cX12_itself 40 = .ok (.invokevirtual 380, 3) := by decide +kernel
theorem dX12_itself_43 : decode cX12_itself 43 = .ok (.ifCond .ne 6, 3) := by decide +kernel
theorem dX12_itself_46 : decode cX12_itself 46 = .ok (.bipush (-2), 2) := by decide +kernel
theorem dX12_itself_48 : decode cX12_itself 48 = .ok (.ireturn, 1) := by decide +kernel
theorem dX12_itself_49 : decode cX12_itself 49 = .ok (.iconst 0, 1) := by decide +kernel
theorem dX12_itself_50 : decode cX12_itself 50 = .ok (.istore_n 2, 1) := by decide +kernel
theorem dX12_itself_51 : decode cX12_itself 51 = .ok (.iload_n 2, 1) := by decide +kernel
theorem dX12_itself_52 : decode cX12_itself 52 = .ok (.iload_n 1, 1) := by decide +kernel
theorem dX12_itself_53 : decode cX12_itself 53 = .ok (.if_icmp .ge 24, 3) := by decide +kernel
theorem dX12_itself_56 : decode cX12_itself 56 = .ok (.aload_n 0, 1) := by decide +kernel
theorem dX12_itself_57 : decode cX12_itself 57 = .ok (.iload_n 2, 1) := by decide +kernel
theorem dX12_itself_58 : decode cX12_itself 58 = .ok (.invokevirtual 395, 3) := by decide +kernel
theorem dX12_itself_61 : decode cX12_itself 61 = .ok (.pop, 1) := by decide +kernel
theorem dX12_itself_62 : decode cX12_itself 62 = .ok (.aload_n 0, 1) := by decide +kernel
theorem dX12_itself_63 : decode cX12_itself 63 = .ok (.invokevirtual 401, 3) := by decide +kernel
theorem dX12_itself_66 : decode cX12_itself 66 = .ok (.ifCond .eq 5, 3) := by decide +kernel
theorem dX12_itself_69 : decode cX12_itself 69 = .ok (.iload_n 2, 1) := by decide +kernel
theorem dX12_itself_70 : decode cX12_itself 70 = .ok (.ireturn, 1) := by decide +kernel
theorem dX12_itself_71 : decode cX12_itself 71 = .ok (.iinc 2 1, 3) := by decide +kernel
theorem dX12_itself_74 : decode cX12_itself 74 = .ok (.goto (-23), 3) := by decide +kernel
theorem dX12_itself_77 : decode cX12_itself 77 = .ok (.bipush (-2), 2) := by decide +kernel
theorem dX12_itself_79 : decode cX12_itself 79 = .ok (.ireturn, 1) := by decide +kernel
theorem dX12_sorts_0 : decode cX12_sorts 0 = .ok (.iconst 1, 1) := by decide +kernel
theorem dX12_sorts_1 : decode cX12_sorts 1 = .ok (.istore_n 2, 1) := by decide +kernel
theorem dX12_sorts_2 : decode cX12_sorts 2 = .ok (.iload_n 2, 1) := by decide +kernel
theorem dX12_sorts_3 : decode cX12_sorts 3 = .ok (.iload_n 1, 1) := by decide +kernel
theorem dX12_sorts_4 : decode cX12_sorts 4 = .ok (.if_icmp .ge 70, 3) := by decide +kernel
theorem dX12_sorts_7 : decode cX12_sorts 7 = .ok (.iload_n 2, 1) := by decide +kernel
theorem dX12_sorts_8 : decode cX12_sorts 8 = .ok (.istore_n 3, 1) := by decide +kernel
theorem dX12_sorts_9 : decode cX12_sorts 9 = .ok (.iload_n 3, 1) := by decide +kernel
theorem dX12_sorts_10 : decode cX12_sorts 10 = .ok (.ifCond .le 58, 3) := by decide +kernel
theorem dX12_sorts_13 : decode cX12_sorts 13 = .ok (.aload_n 0, 1) := by decide +kernel
theorem dX12_sorts_14 : decode cX12_sorts 14 = .ok (.getfield 105, 3) := by decide +kernel
theorem dX12_sorts_17 : decode cX12_sorts 17 = .ok (.iload_n 3, 1) := by decide +kernel
theorem dX12_sorts_18 : decode cX12_sorts 18 = .ok (.iaload, 1) := by decide +kernel
theorem dX12_sorts_19 : decode cX12_sorts 19 = .ok (.aload_n 0, 1) := by decide +kernel
theorem dX12_sorts_20 : decode cX12_sorts 20 = .ok (.getfield 105, 3) := by decide +kernel
theorem dX12_sorts_23 : decode cX12_sorts 23 = .ok (.iload_n 3, 1) := by decide +kernel
theorem dX12_sorts_24 : decode cX12_sorts 24 = .ok (.iconst 1, 1) := by decide +kernel
theorem dX12_sorts_25 : decode cX12_sorts 25 = .ok (.isub, 1) := by decide +kernel
theorem dX12_sorts_26 : decode cX12_sorts 26 = .ok (.iaload, 1) := by decide +kernel
theorem dX12_sorts_27 : decode cX12_sorts 27 = .ok (.if_icmp .ge 41, 3) := by decide +kernel
theorem dX12_sorts_30 : decode cX12_sorts 30 = .ok (.aload_n 0, 1) := by decide +kernel
theorem dX12_sorts_31 : decode cX12_sorts 31 = .ok (.getfield 105, 3) := by decide +kernel
theorem dX12_sorts_34 : decode cX12_sorts 34 = .ok (.iload_n 3, 1) := by decide +kernel
theorem dX12_sorts_35 : decode cX12_sorts 35 = .ok (.iaload, 1) := by decide +kernel
theorem dX12_sorts_36 : decode cX12_sorts 36 = .ok (.istore 4, 2) := by decide +kernel
theorem dX12_sorts_38 : decode cX12_sorts 38 = .ok (.aload_n 0, 1) := by decide +kernel
theorem dX12_sorts_39 : decode cX12_sorts 39 = .ok (.getfield 105, 3) := by decide +kernel
theorem dX12_sorts_42 : decode cX12_sorts 42 = .ok (.iload_n 3, 1) := by decide +kernel
theorem dX12_sorts_43 : decode cX12_sorts 43 = .ok (.aload_n 0, 1) := by decide +kernel
theorem dX12_sorts_44 : decode cX12_sorts 44 = .ok (.getfield 105, 3) := by decide +kernel
theorem dX12_sorts_47 : decode cX12_sorts 47 = .ok (.iload_n 3, 1) := by decide +kernel
theorem dX12_sorts_48 : decode cX12_sorts 48 = .ok (.iconst 1, 1) := by decide +kernel
theorem dX12_sorts_49 : decode cX12_sorts 49 = .ok (.isub, 1) := by decide +kernel
theorem dX12_sorts_50 : decode cX12_sorts 50 = .ok (.iaload, 1) := by decide +kernel
theorem dX12_sorts_51 : decode cX12_sorts 51 = .ok (.iastore, 1) := by decide +kernel
theorem dX12_sorts_52 : decode cX12_sorts 52 = .ok (.aload_n 0, 1) := by decide +kernel
theorem dX12_sorts_53 : decode cX12_sorts 53 = .ok (.getfield 105, 3) := by decide +kernel
theorem dX12_sorts_56 : decode cX12_sorts 56 = .ok (.iload_n 3, 1) := by decide +kernel
theorem dX12_sorts_57 : decode cX12_sorts 57 = .ok (.iconst 1, 1) := by decide +kernel
theorem dX12_sorts_58 : decode cX12_sorts 58 = .ok (.isub, 1) := by decide +kernel
theorem dX12_sorts_59 : decode cX12_sorts 59 = .ok (.iload 4, 2) := by decide +kernel
theorem dX12_sorts_61 : decode cX12_sorts 61 = .ok (.iastore, 1) := by decide +kernel
theorem dX12_sorts_62 : decode cX12_sorts 62 = .ok (.iinc 3 (-1), 3) := by decide +kernel
theorem dX12_sorts_65 : decode cX12_sorts 65 = .ok (.goto (-56), 3) := by decide +kernel
theorem dX12_sorts_68 : decode cX12_sorts 68 = .ok (.iinc 2 1, 3) := by decide +kernel
theorem dX12_sorts_71 : decode cX12_sorts 71 = .ok (.goto (-69), 3) := by decide +kernel
theorem dX12_sorts_74 : decode cX12_sorts 74 = .ok (.return_, 1) := by decide +kernel
theorem dX12_turnedX_0 : decode cX12_turnedX 0 = .ok (.iload_n 2, 1) := by decide +kernel
theorem dX12_turnedX_1 : decode cX12_turnedX 1 = .ok (.iconst 3, 1) := by decide +kernel
theorem dX12_turnedX_2 : decode cX12_turnedX 2 = .ok (.if_icmp .le 8, 3) := by decide +kernel
theorem dX12_turnedX_5 : decode cX12_turnedX 5 = .ok (.iload_n 0, 1) := by decide +kernel
theorem dX12_turnedX_6 : decode cX12_turnedX 6 = .ok (.ineg, 1) := by decide +kernel
theorem dX12_turnedX_7 : decode cX12_turnedX 7 = .ok (.goto 4, 3) := by decide +kernel
theorem dX12_turnedX_10 : decode cX12_turnedX 10 = .ok (.iload_n 0, 1) := by decide +kernel
theorem dX12_turnedX_11 : decode cX12_turnedX 11 = .ok (.istore_n 3, 1) := by decide +kernel
theorem dX12_turnedX_12 : decode cX12_turnedX 12 = .ok (.iload_n 2, 1) := by decide +kernel
theorem dX12_turnedX_13 : decode cX12_turnedX 13 = .ok (.iconst 4, 1) := by decide +kernel
theorem dX12_turnedX_14 : decode cX12_turnedX 14 = .ok (.irem, 1) := by decide +kernel
theorem dX12_turnedX_15 : decode cX12_turnedX 15 = .ok (.ifCond .ne 7, 3) := by decide +kernel
theorem dX12_turnedX_18 : decode cX12_turnedX 18 = .ok (.iload_n 3, 1) := by decide +kernel
theorem dX12_turnedX_19 : decode cX12_turnedX 19 = .ok (.goto 28, 3) := by decide +kernel
theorem dX12_turnedX_22 : decode cX12_turnedX 22 = .ok (.iload_n 2, 1) := by decide +kernel
theorem dX12_turnedX_23 : decode cX12_turnedX 23 = .ok (.iconst 4, 1) := by decide +kernel
theorem dX12_turnedX_24 : decode cX12_turnedX 24 = .ok (.irem, 1) := by decide +kernel
theorem dX12_turnedX_25 : decode cX12_turnedX 25 = .ok (.iconst 1, 1) := by decide +kernel
theorem dX12_turnedX_26 : decode cX12_turnedX 26 = .ok (.if_icmp .ne 8, 3) := by decide +kernel
theorem dX12_turnedX_29 : decode cX12_turnedX 29 = .ok (.iload_n 1, 1) := by decide +kernel
theorem dX12_turnedX_30 : decode cX12_turnedX 30 = .ok (.ineg, 1) := by decide +kernel
theorem dX12_turnedX_31 : decode cX12_turnedX 31 = .ok (.goto 16, 3) := by decide +kernel
theorem dX12_turnedX_34 : decode cX12_turnedX 34 = .ok (.iload_n 2, 1) := by decide +kernel
theorem dX12_turnedX_35 : decode cX12_turnedX 35 = .ok (.iconst 4, 1) := by decide +kernel
theorem dX12_turnedX_36 : decode cX12_turnedX 36 = .ok (.irem, 1) := by decide +kernel
theorem dX12_turnedX_37 : decode cX12_turnedX 37 = .ok (.iconst 2, 1) := by decide +kernel
theorem dX12_turnedX_38 : decode cX12_turnedX 38 = .ok (.if_icmp .ne 8, 3) := by decide +kernel
theorem dX12_turnedX_41 : decode cX12_turnedX 41 = .ok (.iload_n 3, 1) := by decide +kernel
theorem dX12_turnedX_42 : decode cX12_turnedX 42 = .ok (.ineg, 1) := by decide +kernel
theorem dX12_turnedX_43 : decode cX12_turnedX 43 = .ok (.goto 4, 3) := by decide +kernel
theorem dX12_turnedX_46 : decode cX12_turnedX 46 = .ok (.iload_n 1, 1) := by decide +kernel
theorem dX12_turnedX_47 : decode cX12_turnedX 47 = .ok (.ireturn, 1) := by decide +kernel
theorem dX12_turnedY_0 : decode cX12_turnedY 0 = .ok (.iload_n 2, 1) := by decide +kernel
theorem dX12_turnedY_1 : decode cX12_turnedY 1 = .ok (.iconst 3, 1) := by decide +kernel
theorem dX12_turnedY_2 : decode cX12_turnedY 2 = .ok (.if_icmp .le 8, 3) := by decide +kernel
theorem dX12_turnedY_5 : decode cX12_turnedY 5 = .ok (.iload_n 0, 1) := by decide +kernel
theorem dX12_turnedY_6 : decode cX12_turnedY 6 = .ok (.ineg, 1) := by decide +kernel
theorem dX12_turnedY_7 : decode cX12_turnedY 7 = .ok (.goto 4, 3) := by decide +kernel
theorem dX12_turnedY_10 : decode cX12_turnedY 10 = .ok (.iload_n 0, 1) := by decide +kernel
theorem dX12_turnedY_11 : decode cX12_turnedY 11 = .ok (.istore_n 3, 1) := by decide +kernel
theorem dX12_turnedY_12 : decode cX12_turnedY 12 = .ok (.iload_n 2, 1) := by decide +kernel
theorem dX12_turnedY_13 : decode cX12_turnedY 13 = .ok (.iconst 4, 1) := by decide +kernel
theorem dX12_turnedY_14 : decode cX12_turnedY 14 = .ok (.irem, 1) := by decide +kernel
theorem dX12_turnedY_15 : decode cX12_turnedY 15 = .ok (.ifCond .ne 7, 3) := by decide +kernel
theorem dX12_turnedY_18 : decode cX12_turnedY 18 = .ok (.iload_n 1, 1) := by decide +kernel
theorem dX12_turnedY_19 : decode cX12_turnedY 19 = .ok (.goto 28, 3) := by decide +kernel
theorem dX12_turnedY_22 : decode cX12_turnedY 22 = .ok (.iload_n 2, 1) := by decide +kernel
theorem dX12_turnedY_23 : decode cX12_turnedY 23 = .ok (.iconst 4, 1) := by decide +kernel
theorem dX12_turnedY_24 : decode cX12_turnedY 24 = .ok (.irem, 1) := by decide +kernel
theorem dX12_turnedY_25 : decode cX12_turnedY 25 = .ok (.iconst 1, 1) := by decide +kernel
theorem dX12_turnedY_26 : decode cX12_turnedY 26 = .ok (.if_icmp .ne 7, 3) := by decide +kernel
theorem dX12_turnedY_29 : decode cX12_turnedY 29 = .ok (.iload_n 3, 1) := by decide +kernel
theorem dX12_turnedY_30 : decode cX12_turnedY 30 = .ok (.goto 17, 3) := by decide +kernel
theorem dX12_turnedY_33 : decode cX12_turnedY 33 = .ok (.iload_n 2, 1) := by decide +kernel
theorem dX12_turnedY_34 : decode cX12_turnedY 34 = .ok (.iconst 4, 1) := by decide +kernel
theorem dX12_turnedY_35 : decode cX12_turnedY 35 = .ok (.irem, 1) := by decide +kernel
theorem dX12_turnedY_36 : decode cX12_turnedY 36 = .ok (.iconst 2, 1) := by decide +kernel
theorem dX12_turnedY_37 : decode cX12_turnedY 37 = .ok (.if_icmp .ne 8, 3) := by decide +kernel
theorem dX12_turnedY_40 : decode cX12_turnedY 40 = .ok (.iload_n 1, 1) := by decide +kernel
theorem dX12_turnedY_41 : decode cX12_turnedY 41 = .ok (.ineg, 1) := by decide +kernel
theorem dX12_turnedY_42 : decode cX12_turnedY 42 = .ok (.goto 5, 3) := by decide +kernel
theorem dX12_turnedY_45 : decode cX12_turnedY 45 = .ok (.iload_n 3, 1) := by decide +kernel
theorem dX12_turnedY_46 : decode cX12_turnedY 46 = .ok (.ineg, 1) := by decide +kernel
theorem dX12_turnedY_47 : decode cX12_turnedY 47 = .ok (.ireturn, 1) := by decide +kernel
theorem dX12_laysCells_0 : decode cX12_laysCells 0 = .ok (.sipush 1000, 3) := by decide +kernel
theorem dX12_laysCells_3 : decode cX12_laysCells 3 = .ok (.istore_n 2, 1) := by decide +kernel
theorem dX12_laysCells_4 : decode cX12_laysCells 4 = .ok (.sipush 1000, 3) := by decide +kernel
theorem dX12_laysCells_7 : decode cX12_laysCells 7 = .ok (.istore_n 3, 1) := by decide +kernel
theorem dX12_laysCells_8 : decode cX12_laysCells 8 = .ok (.iconst 0, 1) := by decide +kernel
theorem dX12_laysCells_9 : decode cX12_laysCells 9 = .ok (.istore 4, 2) := by decide +kernel
theorem dX12_laysCells_11 : decode cX12_laysCells 11 = .ok (.iload 4, 2) := by decide +kernel
theorem dX12_laysCells_13 : decode cX12_laysCells 13 = .ok (.aload_n 0, 1) := by decide +kernel
theorem dX12_laysCells_14 : decode cX12_laysCells 14 = .ok (.getfield 205, 3) := by decide +kernel
theorem dX12_laysCells_17 : decode cX12_laysCells 17 = .ok (.if_icmp .ge 55, 3) := by decide +kernel
theorem dX12_laysCells_20 : decode cX12_laysCells 20 = .ok (.iload_n 2, 1) := by decide +kernel
theorem dX12_laysCells_21 : decode cX12_laysCells 21 = .ok (.aload_n 0, 1) := by decide +kernel
theorem dX12_laysCells_22 : decode cX12_laysCells 22 = .ok (.getfield 75, 3) := by decide +kernel
theorem dX12_laysCells_25 : decode cX12_laysCells 25 = .ok (.iload 4, 2) := by decide +kernel
theorem dX12_laysCells_27 : decode cX12_laysCells 27 = .ok (.iaload, 1) := by decide +kernel
theorem dX12_laysCells_28 : decode cX12_laysCells 28 = .ok (.aload_n 0, 1) := by decide +kernel
theorem dX12_laysCells_29 : decode cX12_laysCells 29 = .ok (.getfield 78, 3) := by decide +kernel
theorem dX12_laysCells_32 : decode cX12_laysCells 32 = .ok (.iload 4, 2) := by decide +kernel
theorem dX12_laysCells_34 : decode cX12_laysCells 34 = .ok (.iaload, 1) := by decide +kernel
theorem dX12_laysCells_35 : decode cX12_laysCells 35 = .ok (.iload_n 1, 1) := by decide +kernel
theorem dX12_laysCells_36 : decode cX12_laysCells 36 = .ok (.invokestatic 404, 3) := by decide +kernel
theorem dX12_laysCells_39 : decode cX12_laysCells 39 = .ok (.invokestatic 158, 3) := by decide +kernel
theorem dX12_laysCells_42 : decode cX12_laysCells 42 = .ok (.istore_n 2, 1) := by decide +kernel
theorem dX12_laysCells_43 : decode cX12_laysCells 43 = .ok (.iload_n 3, 1) := by decide +kernel
theorem dX12_laysCells_44 : decode cX12_laysCells 44 = .ok (.aload_n 0, 1) := by decide +kernel
theorem dX12_laysCells_45 : decode cX12_laysCells 45 = .ok (.getfield 75, 3) := by decide +kernel
theorem dX12_laysCells_48 : decode cX12_laysCells 48 = .ok (.iload 4, 2) := by decide +kernel
theorem dX12_laysCells_50 : decode cX12_laysCells 50 = .ok (.iaload, 1) := by decide +kernel
theorem dX12_laysCells_51 : decode cX12_laysCells 51 = .ok (.aload_n 0, 1) := by decide +kernel
theorem dX12_laysCells_52 : decode cX12_laysCells 52 = .ok (.getfield 78, 3) := by decide +kernel
theorem dX12_laysCells_55 : decode cX12_laysCells 55 = .ok (.iload 4, 2) := by decide +kernel
theorem dX12_laysCells_57 : decode cX12_laysCells 57 = .ok (.iaload, 1) := by decide +kernel
theorem dX12_laysCells_58 : decode cX12_laysCells 58 = .ok (.iload_n 1, 1) := by decide +kernel
theorem dX12_laysCells_59 : decode cX12_laysCells 59 = .ok (.invokestatic 407, 3) := by decide +kernel
theorem dX12_laysCells_62 : decode cX12_laysCells 62 = .ok (.invokestatic 158, 3) := by decide +kernel
theorem dX12_laysCells_65 : decode cX12_laysCells 65 = .ok (.istore_n 3, 1) := by decide +kernel
theorem dX12_laysCells_66 : decode cX12_laysCells 66 = .ok (.iinc 4 1, 3) := by decide +kernel
theorem dX12_laysCells_69 : decode cX12_laysCells 69 = .ok (.goto (-58), 3) := by decide +kernel
theorem dX12_laysCells_72 : decode cX12_laysCells 72 = .ok (.iconst 0, 1) := by decide +kernel
theorem dX12_laysCells_73 : decode cX12_laysCells 73 = .ok (.istore 4, 2) := by decide +kernel
theorem dX12_laysCells_75 : decode cX12_laysCells 75 = .ok (.iload 4, 2) := by decide +kernel
theorem dX12_laysCells_77 : decode cX12_laysCells 77 = .ok (.aload_n 0, 1) := by decide +kernel
theorem dX12_laysCells_78 : decode cX12_laysCells 78 = .ok (.getfield 205, 3) := by decide +kernel
theorem dX12_laysCells_81 : decode cX12_laysCells 81 = .ok (.if_icmp .ge 60, 3) := by decide +kernel
theorem dX12_laysCells_84 : decode cX12_laysCells 84 = .ok (.aload_n 0, 1) := by decide +kernel
theorem dX12_laysCells_85 : decode cX12_laysCells 85 = .ok (.getfield 105, 3) := by decide +kernel
theorem dX12_laysCells_88 : decode cX12_laysCells 88 = .ok (.iload 4, 2) := by decide +kernel
theorem dX12_laysCells_90 : decode cX12_laysCells 90 = .ok (.bipush 64, 2) := by decide +kernel
theorem dX12_laysCells_92 : decode cX12_laysCells 92 = .ok (.aload_n 0, 1) := by decide +kernel
theorem dX12_laysCells_93 : decode cX12_laysCells 93 = .ok (.getfield 75, 3) := by decide +kernel
theorem dX12_laysCells_96 : decode cX12_laysCells 96 = .ok (.iload 4, 2) := by decide +kernel
theorem dX12_laysCells_98 : decode cX12_laysCells 98 = .ok (.iaload, 1) := by decide +kernel
theorem dX12_laysCells_99 : decode cX12_laysCells 99 = .ok (.aload_n 0, 1) := by decide +kernel
theorem dX12_laysCells_100 : decode cX12_laysCells 100 = .ok (.getfield 78, 3) := by decide +kernel
theorem dX12_laysCells_103 : decode cX12_laysCells 103 = .ok (.iload 4, 2) := by decide +kernel
theorem dX12_laysCells_105 : decode cX12_laysCells 105 = .ok (.iaload, 1) := by decide +kernel
theorem dX12_laysCells_106 : decode cX12_laysCells 106 = .ok (.iload_n 1, 1) := by decide +kernel
theorem dX12_laysCells_107 : decode cX12_laysCells 107 = .ok (.invokestatic 407, 3) := by decide +kernel
theorem dX12_laysCells_110 : decode cX12_laysCells 110 = .ok (.iload_n 3, 1) := by decide +kernel
theorem dX12_laysCells_111 : decode cX12_laysCells 111 = .ok (.isub, 1) := by decide +kernel
theorem dX12_laysCells_112 : decode cX12_laysCells 112 = .ok (.imul, 1) := by decide +kernel
theorem dX12_laysCells_113 : decode cX12_laysCells 113 = .ok (.aload_n 0, 1) := by decide +kernel
theorem dX12_laysCells_114 : decode cX12_laysCells 114 = .ok (.getfield 75, 3) := by decide +kernel
theorem dX12_laysCells_117 : decode cX12_laysCells 117 = .ok (.iload 4, 2) := by decide +kernel
theorem dX12_laysCells_119 : decode cX12_laysCells 119 = .ok (.iaload, 1) := by decide +kernel
theorem dX12_laysCells_120 : decode cX12_laysCells 120 = .ok (.aload_n 0, 1) := by decide +kernel
theorem dX12_laysCells_121 : decode cX12_laysCells 121 = .ok (.getfield 78, 3) := by decide +kernel
theorem dX12_laysCells_124 : decode cX12_laysCells 124 = .ok (.iload 4, 2) := by decide +kernel
theorem dX12_laysCells_126 : decode cX12_laysCells 126 = .ok (.iaload, 1) := by decide +kernel
theorem dX12_laysCells_127 : decode cX12_laysCells 127 = .ok (.iload_n 1, 1) := by decide +kernel
theorem dX12_laysCells_128 : decode cX12_laysCells 128 = .ok (.invokestatic 404, 3) := by decide +kernel
theorem dX12_laysCells_131 : decode cX12_laysCells 131 = .ok (.iadd, 1) := by decide +kernel
theorem dX12_laysCells_132 : decode cX12_laysCells 132 = .ok (.iload_n 2, 1) := by decide +kernel
theorem dX12_laysCells_133 : decode cX12_laysCells 133 = .ok (.isub, 1) := by decide +kernel
theorem dX12_laysCells_134 : decode cX12_laysCells 134 = .ok (.iastore, 1) := by decide +kernel
theorem dX12_laysCells_135 : decode cX12_laysCells 135 = .ok (.iinc 4 1, 3) := by decide +kernel
theorem dX12_laysCells_138 : decode cX12_laysCells 138 = .ok (.goto (-63), 3) := by decide +kernel
theorem dX12_laysCells_141 : decode cX12_laysCells 141 = .ok (.aload_n 0, 1) := by decide +kernel
theorem dX12_laysCells_142 : decode cX12_laysCells 142 = .ok (.aload_n 0, 1) := by decide +kernel
theorem dX12_laysCells_143 : decode cX12_laysCells 143 = .ok (.getfield 205, 3) := by decide +kernel
theorem dX12_laysCells_146 : decode cX12_laysCells 146 = .ok (.invokevirtual 410, 3) := by decide +kernel
theorem dX12_laysCells_149 : decode cX12_laysCells 149 = .ok (.return_, 1) := by decide +kernel
theorem dX12_isLess_0 : decode cX12_isLess 0 = .ok (.iconst 0, 1) := by decide +kernel
theorem dX12_isLess_1 : decode cX12_isLess 1 = .ok (.istore_n 1, 1) := by decide +kernel
theorem dX12_isLess_2 : decode cX12_isLess 2 = .ok (.iload_n 1, 1) := by decide +kernel
theorem dX12_isLess_3 : decode cX12_isLess 3 = .ok (.aload_n 0, 1) := by decide +kernel
theorem dX12_isLess_4 : decode cX12_isLess 4 = .ok (.getfield 205, 3) := by decide +kernel
theorem dX12_isLess_7 : decode cX12_isLess 7 = .ok (.if_icmp .ge 45, 3) := by decide +kernel
theorem dX12_isLess_10 : decode cX12_isLess 10 = .ok (.aload_n 0, 1) := by decide +kernel
theorem dX12_isLess_11 : decode cX12_isLess 11 = .ok (.getfield 105, 3) := by decide +kernel
theorem dX12_isLess_14 : decode cX12_isLess 14 = .ok (.iload_n 1, 1) := by decide +kernel
theorem dX12_isLess_15 : decode cX12_isLess 15 = .ok (.iaload, 1) := by decide +kernel
theorem dX12_isLess_16 : decode cX12_isLess 16 = .ok (.aload_n 0, 1) := by decide +kernel
theorem dX12_isLess_17 : decode cX12_isLess 17 = .ok (.getfield 108, 3) := by decide +kernel
theorem dX12_isLess_20 : decode cX12_isLess 20 = .ok (.iload_n 1, 1) := by decide +kernel
theorem dX12_isLess_21 : decode cX12_isLess 21 = .ok (.iaload, 1) := by decide +kernel
theorem dX12_isLess_22 : decode cX12_isLess 22 = .ok (.if_icmp .eq 24, 3) := by decide +kernel
theorem dX12_isLess_25 : decode cX12_isLess 25 = .ok (.aload_n 0, 1) := by decide +kernel
theorem dX12_isLess_26 : decode cX12_isLess 26 = .ok (.getfield 105, 3) := by decide +kernel
theorem dX12_isLess_29 : decode cX12_isLess 29 = .ok (.iload_n 1, 1) := by decide +kernel
theorem dX12_isLess_30 : decode cX12_isLess 30 = .ok (.iaload, 1) := by decide +kernel
theorem dX12_isLess_31 : decode cX12_isLess 31 = .ok (.aload_n 0, 1) := by decide +kernel
theorem dX12_isLess_32 : decode cX12_isLess 32 = .ok (.getfield 108, 3) := by decide +kernel
theorem dX12_isLess_35 : decode cX12_isLess 35 = .ok (.iload_n 1, 1) := by decide +kernel
theorem dX12_isLess_36 : decode cX12_isLess 36 = .ok (.iaload, 1) := by decide +kernel
theorem dX12_isLess_37 : decode cX12_isLess 37 = .ok (.if_icmp .ge 7, 3) := by decide +kernel
theorem dX12_isLess_40 : decode cX12_isLess 40 = .ok (.iconst 1, 1) := by decide +kernel
theorem dX12_isLess_41 : decode cX12_isLess 41 = .ok (.goto 4, 3) := by decide +kernel
theorem dX12_isLess_44 : decode cX12_isLess 44 = .ok (.iconst 0, 1) := by decide +kernel
theorem dX12_isLess_45 : decode cX12_isLess 45 = .ok (.ireturn, 1) := by decide +kernel
theorem dX12_isLess_46 : decode cX12_isLess 46 = .ok (.iinc 1 1, 3) := by decide +kernel
theorem dX12_isLess_49 : decode cX12_isLess 49 = .ok (.goto (-47), 3) := by decide +kernel
theorem dX12_isLess_52 : decode cX12_isLess 52 = .ok (.iconst 0, 1) := by decide +kernel
theorem dX12_isLess_53 : decode cX12_isLess 53 = .ok (.ireturn, 1) := by decide +kernel
theorem dX12_laysOutline_0 : decode cX12_laysOutline 0 = .ok (.aload_n 0, 1) := by decide +kernel
theorem dX12_laysOutline_1 : decode cX12_laysOutline 1 = .ok (.invokevirtual 325, 3) := by decide +kernel
theorem dX12_laysOutline_4 : decode cX12_laysOutline 4 = .ok (.ifCond .eq 10, 3) := by decide +kernel
theorem dX12_laysOutline_7 : decode cX12_laysOutline 7 = .ok (.aload_n 0, 1) := by decide +kernel
theorem dX12_laysOutline_8 : decode cX12_laysOutline 8 = .ok (.invokevirtual 310, 3) := by decide +kernel
theorem dX12_laysOutline_11 : decode cX12_laysOutline 11 = .ok (.ifCond .le 5, 3) := by decide +kernel
theorem dX12_laysOutline_14 : decode cX12_laysOutline 14 = .ok (.iconst 0, 1) := by decide +kernel
theorem dX12_laysOutline_15 : decode cX12_laysOutline 15 = .ok (.ireturn, 1) := by decide +kernel
theorem dX12_laysOutline_16 : decode cX12_laysOutline 16 = .ok (.iconst 0, 1) := by decide +kernel
theorem dX12_laysOutline_17 : decode cX12_laysOutline 17 = .ok (.istore_n 1, 1) := by decide +kernel
theorem dX12_laysOutline_18 : decode cX12_laysOutline 18 = .ok (.iload_n 1, 1) := by decide +kernel
theorem dX12_laysOutline_19 : decode cX12_laysOutline 19 = .ok (.bipush 8, 2) := by decide +kernel
theorem dX12_laysOutline_21 : decode cX12_laysOutline 21 = .ok (.if_icmp .ge 53, 3) := by decide +kernel
theorem dX12_laysOutline_24 : decode cX12_laysOutline 24 = .ok (.aload_n 0, 1) := by decide +kernel
theorem dX12_laysOutline_25 : decode cX12_laysOutline 25 = .ok (.iload_n 1, 1) := by decide +kernel
theorem dX12_laysOutline_26 : decode cX12_laysOutline 26 = .ok (.invokevirtual 413, 3) := by decide +kernel
theorem dX12_laysOutline_29 : decode cX12_laysOutline 29 = .ok (.iload_n 1, 1) := by decide +kernel
theorem dX12_laysOutline_30 : decode cX12_laysOutline 30 = .ok (.ifCond .eq 10, 3) := by decide +kernel
theorem dX12_laysOutline_33 : decode cX12_laysOutline 33 = .ok (.aload_n 0, 1) := by decide +kernel
theorem dX12_laysOutline_34 : decode cX12_laysOutline 34 = .ok (.invokevirtual 416, 3) := by decide +kernel
theorem dX12_laysOutline_37 : decode cX12_laysOutline 37 = .ok (.ifCond .eq 31, 3) := by decide +kernel
theorem dX12_laysOutline_40 : decode cX12_laysOutline 40 = .ok (.iconst 0, 1) := by decide +kernel
theorem dX12_laysOutline_41 : decode cX12_laysOutline 41 = .ok (.istore_n 2, 1) := by decide +kernel
theorem dX12_laysOutline_42 : decode cX12_laysOutline 42 = .ok (.iload_n 2, 1) := by decide +kernel
theorem dX12_laysOutline_43 : decode cX12_laysOutline 43 = .ok (.aload_n 0, 1) := by decide +kernel
theorem dX12_laysOutline_44 : decode cX12_laysOutline 44 = .ok (.getfield 205, 3) := by decide +kernel
theorem dX12_laysOutline_47 : decode cX12_laysOutline 47 = .ok (.if_icmp .ge 21, 3) := by decide +kernel
theorem dX12_laysOutline_50 : decode cX12_laysOutline 50 = .ok (.aload_n 0, 1) := by decide +kernel
theorem dX12_laysOutline_51 : decode cX12_laysOutline 51 = .ok (.getfield 108, 3) := by decide +kernel
theorem dX12_laysOutline_54 : decode cX12_laysOutline 54 = .ok (.iload_n 2, 1) := by decide +kernel
theorem dX12_laysOutline_55 : decode cX12_laysOutline 55 = .ok (.aload_n 0, 1) := by decide +kernel
theorem dX12_laysOutline_56 : decode cX12_laysOutline 56 = .ok (.getfield 105, 3) := by decide +kernel
theorem dX12_laysOutline_59 : decode cX12_laysOutline 59 = .ok (.iload_n 2, 1) := by decide +kernel
theorem dX12_laysOutline_60 : decode cX12_laysOutline 60 = .ok (.iaload, 1) := by decide +kernel
theorem dX12_laysOutline_61 : decode cX12_laysOutline 61 = .ok (.iastore, 1) := by decide +kernel
theorem dX12_laysOutline_62 : decode cX12_laysOutline 62 = .ok (.iinc 2 1, 3) := by decide +kernel
theorem dX12_laysOutline_65 : decode cX12_laysOutline 65 = .ok (.goto (-23), 3) := by decide +kernel
theorem dX12_laysOutline_68 : decode cX12_laysOutline 68 = .ok (.iinc 1 1, 3) := by decide +kernel
theorem dX12_laysOutline_71 : decode cX12_laysOutline 71 = .ok (.goto (-53), 3) := by decide +kernel
theorem dX12_laysOutline_74 : decode cX12_laysOutline 74 = .ok (.iconst 1, 1) := by decide +kernel
theorem dX12_laysOutline_75 : decode cX12_laysOutline 75 = .ok (.ireturn, 1) := by decide +kernel
theorem dX12_outline_0 : decode cX12_outline 0 = .ok (.aload_n 0, 1) := by decide +kernel
theorem dX12_outline_1 : decode cX12_outline 1 = .ok (.invokevirtual 419, 3) := by decide +kernel
theorem dX12_outline_4 : decode cX12_outline 4 = .ok (.ifCond .ne 5, 3) := by decide +kernel
theorem dX12_outline_7 : decode cX12_outline 7 = .ok (.lconst 0, 1) := by decide +kernel
theorem dX12_outline_8 : decode cX12_outline 8 = .ok (.lreturn, 1) := by decide +kernel
theorem dX12_outline_9 : decode cX12_outline 9 = .ok (.ldc2_w 422, 3) := by decide +kernel
theorem dX12_outline_12 : decode cX12_outline 12 = .ok (.lstore_n 1, 1) := by decide +kernel
theorem dX12_outline_13 : decode cX12_outline 13 = .ok (.iconst 0, 1) := by decide +kernel
theorem dX12_outline_14 : decode cX12_outline 14 = .ok (.istore_n 3, 1) := by decide +kernel
theorem dX12_outline_15 : decode cX12_outline 15 = .ok (.iload_n 3, 1) := by decide +kernel
theorem dX12_outline_16 : decode cX12_outline 16 = .ok (.aload_n 0, 1) := by decide +kernel
theorem dX12_outline_17 : decode cX12_outline 17 = .ok (.getfield 205, 3) := by decide +kernel
theorem dX12_outline_20 : decode cX12_outline 20 = .ok (.if_icmp .ge 23, 3) := by decide +kernel
theorem dX12_outline_23 : decode cX12_outline 23 = .ok (.ldc2_w 424, 3) := by decide +kernel
theorem dX12_outline_26 : decode cX12_outline 26 = .ok (.lload_n 1, 1) := by decide +kernel
theorem dX12_outline_27 : decode cX12_outline 27 = .ok (.lmul, 1) := by decide +kernel
theorem dX12_outline_28 : decode cX12_outline 28 = .ok (.aload_n 0, 1) := by decide +kernel
theorem dX12_outline_29 : decode cX12_outline 29 = .ok (.getfield 108, 3) := by decide +kernel
theorem dX12_outline_32 : decode cX12_outline 32 = .ok (.iload_n 3, 1) := by decide +kernel
theorem dX12_outline_33 : decode cX12_outline 33 = .ok (.iaload, 1) := by decide +kernel
theorem dX12_outline_34 : decode cX12_outline 34 = .ok (.i2l, 1) := by decide +kernel
theorem dX12_outline_35 : decode cX12_outline 35 = .ok (.ladd, 1) := by decide +kernel
theorem dX12_outline_36 : decode cX12_outline 36 = .ok (.lstore_n 1, 1) := by decide +kernel
theorem dX12_outline_37 : decode cX12_outline 37 = .ok (.iinc 3 1, 3) := by decide +kernel
theorem dX12_outline_40 : decode cX12_outline 40 = .ok (.goto (-25), 3) := by decide +kernel
theorem dX12_outline_43 : decode cX12_outline 43 = .ok (.lload_n 1, 1) := by decide +kernel
theorem dX12_outline_44 : decode cX12_outline 44 = .ok (.lreturn, 1) := by decide +kernel
theorem dX12_alike_0 : decode cX12_alike 0 = .ok (.iload_n 1, 1) := by decide +kernel
theorem dX12_alike_1 : decode cX12_alike 1 = .ok (.i2l, 1) := by decide +kernel
theorem dX12_alike_2 : decode cX12_alike 2 = .ok (.lconst 0, 1) := by decide +kernel
theorem dX12_alike_3 : decode cX12_alike 3 = .ok (.lconst 1, 1) := by decide +kernel
theorem dX12_alike_4 : decode cX12_alike 4 = .ok (.invokestatic 143, 3) := by decide +kernel
theorem dX12_alike_7 : decode cX12_alike 7 = .ok (.ifCond .eq 12, 3) := by decide +kernel
theorem dX12_alike_10 : decode cX12_alike 10 = .ok (.aload_n 0, 1) := by decide +kernel
theorem dX12_alike_11 : decode cX12_alike 11 = .ok (.getfield 25, 3) := by decide +kernel
theorem dX12_alike_14 : decode cX12_alike 14 = .ok (.iload_n 1, 1) := by decide +kernel
theorem dX12_alike_15 : decode cX12_alike 15 = .ok (.baload, 1) := by decide +kernel
theorem dX12_alike_16 : decode cX12_alike 16 = .ok (.ifCond .ne 5, 3) := by decide +kernel
theorem dX12_alike_19 : decode cX12_alike 19 = .ok (.iconst (-1), 1) := by decide +kernel
theorem dX12_alike_20 : decode cX12_alike 20 = .ok (.ireturn, 1) := by decide +kernel
theorem dX12_alike_21 : decode cX12_alike 21 = .ok (.aload_n 0, 1) := by decide +kernel
theorem dX12_alike_22 : decode cX12_alike 22 = .ok (.invokevirtual 419, 3) := by decide +kernel
theorem dX12_alike_25 : decode cX12_alike 25 = .ok (.istore_n 2, 1) := by decide +kernel
theorem dX12_alike_26 : decode cX12_alike 26 = .ok (.aload_n 0, 1) := by decide +kernel
theorem dX12_alike_27 : decode cX12_alike 27 = .ok (.getfield 205, 3) := by decide +kernel
theorem dX12_alike_30 : decode cX12_alike 30 = .ok (.istore_n 3, 1) := by decide +kernel
theorem dX12_alike_31 : decode cX12_alike 31 = .ok (.iconst 0, 1) := by decide +kernel
theorem dX12_alike_32 : decode cX12_alike 32 = .ok (.istore 4, 2) := by decide +kernel
theorem dX12_alike_34 : decode cX12_alike 34 = .ok (.iload 4, 2) := by decide +kernel
theorem dX12_alike_36 : decode cX12_alike 36 = .ok (.iload_n 3, 1) := by decide +kernel
theorem dX12_alike_37 : decode cX12_alike 37 = .ok (.if_icmp .ge 23, 3) := by decide +kernel
theorem dX12_alike_40 : decode cX12_alike 40 = .ok (.aload_n 0, 1) := by decide +kernel
theorem dX12_alike_41 : decode cX12_alike 41 = .ok (.getfield 111, 3) := by decide +kernel
theorem dX12_alike_44 : decode cX12_alike 44 = .ok (.iload 4, 2) := by decide +kernel
theorem dX12_alike_46 : decode cX12_alike 46 = .ok (.aload_n 0, 1) := by decide +kernel
theorem dX12_alike_47 : decode cX12_alike 47 = .ok (.getfield 108, 3) := by decide +kernel
theorem dX12_alike_50 : decode cX12_alike 50 = .ok (.iload 4, 2) := by decide +kernel
theorem dX12_alike_52 : decode cX12_alike 52 = .ok (.iaload, 1) := by decide +kernel
theorem dX12_alike_53 : decode cX12_alike 53 = .ok (.iastore, 1) := by decide +kernel
theorem dX12_alike_54 : decode cX12_alike 54 = .ok (.iinc 4 1, 3) := by decide +kernel
theorem dX12_alike_57 : decode cX12_alike 57 = .ok (.goto (-23), 3) := by decide +kernel
theorem dX12_alike_60 : decode cX12_alike 60 = .ok (.aload_n 0, 1) := by decide +kernel
theorem dX12_alike_61 : decode cX12_alike 61 = .ok (.getfield 9, 3) := by decide +kernel
theorem dX12_alike_64 : decode cX12_alike 64 = .ok (.iconst 0, 1) := by decide +kernel
theorem dX12_alike_65 : decode cX12_alike 65 = .ok (.aload_n 0, 1) := by decide +kernel
theorem dX12_alike_66 : decode cX12_alike 66 = .ok (.getfield 16, 3) := by decide +kernel
theorem dX12_alike_69 : decode cX12_alike 69 = .ok (.iconst 0, 1) := by decide +kernel
theorem dX12_alike_70 : decode cX12_alike 70 = .ok (.invokestatic 195, 3) := by decide +kernel
theorem dX12_alike_73 : decode cX12_alike 73 = .ok (.aload_n 0, 1) := by decide +kernel
theorem dX12_alike_74 : decode cX12_alike 74 = .ok (.getfield 22, 3) := by decide +kernel
theorem dX12_alike_77 : decode cX12_alike 77 = .ok (.sipush 143, 3) := by decide +kernel
theorem dX12_alike_80 : decode cX12_alike 80 = .ok (.iload_n 1, 1) := by decide +kernel
theorem dX12_alike_81 : decode cX12_alike 81 = .ok (.imul, 1) := by decide +kernel
theorem dX12_alike_82 : decode cX12_alike 82 = .ok (.aload_n 0, 1) := by decide +kernel
theorem dX12_alike_83 : decode cX12_alike 83 = .ok (.getfield 9, 3) := by decide +kernel
theorem dX12_alike_86 : decode cX12_alike 86 = .ok (.iconst 0, 1) := by decide +kernel
theorem dX12_alike_87 : decode cX12_alike 87 = .ok (.invokestatic 195, 3) := by decide +kernel
theorem dX12_alike_90 : decode cX12_alike 90 = .ok (.aload_n 0, 1) := by decide +kernel
theorem dX12_alike_91 : decode cX12_alike 91 = .ok (.invokevirtual 202, 3) := by decide +kernel
theorem dX12_alike_94 : decode cX12_alike 94 = .ok (.iload_n 2, 1) := by decide +kernel
theorem dX12_alike_95 : decode cX12_alike 95 = .ok (.ifCond .eq 14, 3) := by decide +kernel
theorem dX12_alike_98 : decode cX12_alike 98 = .ok (.aload_n 0, 1) := by decide +kernel
theorem dX12_alike_99 : decode cX12_alike 99 = .ok (.invokevirtual 419, 3) := by decide +kernel
theorem dX12_alike_102 : decode cX12_alike 102 = .ok (.ifCond .eq 7, 3) := by decide +kernel
theorem dX12_alike_105 : decode cX12_alike 105 = .ok (.iconst 1, 1) := by decide +kernel
theorem dX12_alike_106 : decode cX12_alike 106 = .ok (.goto 4, 3) := by decide +kernel
theorem dX12_alike_109 : decode cX12_alike 109 = .ok (.iconst 0, 1) := by decide +kernel
theorem dX12_alike_110 : decode cX12_alike 110 = .ok (.istore 4, 2) := by decide +kernel
theorem dX12_alike_112 : decode cX12_alike 112 = .ok (.iload 4, 2) := by decide +kernel
theorem dX12_alike_114 : decode cX12_alike 114 = .ok (.ifCond .eq 15, 3) := by decide +kernel
theorem dX12_alike_117 : decode cX12_alike 117 = .ok (.iload_n 3, 1) := by decide +kernel
theorem dX12_alike_118 : decode cX12_alike 118 = .ok (.aload_n 0, 1) := by decide +kernel
theorem dX12_alike_119 : decode cX12_alike 119 = .ok (.getfield 205, 3) := by decide +kernel
theorem dX12_alike_122 : decode cX12_alike 122 = .ok (.if_icmp .ne 7, 3) := by decide +kernel
theorem dX12_alike_125 : decode cX12_alike 125 = .ok (.iconst 1, 1) := by decide +kernel
theorem dX12_alike_126 : decode cX12_alike 126 = .ok (.goto 4, 3) := by decide +kernel
theorem dX12_alike_129 : decode cX12_alike 129 = .ok (.iconst 0, 1) := by decide +kernel
theorem dX12_alike_130 : decode cX12_alike 130 = .ok (.istore 5, 2) := by decide +kernel
theorem dX12_alike_132 : decode cX12_alike 132 = .ok (.iconst 0, 1) := by decide +kernel
theorem dX12_alike_133 : decode cX12_alike 133 = .ok (.istore 6, 2) := by decide +kernel
theorem dX12_alike_135 : decode cX12_alike 135 = .ok (.iload 6, 2) := by decide +kernel
theorem dX12_alike_137 : decode cX12_alike 137 = .ok (.iload_n 3, 1) := by decide +kernel
theorem dX12_alike_138 : decode cX12_alike 138 = .ok (.if_icmp .ge 38, 3) := by decide +kernel
theorem dX12_alike_141 : decode cX12_alike 141 = .ok (.iload 5, 2) := by decide +kernel
theorem dX12_alike_143 : decode cX12_alike 143 = .ok (.ifCond .eq 33, 3) := by decide +kernel
theorem dX12_alike_146 : decode cX12_alike 146 = .ok (.aload_n 0, 1) := by decide +kernel
theorem dX12_alike_147 : decode cX12_alike 147 = .ok (.getfield 111, 3) := by decide +kernel
theorem dX12_alike_150 : decode cX12_alike 150 = .ok (.iload 6, 2) := by decide +kernel
theorem dX12_alike_152 : decode cX12_alike 152 = .ok (.iaload, 1) := by decide +kernel
theorem dX12_alike_153 : decode cX12_alike 153 = .ok (.aload_n 0, 1) := by decide +kernel
theorem dX12_alike_154 : decode cX12_alike 154 = .ok (.getfield 108, 3) := by decide +kernel
theorem dX12_alike_157 : decode cX12_alike 157 = .ok (.iload 6, 2) := by decide +kernel
theorem dX12_alike_159 : decode cX12_alike 159 = .ok (.iaload, 1) := by decide +kernel
theorem dX12_alike_160 : decode cX12_alike 160 = .ok (.if_icmp .ne 7, 3) := by decide +kernel
theorem dX12_alike_163 : decode cX12_alike 163 = .ok (.iconst 1, 1) := by decide +kernel
theorem dX12_alike_164 : decode cX12_alike 164 = .ok (.goto 4, 3) := by decide +kernel
theorem dX12_alike_167 : decode cX12_alike 167 = .ok (.iconst 0, 1) := by decide +kernel
theorem dX12_alike_168 : decode cX12_alike 168 = .ok (.istore 5, 2) := by decide +kernel
theorem dX12_alike_170 : decode cX12_alike 170 = .ok (.iinc 6 1, 3) := by decide +kernel
theorem dX12_alike_173 : decode cX12_alike 173 = .ok (.goto (-38), 3) := by decide +kernel
theorem dX12_alike_176 : decode cX12_alike 176 = .ok (.aload_n 0, 1) := by decide +kernel
theorem dX12_alike_177 : decode cX12_alike 177 = .ok (.getfield 16, 3) := by decide +kernel
theorem dX12_alike_180 : decode cX12_alike 180 = .ok (.iconst 0, 1) := by decide +kernel
theorem dX12_alike_181 : decode cX12_alike 181 = .ok (.aload_n 0, 1) := by decide +kernel
theorem dX12_alike_182 : decode cX12_alike 182 = .ok (.getfield 9, 3) := by decide +kernel
theorem dX12_alike_185 : decode cX12_alike 185 = .ok (.iconst 0, 1) := by decide +kernel
theorem dX12_alike_186 : decode cX12_alike 186 = .ok (.invokestatic 195, 3) := by decide +kernel
theorem dX12_alike_189 : decode cX12_alike 189 = .ok (.aload_n 0, 1) := by decide +kernel
theorem dX12_alike_190 : decode cX12_alike 190 = .ok (.invokevirtual 202, 3) := by decide +kernel
theorem dX12_alike_193 : decode cX12_alike 193 = .ok (.iload 4, 2) := by decide +kernel
theorem dX12_alike_195 : decode cX12_alike 195 = .ok (.ifCond .eq 11, 3) := by decide +kernel
theorem dX12_alike_198 : decode cX12_alike 198 = .ok (.iload 5, 2) := by decide +kernel
theorem dX12_alike_200 : decode cX12_alike 200 = .ok (.invokestatic 185, 3) := by decide +kernel
theorem dX12_alike_203 : decode cX12_alike 203 = .ok (.goto 5, 3) := by decide +kernel
theorem dX12_alike_206 : decode cX12_alike 206 = .ok (.bipush (-2), 2) := by decide +kernel
theorem dX12_alike_208 : decode cX12_alike 208 = .ok (.ireturn, 1) := by decide +kernel
theorem dX12_unfree_0 : decode cX12_unfree 0 = .ok (.aload_n 0, 1) := by decide +kernel
theorem dX12_unfree_1 : decode cX12_unfree 1 = .ok (.invokevirtual 304, 3) := by decide +kernel
theorem dX12_unfree_4 : decode cX12_unfree 4 = .ok (.pop, 1) := by decide +kernel
theorem dX12_unfree_5 : decode cX12_unfree 5 = .ok (.iconst 0, 1) := by decide +kernel
theorem dX12_unfree_6 : decode cX12_unfree 6 = .ok (.istore_n 1, 1) := by decide +kernel
theorem dX12_unfree_7 : decode cX12_unfree 7 = .ok (.iconst 0, 1) := by decide +kernel
theorem dX12_unfree_8 : decode cX12_unfree 8 = .ok (.istore_n 2, 1) := by decide +kernel
theorem dX12_unfree_9 : decode cX12_unfree 9 = .ok (.iload_n 2, 1) := by decide +kernel
theorem dX12_unfree_10 : decode cX12_unfree 10 = .ok (.aload_n 0, 1) := by decide +kernel
theorem dX12_unfree_11 : decode cX12_unfree 11 = .ok (.getfield 245, 3) := by decide +kernel
theorem dX12_unfree_14 : decode cX12_unfree 14 = .ok (.if_icmp .ge 36, 3) := by decide +kernel
theorem dX12_unfree_17 : decode cX12_unfree 17 = .ok (.iload_n 1, 1) := by decide +kernel
theorem dX12_unfree_18 : decode cX12_unfree 18 = .ok (.aload_n 0, 1) := by decide +kernel
theorem dX12_unfree_19 : decode cX12_unfree 19 = .ok (.iload_n 2, 1) := by decide +kernel
theorem dX12_unfree_20 : decode cX12_unfree 20 = .ok (.invokevirtual 257, 3) := by decide +kernel
theorem dX12_unfree_23 : decode cX12_unfree 23 = .ok (.ifCond .ne 15, 3) := by decide +kernel
theorem dX12_unfree_26 : decode cX12_unfree 26 = .ok (.aload_n 0, 1) := by decide +kernel
theorem dX12_unfree_27 : decode cX12_unfree 27 = .ok (.iload_n 2, 1) := by decide +kernel
theorem dX12_unfree_28 : decode cX12_unfree 28 = .ok (.invokevirtual 353, 3) := by decide +kernel
theorem dX12_unfree_31 : decode cX12_unfree 31 = .ok (.ifCond .ne 7, 3) := by decide +kernel
theorem dX12_unfree_34 : decode cX12_unfree 34 = .ok (.iconst 1, 1) := by decide +kernel
theorem dX12_unfree_35 : decode cX12_unfree 35 = .ok (.goto 4, 3) := by decide +kernel
theorem dX12_unfree_38 : decode cX12_unfree 38 = .ok (.iconst 0, 1) := by decide +kernel
theorem dX12_unfree_39 : decode cX12_unfree 39 = .ok (.invokestatic 185, 3) := by decide +kernel
theorem dX12_unfree_42 : decode cX12_unfree 42 = .ok (.iadd, 1) := by decide +kernel
theorem dX12_unfree_43 : decode cX12_unfree 43 = .ok (.istore_n 1, 1) := by decide +kernel
theorem dX12_unfree_44 : decode cX12_unfree 44 = .ok (.iinc 2 1, 3) := by decide +kernel
theorem dX12_unfree_47 : decode cX12_unfree 47 = .ok (.goto (-38), 3) := by decide +kernel
theorem dX12_unfree_50 : decode cX12_unfree 50 = .ok (.iload_n 1, 1) := by decide +kernel
theorem dX12_unfree_51 : decode cX12_unfree 51 = .ok (.ireturn, 1) := by decide +kernel
theorem dX12_count_0 : decode cX12_count 0 = .ok (.iload_n 1, 1) := by decide +kernel
theorem dX12_count_1 : decode cX12_count 1 = .ok (.tableswitch 136 0 10 #[59, 66, 71, 76, 81, 86, 94, 99, 104, 109, 131], 59) := by decide +kernel
theorem dX12_count_60 : decode cX12_count 60 = .ok (.aload_n 0, 1) := by decide +kernel
theorem dX12_count_61 : decode cX12_count 61 = .ok (.getfield 9, 3) := by decide +kernel
theorem dX12_count_64 : decode cX12_count 64 = .ok (.iconst 0, 1) := by decide +kernel
theorem dX12_count_65 : decode cX12_count 65 = .ok (.iaload, 1) := by decide +kernel
theorem dX12_count_66 : decode cX12_count 66 = .ok (.ireturn, 1) := by decide +kernel
theorem dX12_count_67 : decode cX12_count 67 = .ok (.aload_n 0, 1) := by decide +kernel
theorem dX12_count_68 : decode cX12_count 68 = .ok (.getfield 205, 3) := by decide +kernel
theorem dX12_count_71 : decode cX12_count 71 = .ok (.ireturn, 1) := by decide +kernel
theorem dX12_count_72 : decode cX12_count 72 = .ok (.aload_n 0, 1) := by decide +kernel
theorem dX12_count_73 : decode cX12_count 73 = .ok (.getfield 245, 3) := by decide +kernel
theorem dX12_count_76 : decode cX12_count 76 = .ok (.ireturn, 1) := by decide +kernel
theorem dX12_count_77 : decode cX12_count 77 = .ok (.aload_n 0, 1) := by decide +kernel
theorem dX12_count_78 : decode cX12_count 78 = .ok (.getfield 251, 3) := by decide +kernel
theorem dX12_count_81 : decode cX12_count 81 = .ok (.ireturn, 1) := by decide +kernel
theorem dX12_count_82 : decode cX12_count 82 = .ok (.aload_n 0, 1) := by decide +kernel
theorem dX12_count_83 : decode cX12_count 83 = .ok (.invokevirtual 254, 3) := by decide +kernel
theorem dX12_count_86 : decode cX12_count 86 = .ok (.ireturn, 1) := by decide +kernel
theorem dX12_count_87 : decode cX12_count 87 = .ok (.aload_n 0, 1) := by decide +kernel
theorem dX12_count_88 : decode cX12_count 88 = .ok (.getfield 9, 3) := by decide +kernel
theorem dX12_count_91 : decode cX12_count 91 = .ok (.bipush 22, 2) := by decide +kernel
theorem dX12_count_93 : decode cX12_count 93 = .ok (.iaload, 1) := by decide +kernel
theorem dX12_count_94 : decode cX12_count 94 = .ok (.ireturn, 1) := by decide +kernel
theorem dX12_count_95 : decode cX12_count 95 = .ok (.aload_n 0, 1) := by decide +kernel
theorem dX12_count_96 : decode cX12_count 96 = .ok (.invokevirtual 304, 3) := by decide +kernel
theorem dX12_count_99 : decode cX12_count 99 = .ok (.ireturn, 1) := by decide +kernel
theorem dX12_count_100 : decode cX12_count 100 = .ok (.aload_n 0, 1) := by decide +kernel
theorem dX12_count_101 : decode cX12_count 101 = .ok (.getfield 199, 3) := by decide +kernel
theorem dX12_count_104 : decode cX12_count 104 = .ok (.ireturn, 1) := by decide +kernel
theorem dX12_count_105 : decode cX12_count 105 = .ok (.aload_n 0, 1) := by decide +kernel
theorem dX12_count_106 : decode cX12_count 106 = .ok (.getfield 114, 3) := by decide +kernel
theorem dX12_count_109 : decode cX12_count 109 = .ok (.ireturn, 1) := by decide +kernel
theorem dX12_count_110 : decode cX12_count 110 = .ok (.aload_n 0, 1) := by decide +kernel
theorem dX12_count_111 : decode cX12_count 111 = .ok (.getfield 25, 3) := by decide +kernel
theorem dX12_count_114 : decode cX12_count 114 = .ok (.iconst 0, 1) := by decide +kernel
theorem dX12_count_115 : decode cX12_count 115 = .ok (.baload, 1) := by decide +kernel
theorem dX12_count_116 : decode cX12_count 116 = .ok (.invokestatic 185, 3) := by decide +kernel
theorem dX12_count_119 : decode cX12_count 119 = .ok (.aload_n 0, 1) := by decide +kernel
theorem dX12_count_120 : decode cX12_count 120 = .ok (.getfield 25, 3) := by decide +kernel
theorem dX12_count_123 : decode cX12_count 123 = .ok (.iconst 1, 1) := by decide +kernel
theorem dX12_count_124 : decode cX12_count 124 = .ok (.baload, 1) := by decide +kernel
theorem dX12_count_125 : decode cX12_count 125 = .ok (.invokestatic 185, 3) := by decide +kernel
theorem dX12_count_128 : decode cX12_count 128 = .ok (.iconst 1, 1) := by decide +kernel
theorem dX12_count_129 : decode cX12_count 129 = .ok (.ishl, 1) := by decide +kernel
theorem dX12_count_130 : decode cX12_count 130 = .ok (.ior, 1) := by decide +kernel
theorem dX12_count_131 : decode cX12_count 131 = .ok (.ireturn, 1) := by decide +kernel
theorem dX12_count_132 : decode cX12_count 132 = .ok (.aload_n 0, 1) := by decide +kernel
theorem dX12_count_133 : decode cX12_count 133 = .ok (.invokevirtual 426, 3) := by decide +kernel
theorem dX12_count_136 : decode cX12_count 136 = .ok (.ireturn, 1) := by decide +kernel
theorem dX12_count_137 : decode cX12_count 137 = .ok (.iconst (-1), 1) := by decide +kernel
theorem dX12_count_138 : decode cX12_count 138 = .ok (.ireturn, 1) := by decide +kernel
theorem dJ13_bitCount_95d88_0 : decode cJ13_bitCount_95d88 0 = .ok (.lload_n 0, 1) := by decide +kernel
theorem dJ13_bitCount_95d88_1 : decode cJ13_bitCount_95d88 1 = .ok (.lload_n 0, 1) := by decide +kernel
theorem dJ13_bitCount_95d88_2 : decode cJ13_bitCount_95d88 2 = .ok (.iconst 1, 1) := by decide +kernel
theorem dJ13_bitCount_95d88_3 : decode cJ13_bitCount_95d88 3 = .ok (.lushr, 1) := by decide +kernel
theorem dJ13_bitCount_95d88_4 : decode cJ13_bitCount_95d88 4 = .ok (.ldc2_w 314, 3) := by decide +kernel
theorem dJ13_bitCount_95d88_7 : decode cJ13_bitCount_95d88 7 = .ok (.land, 1) := by decide +kernel
theorem dJ13_bitCount_95d88_8 : decode cJ13_bitCount_95d88 8 = .ok (.lsub, 1) := by decide +kernel
theorem dJ13_bitCount_95d88_9 : decode cJ13_bitCount_95d88 9 = .ok (.lstore_n 0, 1) := by decide +kernel
theorem dJ13_bitCount_95d88_10 : decode cJ13_bitCount_95d88 10 = .ok (.lload_n 0, 1) := by decide +kernel
theorem dJ13_bitCount_95d88_11 : decode cJ13_bitCount_95d88 11 = .ok (.ldc2_w 316, 3) := by decide +kernel
theorem dJ13_bitCount_95d88_14 : decode cJ13_bitCount_95d88 14 = .ok (.land, 1) := by decide +kernel
theorem dJ13_bitCount_95d88_15 : decode cJ13_bitCount_95d88 15 = .ok (.lload_n 0, 1) := by decide +kernel
theorem dJ13_bitCount_95d88_16 : decode cJ13_bitCount_95d88 16 = .ok (.iconst 2, 1) := by decide +kernel
theorem dJ13_bitCount_95d88_17 : decode cJ13_bitCount_95d88 17 = .ok (.lushr, 1) := by decide +kernel
theorem dJ13_bitCount_95d88_18 : decode cJ13_bitCount_95d88 18 = .ok (.ldc2_w 316, 3) := by decide +kernel
theorem dJ13_bitCount_95d88_21 : decode cJ13_bitCount_95d88 21 = .ok (.land, 1) := by decide +kernel
theorem dJ13_bitCount_95d88_22 : decode cJ13_bitCount_95d88 22 = .ok (.ladd, 1) := by decide +kernel
theorem dJ13_bitCount_95d88_23 : decode cJ13_bitCount_95d88 23 = .ok (.lstore_n 0, 1) := by decide +kernel
theorem dJ13_bitCount_95d88_24 : decode cJ13_bitCount_95d88 24 = .ok (.lload_n 0, 1) := by decide +kernel
theorem dJ13_bitCount_95d88_25 : decode cJ13_bitCount_95d88 25 = .ok (.lload_n 0, 1) := by decide +kernel
theorem dJ13_bitCount_95d88_26 : decode cJ13_bitCount_95d88 26 = .ok (.iconst 4, 1) := by decide +kernel
theorem dJ13_bitCount_95d88_27 : decode cJ13_bitCount_95d88 27 = .ok (.lushr, 1) := by decide +kernel
theorem dJ13_bitCount_95d88_28 : decode cJ13_bitCount_95d88 28 = .ok (.ladd, 1) := by decide +kernel
theorem dJ13_bitCount_95d88_29 : decode cJ13_bitCount_95d88 29 = .ok (.ldc2_w 318, 3) := by decide +kernel
theorem dJ13_bitCount_95d88_32 : decode cJ13_bitCount_95d88 32 = .ok (.land, 1) := by decide +kernel
theorem dJ13_bitCount_95d88_33 : decode cJ13_bitCount_95d88 33 = .ok (.lstore_n 0, 1) := by decide +kernel
theorem dJ13_bitCount_95d88_34 : decode cJ13_bitCount_95d88 34 = .ok (.lload_n 0, 1) := by decide +kernel
theorem dJ13_bitCount_95d88_35 : decode cJ13_bitCount_95d88 35 = .ok (.lload_n 0, 1) := by decide +kernel
theorem dJ13_bitCount_95d88_36 : decode cJ13_bitCount_95d88 36 = .ok (.bipush 8, 2) := by decide +kernel
theorem dJ13_bitCount_95d88_38 : decode cJ13_bitCount_95d88 38 = .ok (.lushr, 1) := by decide +kernel
theorem dJ13_bitCount_95d88_39 : decode cJ13_bitCount_95d88 39 = .ok (.ladd, 1) := by decide +kernel
theorem dJ13_bitCount_95d88_40 : decode cJ13_bitCount_95d88 40 = .ok (.lstore_n 0, 1) := by decide +kernel
theorem dJ13_bitCount_95d88_41 : decode cJ13_bitCount_95d88 41 = .ok (.lload_n 0, 1) := by decide +kernel
theorem dJ13_bitCount_95d88_42 : decode cJ13_bitCount_95d88 42 = .ok (.lload_n 0, 1) := by decide +kernel
theorem dJ13_bitCount_95d88_43 : decode cJ13_bitCount_95d88 43 = .ok (.bipush 16, 2) := by decide +kernel
theorem dJ13_bitCount_95d88_45 : decode cJ13_bitCount_95d88 45 = .ok (.lushr, 1) := by decide +kernel
theorem dJ13_bitCount_95d88_46 : decode cJ13_bitCount_95d88 46 = .ok (.ladd, 1) := by decide +kernel
theorem dJ13_bitCount_95d88_47 : decode cJ13_bitCount_95d88 47 = .ok (.lstore_n 0, 1) := by decide +kernel
theorem dJ13_bitCount_95d88_48 : decode cJ13_bitCount_95d88 48 = .ok (.lload_n 0, 1) := by decide +kernel
theorem dJ13_bitCount_95d88_49 : decode cJ13_bitCount_95d88 49 = .ok (.lload_n 0, 1) := by decide +kernel
theorem dJ13_bitCount_95d88_50 : decode cJ13_bitCount_95d88 50 = .ok (.bipush 32, 2) := by decide +kernel
theorem dJ13_bitCount_95d88_52 : decode cJ13_bitCount_95d88 52 = .ok (.lushr, 1) := by decide +kernel
theorem dJ13_bitCount_95d88_53 : decode cJ13_bitCount_95d88 53 = .ok (.ladd, 1) := by decide +kernel
theorem dJ13_bitCount_95d88_54 : decode cJ13_bitCount_95d88 54 = .ok (.lstore_n 0, 1) := by decide +kernel
theorem dJ13_bitCount_95d88_55 : decode cJ13_bitCount_95d88 55 = .ok (.lload_n 0, 1) := by decide +kernel
theorem dJ13_bitCount_95d88_56 : decode cJ13_bitCount_95d88 56 = .ok (.l2i, 1) := by decide +kernel
theorem dJ13_bitCount_95d88_57 : decode cJ13_bitCount_95d88 57 = .ok (.bipush 127, 2) := by decide +kernel
theorem dJ13_bitCount_95d88_59 : decode cJ13_bitCount_95d88 59 = .ok (.iand, 1) := by decide +kernel
theorem dJ13_bitCount_95d88_60 : decode cJ13_bitCount_95d88 60 = .ok (.ireturn, 1) := by decide +kernel
