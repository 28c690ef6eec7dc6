theorem dX1_init_0 : decode cX1_init 0 = .ok (.aload_n 0, 1) := by decide +kernel
theorem dX1_init_1 : decode cX1_init 1 = .ok (.invokespecial 1, 3) := by decide +kernel
theorem dX1_init_4 : decode cX1_init 4 = .ok (.aload_n 0, 1) := by decide +kernel
theorem dX1_init_5 : decode cX1_init 5 = .ok (.iconst 0, 1) := by decide +kernel
theorem dX1_init_6 : decode cX1_init 6 = .ok (.anewarray 7, 3) := by decide +kernel
theorem dX1_init_9 : decode cX1_init 9 = .ok (.putfield 9, 3) := by decide +kernel
theorem dX1_init_12 : decode cX1_init 12 = .ok (.return_, 1) := by decide +kernel
theorem dX1_more_0 : decode cX1_more 0 = .ok (.aload_n 0, 1) := by decide +kernel
theorem dX1_more_1 : decode cX1_more 1 = .ok (.arraylength, 1) := by decide +kernel
theorem dX1_more_2 : decode cX1_more 2 = .ok (.iconst 1, 1) := by decide +kernel
theorem dX1_more_3 : decode cX1_more 3 = .ok (.iadd, 1) := by decide +kernel
theorem dX1_more_4 : decode cX1_more 4 = .ok (.anewarray 7, 3) := by decide +kernel
theorem dX1_more_7 : decode cX1_more 7 = .ok (.astore_n 2, 1) := by decide +kernel
theorem dX1_more_8 : decode cX1_more 8 = .ok (.iconst 0, 1) := by decide +kernel
theorem dX1_more_9 : decode cX1_more 9 = .ok (.istore_n 3, 1) := by decide +kernel
theorem dX1_more_10 : decode cX1_more 10 = .ok (.iload_n 3, 1) := by decide +kernel
theorem dX1_more_11 : decode cX1_more 11 = .ok (.aload_n 0, 1) := by decide +kernel
theorem dX1_more_12 : decode cX1_more 12 = .ok (.arraylength, 1) := by decide +kernel
theorem dX1_more_13 : decode cX1_more 13 = .ok (.if_icmp .ge 15, 3) := by decide +kernel
theorem dX1_more_16 : decode cX1_more 16 = .ok (.aload_n 2, 1) := by decide +kernel
theorem dX1_more_17 : decode cX1_more 17 = .ok (.iload_n 3, 1) := by decide +kernel
theorem dX1_more_18 : decode cX1_more 18 = .ok (.aload_n 0, 1) := by decide +kernel
theorem dX1_more_19 : decode cX1_more 19 = .ok (.iload_n 3, 1) := by decide +kernel
theorem dX1_more_20 : decode cX1_more 20 = .ok (.aaload, 1) := by decide +kernel
theorem dX1_more_21 : decode cX1_more 21 = .ok (.aastore, 1) := by decide +kernel
theorem dX1_more_22 : decode cX1_more 22 = .ok (.iinc 3 1, 3) := by decide +kernel
theorem dX1_more_25 : decode cX1_more 25 = .ok (.goto (-15), 3) := by decide +kernel
theorem dX1_more_28 : decode cX1_more 28 = .ok (.aload_n 2, 1) := by decide +kernel
theorem dX1_more_29 : decode cX1_more 29 = .ok (.aload_n 0, 1) := by decide +kernel
theorem dX1_more_30 : decode cX1_more 30 = .ok (.arraylength, 1) := by decide +kernel
theorem dX1_more_31 : decode cX1_more 31 = .ok (.aload_n 1, 1) := by decide +kernel
theorem dX1_more_32 : decode cX1_more 32 = .ok (.aastore, 1) := by decide +kernel
theorem dX1_more_33 : decode cX1_more 33 = .ok (.aload_n 2, 1) := by decide +kernel
theorem dX1_more_34 : decode cX1_more 34 = .ok (.areturn, 1) := by decide +kernel
theorem dX1_comes_0 : decode cX1_comes 0 = .ok (.iload_n 0, 1) := by decide +kernel
theorem dX1_comes_1 : decode cX1_comes 1 = .ok (.iload_n 1, 1) := by decide +kernel
theorem dX1_comes_2 : decode cX1_comes 2 = .ok (.ishr, 1) := by decide +kernel
theorem dX1_comes_3 : decode cX1_comes 3 = .ok (.iconst 2, 1) := by decide +kernel
theorem dX1_comes_4 : decode cX1_comes 4 = .ok (.irem, 1) := by decide +kernel
theorem dX1_comes_5 : decode cX1_comes 5 = .ok (.iconst 1, 1) := by decide +kernel
theorem dX1_comes_6 : decode cX1_comes 6 = .ok (.if_icmp .ne 7, 3) := by decide +kernel
theorem dX1_comes_9 : decode cX1_comes 9 = .ok (.iconst 1, 1) := by decide +kernel
theorem dX1_comes_10 : decode cX1_comes 10 = .ok (.goto 4, 3) := by decide +kernel
theorem dX1_comes_13 : decode cX1_comes 13 = .ok (.iconst 0, 1) := by decide +kernel
theorem dX1_comes_14 : decode cX1_comes 14 = .ok (.ireturn, 1) := by decide +kernel
set_option maxRecDepth 20000 in
theorem ggX1_holds_X1_comes : GoodIn wsX1_holds wsX1_comes := goodIn_r _ [4] (by decide +kernel) (by decide +kernel)
set_option maxRecDepth 20000 in
theorem gX1_holds_X1_comes : GoodIn wsX1_holds (va_wsS RX1 15 yX1_comes wsX1_comes) := goodIn_app (goodIn_of _ (by decide +kernel)) ggX1_holds_X1_comes
theorem dX1_holds_0 : decode cX1_holds 0 = .ok (.iload_n 0, 1) := by decide +kernel
theorem dX1_holds_1 : decode cX1_holds 1 = .ok (.iload_n 1, 1) := by decide +kernel
theorem dX1_holds_2 : decode cX1_holds 2 = .ok (.iconst 2, 1) := by decide +kernel
theorem dX1_holds_3 : decode cX1_holds 3 = .ok (.idiv, 1) := by decide +kernel
theorem dX1_holds_4 : decode cX1_holds 4 = .ok (.invokestatic 15, 3) := by decide +kernel
theorem dX1_holds_7 : decode cX1_holds 7 = .ok (.iload_n 1, 1) := by decide +kernel
theorem dX1_holds_8 : decode cX1_holds 8 = .ok (.iconst 2, 1) := by decide +kernel
theorem dX1_holds_9 : decode cX1_holds 9 = .ok (.irem, 1) := by decide +kernel
theorem dX1_holds_10 : decode cX1_holds 10 = .ok (.ifCond .ne 7, 3) := by decide +kernel
theorem dX1_holds_13 : decode cX1_holds 13 = .ok (.iconst 1, 1) := by decide +kernel
theorem dX1_holds_14 : decode cX1_holds 14 = .ok (.goto 4, 3) := by decide +kernel
theorem dX1_holds_17 : decode cX1_holds 17 = .ok (.iconst 0, 1) := by decide +kernel
theorem dX1_holds_18 : decode cX1_holds 18 = .ok (.if_icmp .ne 7, 3) := by decide +kernel
theorem dX1_holds_21 : decode cX1_holds 21 = .ok (.iconst 1, 1) := by decide +kernel
theorem dX1_holds_22 : decode cX1_holds 22 = .ok (.goto 4, 3) := by decide +kernel
theorem dX1_holds_25 : decode cX1_holds 25 = .ok (.iconst 0, 1) := by decide +kernel
theorem dX1_holds_26 : decode cX1_holds 26 = .ok (.ireturn, 1) := by decide +kernel
set_option maxRecDepth 20000 in
theorem ggX1_broken_X1_holds : GoodIn wsX1_broken wsX1_holds := goodIn_r _ [5, 6, 7, 4, 8] (by decide +kernel) (by decide +kernel)
set_option maxRecDepth 20000 in
theorem gX1_broken_X1_holds : GoodIn wsX1_broken (va_wsS RX1 19 yX1_holds wsX1_holds) := goodIn_app (goodIn_of _ (by decide +kernel)) ggX1_broken_X1_holds
theorem dX1_broken_0 : decode cX1_broken 0 = .ok (.iconst 0, 1) := by decide +kernel
theorem dX1_broken_1 : decode cX1_broken 1 = .ok (.istore_n 2, 1) := by decide +kernel
theorem dX1_broken_2 : decode cX1_broken 2 = .ok (.iload_n 2, 1) := by decide +kernel
theorem dX1_broken_3 : decode cX1_broken 3 = .ok (.aload_n 0, 1) := by decide +kernel
theorem dX1_broken_4 : decode cX1_broken 4 = .ok (.getfield 9, 3) := by decide +kernel
theorem dX1_broken_7 : decode cX1_broken 7 = .ok (.arraylength, 1) := by decide +kernel
theorem dX1_broken_8 : decode cX1_broken 8 = .ok (.if_icmp .ge 53, 3) := by decide +kernel
theorem dX1_broken_11 : decode cX1_broken 11 = .ok (.aload_n 0, 1) := by decide +kernel
theorem dX1_broken_12 : decode cX1_broken 12 = .ok (.getfield 9, 3) := by decide +kernel
theorem dX1_broken_15 : decode cX1_broken 15 = .ok (.iload_n 2, 1) := by decide +kernel
theorem dX1_broken_16 : decode cX1_broken 16 = .ok (.aaload, 1) := by decide +kernel
theorem dX1_broken_17 : decode cX1_broken 17 = .ok (.iconst 2, 1) := by decide +kernel
theorem dX1_broken_18 : decode cX1_broken 18 = .ok (.iaload, 1) := by decide +kernel
theorem dX1_broken_19 : decode cX1_broken 19 = .ok (.iconst 1, 1) := by decide +kernel
theorem dX1_broken_20 : decode cX1_broken 20 = .ok (.if_icmp .ne 35, 3) := by decide +kernel
theorem dX1_broken_23 : decode cX1_broken 23 = .ok (.iload_n 1, 1) := by decide +kernel
theorem dX1_broken_24 : decode cX1_broken 24 = .ok (.aload_n 0, 1) := by decide +kernel
theorem dX1_broken_25 : decode cX1_broken 25 = .ok (.getfield 9, 3) := by decide +kernel
theorem dX1_broken_28 : decode cX1_broken 28 = .ok (.iload_n 2, 1) := by decide +kernel
theorem dX1_broken_29 : decode cX1_broken 29 = .ok (.aaload, 1) := by decide +kernel
theorem dX1_broken_30 : decode cX1_broken 30 = .ok (.iconst 0, 1) := by decide +kernel
theorem dX1_broken_31 : decode cX1_broken 31 = .ok (.iaload, 1) := by decide +kernel
theorem dX1_broken_32 : decode cX1_broken 32 = .ok (.invokestatic 19, 3) := by decide +kernel
theorem dX1_broken_35 : decode cX1_broken 35 = .ok (.ifCond .eq 20, 3) := by decide +kernel
theorem dX1_broken_38 : decode cX1_broken 38 = .ok (.iload_n 1, 1) := by decide +kernel
theorem dX1_broken_39 : decode cX1_broken 39 = .ok (.aload_n 0, 1) := by decide +kernel
theorem dX1_broken_40 : decode cX1_broken 40 = .ok (.getfield 9, 3) := by decide +kernel
theorem dX1_broken_43 : decode cX1_broken 43 = .ok (.iload_n 2, 1) := by decide +kernel
theorem dX1_broken_44 : decode cX1_broken 44 = .ok (.aaload, 1) := by decide +kernel
theorem dX1_broken_45 : decode cX1_broken 45 = .ok (.iconst 1, 1) := by decide +kernel
theorem dX1_broken_46 : decode cX1_broken 46 = .ok (.iaload, 1) := by decide +kernel
theorem dX1_broken_47 : decode cX1_broken 47 = .ok (.invokestatic 19, 3) := by decide +kernel
theorem dX1_broken_50 : decode cX1_broken 50 = .ok (.ifCond .ne 5, 3) := by decide +kernel
theorem dX1_broken_53 : decode cX1_broken 53 = .ok (.iload_n 2, 1) := by decide +kernel
theorem dX1_broken_54 : decode cX1_broken 54 = .ok (.ireturn, 1) := by decide +kernel
theorem dX1_broken_55 : decode cX1_broken 55 = .ok (.iinc 2 1, 3) := by decide +kernel
theorem dX1_broken_58 : decode cX1_broken 58 = .ok (.goto (-56), 3) := by decide +kernel
theorem dX1_broken_61 : decode cX1_broken 61 = .ok (.iconst (-1), 1) := by decide +kernel
theorem dX1_broken_62 : decode cX1_broken 62 = .ok (.ireturn, 1) := by decide +kernel
set_option maxRecDepth 20000 in
theorem ggX1_reckon_X1_comes : GoodIn wsX1_reckon wsX1_comes := goodIn_r _ [15] (by decide +kernel) (by decide +kernel)
set_option maxRecDepth 20000 in
theorem gX1_reckon_X1_comes : GoodIn wsX1_reckon (va_wsS RX1 15 yX1_comes wsX1_comes) := goodIn_app (goodIn_of _ (by decide +kernel)) ggX1_reckon_X1_comes
set_option maxRecDepth 20000 in
theorem ggX1_reckon_X1_broken : GoodIn wsX1_reckon wsX1_broken := goodIn_r _ [19, 5, 20, 21, 14, 22, 12, 13, 15, 23, 24, 25, 26, 27] (by decide +kernel) (by decide +kernel)
set_option maxRecDepth 20000 in
theorem gX1_reckon_X1_broken : GoodIn wsX1_reckon (wsV RX1 42 RX1 yX1_broken wsX1_broken) := goodIn_app (goodIn_of _ (by decide +kernel)) ggX1_reckon_X1_broken
theorem dX1_reckon_0 : decode cX1_reckon 0 = .ok (.iconst 2, 1) := by decide +kernel
theorem dX1_reckon_1 : decode cX1_reckon 1 = .ok (.aload_n 0, 1) := by decide +kernel
theorem dX1_reckon_2 : decode cX1_reckon 2 = .ok (.getfield 22, 3) := by decide +kernel
theorem dX1_reckon_5 : decode cX1_reckon 5 = .ok (.imul, 1) := by decide +kernel
theorem dX1_reckon_6 : decode cX1_reckon 6 = .ok (.istore_n 1, 1) := by decide +kernel
theorem dX1_reckon_7 : decode cX1_reckon 7 = .ok (.aload_n 0, 1) := by decide +kernel
theorem dX1_reckon_8 : decode cX1_reckon 8 = .ok (.iload_n 1, 1) := by decide +kernel
theorem dX1_reckon_9 : decode cX1_reckon 9 = .ok (.iload_n 1, 1) := by decide +kernel
theorem dX1_reckon_10 : decode cX1_reckon 10 = .ok (.multianewarray 26 2, 4) := by decide +kernel
theorem dX1_reckon_14 : decode cX1_reckon 14 = .ok (.putfield 27, 3) := by decide +kernel
theorem dX1_reckon_17 : decode cX1_reckon 17 = .ok (.iconst 0, 1) := by decide +kernel
theorem dX1_reckon_18 : decode cX1_reckon 18 = .ok (.istore_n 2, 1) := by decide +kernel
theorem dX1_reckon_19 : decode cX1_reckon 19 = .ok (.iload_n 2, 1) := by decide +kernel
theorem dX1_reckon_20 : decode cX1_reckon 20 = .ok (.iload_n 1, 1) := by decide +kernel
theorem dX1_reckon_21 : decode cX1_reckon 21 = .ok (.if_icmp .ge 41, 3) := by decide +kernel
theorem dX1_reckon_24 : decode cX1_reckon 24 = .ok (.iconst 0, 1) := by decide +kernel
theorem dX1_reckon_25 : decode cX1_reckon 25 = .ok (.istore_n 3, 1) := by decide +kernel
theorem dX1_reckon_26 : decode cX1_reckon 26 = .ok (.iload_n 3, 1) := by decide +kernel
theorem dX1_reckon_27 : decode cX1_reckon 27 = .ok (.iload_n 1, 1) := by decide +kernel
theorem dX1_reckon_28 : decode cX1_reckon 28 = .ok (.if_icmp .ge 28, 3) := by decide +kernel
theorem dX1_reckon_31 : decode cX1_reckon 31 = .ok (.aload_n 0, 1) := by decide +kernel
theorem dX1_reckon_32 : decode cX1_reckon 32 = .ok (.getfield 27, 3) := by decide +kernel
theorem dX1_reckon_35 : decode cX1_reckon 35 = .ok (.iload_n 2, 1) := by decide +kernel
theorem dX1_reckon_36 : decode cX1_reckon 36 = .ok (.aaload, 1) := by decide +kernel
theorem dX1_reckon_37 : decode cX1_reckon 37 = .ok (.iload_n 3, 1) := by decide +kernel
theorem dX1_reckon_38 : decode cX1_reckon 38 = .ok (.iload_n 2, 1) := by decide +kernel
theorem dX1_reckon_39 : decode cX1_reckon 39 = .ok (.iload_n 3, 1) := by decide +kernel
theorem dX1_reckon_40 : decode cX1_reckon 40 = .ok (.if_icmp .ne 7, 3) := by decide +kernel
theorem dX1_reckon_43 : decode cX1_reckon 43 = .ok (.iconst 0, 1) := by decide +kernel
theorem dX1_reckon_44 : decode cX1_reckon 44 = .ok (.goto 5, 3) := by decide +kernel
theorem dX1_reckon_47 : decode cX1_reckon 47 = .ok (.bipush 99, 2) := by decide +kernel
theorem dX1_reckon_49 : decode cX1_reckon 49 = .ok (.iastore, 1) := by decide +kernel
theorem dX1_reckon_50 : decode cX1_reckon 50 = .ok (.iinc 3 1, 3) := by decide +kernel
theorem dX1_reckon_53 : decode cX1_reckon 53 = .ok (.goto (-27), 3) := by decide +kernel
theorem dX1_reckon_56 : decode cX1_reckon 56 = .ok (.iinc 2 1, 3) := by decide +kernel
theorem dX1_reckon_59 : decode cX1_reckon 59 = .ok (.goto (-40), 3) := by decide +kernel
theorem dX1_reckon_62 : decode cX1_reckon 62 = .ok (.aload_n 0, 1) := by decide +kernel
theorem dX1_reckon_63 : decode cX1_reckon 63 = .ok (.getfield 9, 3) := by decide +kernel
theorem dX1_reckon_66 : decode cX1_reckon 66 = .ok (.astore_n 2, 1) := by decide +kernel
theorem dX1_reckon_67 : decode cX1_reckon 67 = .ok (.aload_n 2, 1) := by decide +kernel
theorem dX1_reckon_68 : decode cX1_reckon 68 = .ok (.arraylength, 1) := by decide +kernel
theorem dX1_reckon_69 : decode cX1_reckon 69 = .ok (.istore_n 3, 1) := by decide +kernel
theorem dX1_reckon_70 : decode cX1_reckon 70 = .ok (.iconst 0, 1) := by decide +kernel
theorem dX1_reckon_71 : decode cX1_reckon 71 = .ok (.istore 4, 2) := by decide +kernel
theorem dX1_reckon_73 : decode cX1_reckon 73 = .ok (.iload 4, 2) := by decide +kernel
theorem dX1_reckon_75 : decode cX1_reckon 75 = .ok (.iload_n 3, 1) := by decide +kernel
theorem dX1_reckon_76 : decode cX1_reckon 76 = .ok (.if_icmp .ge 99, 3) := by decide +kernel
theorem dX1_reckon_79 : decode cX1_reckon 79 = .ok (.aload_n 2, 1) := by decide +kernel
theorem dX1_reckon_80 : decode cX1_reckon 80 = .ok (.iload 4, 2) := by decide +kernel
theorem dX1_reckon_82 : decode cX1_reckon 82 = .ok (.aaload, 1) := by decide +kernel
theorem dX1_reckon_83 : decode cX1_reckon 83 = .ok (.astore 5, 2) := by decide +kernel
theorem dX1_reckon_85 : decode cX1_reckon 85 = .ok (.aload 5, 2) := by decide +kernel
theorem dX1_reckon_87 : decode cX1_reckon 87 = .ok (.iconst 2, 1) := by decide +kernel
theorem dX1_reckon_88 : decode cX1_reckon 88 = .ok (.iaload, 1) := by decide +kernel
theorem dX1_reckon_89 : decode cX1_reckon 89 = .ok (.ifCond .ne 6, 3) := by decide +kernel
theorem dX1_reckon_92 : decode cX1_reckon 92 = .ok (.goto 77, 3) := by decide +kernel
theorem dX1_reckon_95 : decode cX1_reckon 95 = .ok (.aload_n 0, 1) := by decide +kernel
theorem dX1_reckon_96 : decode cX1_reckon 96 = .ok (.getfield 27, 3) := by decide +kernel
theorem dX1_reckon_99 : decode cX1_reckon 99 = .ok (.aload 5, 2) := by decide +kernel
theorem dX1_reckon_101 : decode cX1_reckon 101 = .ok (.iconst 0, 1) := by decide +kernel
theorem dX1_reckon_102 : decode cX1_reckon 102 = .ok (.iaload, 1) := by decide +kernel
theorem dX1_reckon_103 : decode cX1_reckon 103 = .ok (.aaload, 1) := by decide +kernel
theorem dX1_reckon_104 : decode cX1_reckon 104 = .ok (.aload 5, 2) := by decide +kernel
theorem dX1_reckon_106 : decode cX1_reckon 106 = .ok (.iconst 1, 1) := by decide +kernel
theorem dX1_reckon_107 : decode cX1_reckon 107 = .ok (.iaload, 1) := by decide +kernel
theorem dX1_reckon_108 : decode cX1_reckon 108 = .ok (.iaload, 1) := by decide +kernel
theorem dX1_reckon_109 : decode cX1_reckon 109 = .ok (.iconst 1, 1) := by decide +kernel
theorem dX1_reckon_110 : decode cX1_reckon 110 = .ok (.if_icmp .le 18, 3) := by decide +kernel
theorem dX1_reckon_113 : decode cX1_reckon 113 = .ok (.aload_n 0, 1) := by decide +kernel
theorem dX1_reckon_114 : decode cX1_reckon 114 = .ok (.getfield 27, 3) := by decide +kernel
theorem dX1_reckon_117 : decode cX1_reckon 117 = .ok (.aload 5, 2) := by decide +kernel
theorem dX1_reckon_119 : decode cX1_reckon 119 = .ok (.iconst 0, 1) := by decide +kernel
theorem dX1_reckon_120 : decode cX1_reckon 120 = .ok (.iaload, 1) := by decide +kernel
theorem dX1_reckon_121 : decode cX1_reckon 121 = .ok (.aaload, 1) := by decide +kernel
theorem dX1_reckon_122 : decode cX1_reckon 122 = .ok (.aload 5, 2) := by decide +kernel
theorem dX1_reckon_124 : decode cX1_reckon 124 = .ok (.iconst 1, 1) := by decide +kernel
theorem dX1_reckon_125 : decode cX1_reckon 125 = .ok (.iaload, 1) := by decide +kernel
theorem dX1_reckon_126 : decode cX1_reckon 126 = .ok (.iconst 1, 1) := by decide +kernel
theorem dX1_reckon_127 : decode cX1_reckon 127 = .ok (.iastore, 1) := by decide +kernel
theorem dX1_reckon_128 : decode cX1_reckon 128 = .ok (.aload_n 0, 1) := by decide +kernel
theorem dX1_reckon_129 : decode cX1_reckon 129 = .ok (.getfield 27, 3) := by decide +kernel
theorem dX1_reckon_132 : decode cX1_reckon 132 = .ok (.aload 5, 2) := by decide +kernel
theorem dX1_reckon_134 : decode cX1_reckon 134 = .ok (.iconst 1, 1) := by decide +kernel
theorem dX1_reckon_135 : decode cX1_reckon 135 = .ok (.iaload, 1) := by decide +kernel
theorem dX1_reckon_136 : decode cX1_reckon 136 = .ok (.iconst 1, 1) := by decide +kernel
theorem dX1_reckon_137 : decode cX1_reckon 137 = .ok (.ixor, 1) := by decide +kernel
theorem dX1_reckon_138 : decode cX1_reckon 138 = .ok (.aaload, 1) := by decide +kernel
theorem dX1_reckon_139 : decode cX1_reckon 139 = .ok (.aload 5, 2) := by decide +kernel
theorem dX1_reckon_141 : decode cX1_reckon 141 = .ok (.iconst 0, 1) := by decide +kernel
theorem dX1_reckon_142 : decode cX1_reckon 142 = .ok (.iaload, 1) := by decide +kernel
theorem dX1_reckon_143 : decode cX1_reckon 143 = .ok (.iconst 1, 1) := by decide +kernel
theorem dX1_reckon_144 : decode cX1_reckon 144 = .ok (.ixor, 1) := by decide +kernel
theorem dX1_reckon_145 : decode cX1_reckon 145 = .ok (.iaload, 1) := by decide +kernel
theorem dX1_reckon_146 : decode cX1_reckon 146 = .ok (.iconst 1, 1) := by decide +kernel
theorem dX1_reckon_147 : decode cX1_reckon 147 = .ok (.if_icmp .le 22, 3) := by decide +kernel
theorem dX1_reckon_150 : decode cX1_reckon 150 = .ok (.aload_n 0, 1) := by decide +kernel
theorem dX1_reckon_151 : decode cX1_reckon 151 = .ok (.getfield 27, 3) := by decide +kernel
theorem dX1_reckon_154 : decode cX1_reckon 154 = .ok (.aload 5, 2) := by decide +kernel
theorem dX1_reckon_156 : decode cX1_reckon 156 = .ok (.iconst 1, 1) := by decide +kernel
theorem dX1_reckon_157 : decode cX1_reckon 157 = .ok (.iaload, 1) := by decide +kernel
theorem dX1_reckon_158 : decode cX1_reckon 158 = .ok (.iconst 1, 1) := by decide +kernel
theorem dX1_reckon_159 : decode cX1_reckon 159 = .ok (.ixor, 1) := by decide +kernel
theorem dX1_reckon_160 : decode cX1_reckon 160 = .ok (.aaload, 1) := by decide +kernel
theorem dX1_reckon_161 : decode cX1_reckon 161 = .ok (.aload 5, 2) := by decide +kernel
theorem dX1_reckon_163 : decode cX1_reckon 163 = .ok (.iconst 0, 1) := by decide +kernel
theorem dX1_reckon_164 : decode cX1_reckon 164 = .ok (.iaload, 1) := by decide +kernel
theorem dX1_reckon_165 : decode cX1_reckon 165 = .ok (.iconst 1, 1) := by decide +kernel
theorem dX1_reckon_166 : decode cX1_reckon 166 = .ok (.ixor, 1) := by decide +kernel
theorem dX1_reckon_167 : decode cX1_reckon 167 = .ok (.iconst 1, 1) := by decide +kernel
theorem dX1_reckon_168 : decode cX1_reckon 168 = .ok (.iastore, 1) := by decide +kernel
theorem dX1_reckon_169 : decode cX1_reckon 169 = .ok (.iinc 4 1, 3) := by decide +kernel
theorem dX1_reckon_172 : decode cX1_reckon 172 = .ok (.goto (-99), 3) := by decide +kernel
theorem dX1_reckon_175 : decode cX1_reckon 175 = .ok (.iconst 0, 1) := by decide +kernel
theorem dX1_reckon_176 : decode cX1_reckon 176 = .ok (.istore_n 2, 1) := by decide +kernel
theorem dX1_reckon_177 : decode cX1_reckon 177 = .ok (.iload_n 2, 1) := by decide +kernel
theorem dX1_reckon_178 : decode cX1_reckon 178 = .ok (.iload_n 1, 1) := by decide +kernel
theorem dX1_reckon_179 : decode cX1_reckon 179 = .ok (.if_icmp .ge 76, 3) := by decide +kernel
theorem dX1_reckon_182 : decode cX1_reckon 182 = .ok (.iconst 0, 1) := by decide +kernel
theorem dX1_reckon_183 : decode cX1_reckon 183 = .ok (.istore_n 3, 1) := by decide +kernel
theorem dX1_reckon_184 : decode cX1_reckon 184 = .ok (.iload_n 3, 1) := by decide +kernel
theorem dX1_reckon_185 : decode cX1_reckon 185 = .ok (.iload_n 1, 1) := by decide +kernel
theorem dX1_reckon_186 : decode cX1_reckon 186 = .ok (.if_icmp .ge 63, 3) := by decide +kernel
theorem dX1_reckon_189 : decode cX1_reckon 189 = .ok (.iconst 0, 1) := by decide +kernel
theorem dX1_reckon_190 : decode cX1_reckon 190 = .ok (.istore 4, 2) := by decide +kernel
theorem dX1_reckon_192 : decode cX1_reckon 192 = .ok (.iload 4, 2) := by decide +kernel
theorem dX1_reckon_194 : decode cX1_reckon 194 = .ok (.iload_n 1, 1) := by decide +kernel
theorem dX1_reckon_195 : decode cX1_reckon 195 = .ok (.if_icmp .ge 48, 3) := by decide +kernel
theorem dX1_reckon_198 : decode cX1_reckon 198 = .ok (.aload_n 0, 1) := by decide +kernel
theorem dX1_reckon_199 : decode cX1_reckon 199 = .ok (.getfield 27, 3) := by decide +kernel
theorem dX1_reckon_202 : decode cX1_reckon 202 = .ok (.iload_n 3, 1) := by decide +kernel
theorem dX1_reckon_203 : decode cX1_reckon 203 = .ok (.aaload, 1) := by decide +kernel
theorem dX1_reckon_204 : decode cX1_reckon 204 = .ok (.iload 4, 2) := by decide +kernel
theorem dX1_reckon_206 : decode cX1_reckon 206 = .ok (.aload_n 0, 1) := by decide +kernel
theorem dX1_reckon_207 : decode cX1_reckon 207 = .ok (.getfield 27, 3) := by decide +kernel
theorem dX1_reckon_210 : decode cX1_reckon 210 = .ok (.iload_n 3, 1) := by decide +kernel
theorem dX1_reckon_211 : decode cX1_reckon 211 = .ok (.aaload, 1) := by decide +kernel
theorem dX1_reckon_212 : decode cX1_reckon 212 = .ok (.iload 4, 2) := by decide +kernel
theorem dX1_reckon_214 : decode cX1_reckon 214 = .ok (.iaload, 1) := by decide +kernel
theorem dX1_reckon_215 : decode cX1_reckon 215 = .ok (.aload_n 0, 1) := by decide +kernel
theorem dX1_reckon_216 : decode cX1_reckon 216 = .ok (.getfield 27, 3) := by decide +kernel
theorem dX1_reckon_219 : decode cX1_reckon 219 = .ok (.iload_n 3, 1) := by decide +kernel
theorem dX1_reckon_220 : decode cX1_reckon 220 = .ok (.aaload, 1) := by decide +kernel
theorem dX1_reckon_221 : decode cX1_reckon 221 = .ok (.iload_n 2, 1) := by decide +kernel
theorem dX1_reckon_222 : decode cX1_reckon 222 = .ok (.iaload, 1) := by decide +kernel
theorem dX1_reckon_223 : decode cX1_reckon 223 = .ok (.aload_n 0, 1) := by decide +kernel
theorem dX1_reckon_224 : decode cX1_reckon 224 = .ok (.getfield 27, 3) := by decide +kernel
theorem dX1_reckon_227 : decode cX1_reckon 227 = .ok (.iload_n 2, 1) := by decide +kernel
theorem dX1_reckon_228 : decode cX1_reckon 228 = .ok (.aaload, 1) := by decide +kernel
theorem dX1_reckon_229 : decode cX1_reckon 229 = .ok (.iload 4, 2) := by decide +kernel
theorem dX1_reckon_231 : decode cX1_reckon 231 = .ok (.iaload, 1) := by decide +kernel
theorem dX1_reckon_232 : decode cX1_reckon 232 = .ok (.iadd, 1) := by decide +kernel
theorem dX1_reckon_233 : decode cX1_reckon 233 = .ok (.invokestatic 30, 3) := by decide +kernel
theorem dX1_reckon_236 : decode cX1_reckon 236 = .ok (.iastore, 1) := by decide +kernel
theorem dX1_reckon_237 : decode cX1_reckon 237 = .ok (.iinc 4 1, 3) := by decide +kernel
theorem dX1_reckon_240 : decode cX1_reckon 240 = .ok (.goto (-48), 3) := by decide +kernel
theorem dX1_reckon_243 : decode cX1_reckon 243 = .ok (.iinc 3 1, 3) := by decide +kernel
theorem dX1_reckon_246 : decode cX1_reckon 246 = .ok (.goto (-62), 3) := by decide +kernel
theorem dX1_reckon_249 : decode cX1_reckon 249 = .ok (.iinc 2 1, 3) := by decide +kernel
theorem dX1_reckon_252 : decode cX1_reckon 252 = .ok (.goto (-75), 3) := by decide +kernel
theorem dX1_reckon_255 : decode cX1_reckon 255 = .ok (.aload_n 0, 1) := by decide +kernel
theorem dX1_reckon_256 : decode cX1_reckon 256 = .ok (.iconst 1, 1) := by decide +kernel
theorem dX1_reckon_257 : decode cX1_reckon 257 = .ok (.aload_n 0, 1) := by decide +kernel
theorem dX1_reckon_258 : decode cX1_reckon 258 = .ok (.getfield 22, 3) := by decide +kernel
theorem dX1_reckon_261 : decode cX1_reckon 261 = .ok (.ishl, 1) := by decide +kernel
theorem dX1_reckon_262 : decode cX1_reckon 262 = .ok (.newarray .int, 2) := by decide +kernel
theorem dX1_reckon_264 : decode cX1_reckon 264 = .ok (.putfield 36, 3) := by decide +kernel
theorem dX1_reckon_267 : decode cX1_reckon 267 = .ok (.aload_n 0, 1) := by decide +kernel
theorem dX1_reckon_268 : decode cX1_reckon 268 = .ok (.iconst 0, 1) := by decide +kernel
theorem dX1_reckon_269 : decode cX1_reckon 269 = .ok (.putfield 39, 3) := by decide +kernel
theorem dX1_reckon_272 : decode cX1_reckon 272 = .ok (.iconst 0, 1) := by decide +kernel
theorem dX1_reckon_273 : decode cX1_reckon 273 = .ok (.istore_n 2, 1) := by decide +kernel
theorem dX1_reckon_274 : decode cX1_reckon 274 = .ok (.iload_n 2, 1) := by decide +kernel
theorem dX1_reckon_275 : decode cX1_reckon 275 = .ok (.aload_n 0, 1) := by decide +kernel
theorem dX1_reckon_276 : decode cX1_reckon 276 = .ok (.getfield 36, 3) := by decide +kernel
theorem dX1_reckon_279 : decode cX1_reckon 279 = .ok (.arraylength, 1) := by decide +kernel
theorem dX1_reckon_280 : decode cX1_reckon 280 = .ok (.if_icmp .ge 88, 3) := by decide +kernel
theorem dX1_reckon_283 : decode cX1_reckon 283 = .ok (.iconst 0, 1) := by decide +kernel
theorem dX1_reckon_284 : decode cX1_reckon 284 = .ok (.istore_n 3, 1) := by decide +kernel
theorem dX1_reckon_285 : decode cX1_reckon 285 = .ok (.iconst 0, 1) := by decide +kernel
theorem dX1_reckon_286 : decode cX1_reckon 286 = .ok (.istore 4, 2) := by decide +kernel
theorem dX1_reckon_288 : decode cX1_reckon 288 = .ok (.iload 4, 2) := by decide +kernel
theorem dX1_reckon_290 : decode cX1_reckon 290 = .ok (.aload_n 0, 1) := by decide +kernel
theorem dX1_reckon_291 : decode cX1_reckon 291 = .ok (.getfield 22, 3) := by decide +kernel
theorem dX1_reckon_294 : decode cX1_reckon 294 = .ok (.if_icmp .ge 26, 3) := by decide +kernel
theorem dX1_reckon_297 : decode cX1_reckon 297 = .ok (.iload_n 3, 1) := by decide +kernel
theorem dX1_reckon_298 : decode cX1_reckon 298 = .ok (.iload_n 2, 1) := by decide +kernel
theorem dX1_reckon_299 : decode cX1_reckon 299 = .ok (.iload 4, 2) := by decide +kernel
theorem dX1_reckon_301 : decode cX1_reckon 301 = .ok (.invokestatic 15, 3) := by decide +kernel
theorem dX1_reckon_304 : decode cX1_reckon 304 = .ok (.ifCond .eq 7, 3) := by decide +kernel
theorem dX1_reckon_307 : decode cX1_reckon 307 = .ok (.iconst 1, 1) := by decide +kernel
theorem dX1_reckon_308 : decode cX1_reckon 308 = .ok (.goto 4, 3) := by decide +kernel
theorem dX1_reckon_311 : decode cX1_reckon 311 = .ok (.iconst 0, 1) := by decide +kernel
theorem dX1_reckon_312 : decode cX1_reckon 312 = .ok (.iadd, 1) := by decide +kernel
theorem dX1_reckon_313 : decode cX1_reckon 313 = .ok (.istore_n 3, 1) := by decide +kernel
theorem dX1_reckon_314 : decode cX1_reckon 314 = .ok (.iinc 4 1, 3) := by decide +kernel
theorem dX1_reckon_317 : decode cX1_reckon 317 = .ok (.goto (-29), 3) := by decide +kernel
theorem dX1_reckon_320 : decode cX1_reckon 320 = .ok (.aload_n 0, 1) := by decide +kernel
theorem dX1_reckon_321 : decode cX1_reckon 321 = .ok (.getfield 36, 3) := by decide +kernel
theorem dX1_reckon_324 : decode cX1_reckon 324 = .ok (.iload_n 2, 1) := by decide +kernel
theorem dX1_reckon_325 : decode cX1_reckon 325 = .ok (.aload_n 0, 1) := by decide +kernel
theorem dX1_reckon_326 : decode cX1_reckon 326 = .ok (.iload_n 2, 1) := by decide +kernel
theorem dX1_reckon_327 : decode cX1_reckon 327 = .ok (.invokevirtual 42, 3) := by decide +kernel
theorem dX1_reckon_330 : decode cX1_reckon 330 = .ok (.ifCond .ge 7, 3) := by decide +kernel
theorem dX1_reckon_333 : decode cX1_reckon 333 = .ok (.iload_n 3, 1) := by decide +kernel
theorem dX1_reckon_334 : decode cX1_reckon 334 = .ok (.goto 4, 3) := by decide +kernel
theorem dX1_reckon_337 : decode cX1_reckon 337 = .ok (.iconst (-1), 1) := by decide +kernel
theorem dX1_reckon_338 : decode cX1_reckon 338 = .ok (.iastore, 1) := by decide +kernel
theorem dX1_reckon_339 : decode cX1_reckon 339 = .ok (.aload_n 0, 1) := by decide +kernel
theorem dX1_reckon_340 : decode cX1_reckon 340 = .ok (.dup, 1) := by decide +kernel
theorem dX1_reckon_341 : decode cX1_reckon 341 = .ok (.getfield 39, 3) := by decide +kernel
theorem dX1_reckon_344 : decode cX1_reckon 344 = .ok (.aload_n 0, 1) := by decide +kernel
theorem dX1_reckon_345 : decode cX1_reckon 345 = .ok (.getfield 36, 3) := by decide +kernel
theorem dX1_reckon_348 : decode cX1_reckon 348 = .ok (.iload_n 2, 1) := by decide +kernel
theorem dX1_reckon_349 : decode cX1_reckon 349 = .ok (.iaload, 1) := by decide +kernel
theorem dX1_reckon_350 : decode cX1_reckon 350 = .ok (.ifCond .ge 7, 3) := by decide +kernel
theorem dX1_reckon_353 : decode cX1_reckon 353 = .ok (.iconst 0, 1) := by decide +kernel
theorem dX1_reckon_354 : decode cX1_reckon 354 = .ok (.goto 4, 3) := by decide +kernel
theorem dX1_reckon_357 : decode cX1_reckon 357 = .ok (.iconst 1, 1) := by decide +kernel
theorem dX1_reckon_358 : decode cX1_reckon 358 = .ok (.iadd, 1) := by decide +kernel
theorem dX1_reckon_359 : decode cX1_reckon 359 = .ok (.putfield 39, 3) := by decide +kernel
theorem dX1_reckon_362 : decode cX1_reckon 362 = .ok (.iinc 2 1, 3) := by decide +kernel
theorem dX1_reckon_365 : decode cX1_reckon 365 = .ok (.goto (-91), 3) := by decide +kernel
theorem dX1_reckon_368 : decode cX1_reckon 368 = .ok (.aload_n 0, 1) := by decide +kernel
theorem dX1_reckon_369 : decode cX1_reckon 369 = .ok (.areturn, 1) := by decide +kernel
theorem dX1_leads_0 : decode cX1_leads 0 = .ok (.aload_n 0, 1) := by decide +kernel
theorem dX1_leads_1 : decode cX1_leads 1 = .ok (.getfield 27, 3) := by decide +kernel
theorem dX1_leads_4 : decode cX1_leads 4 = .ok (.iload_n 1, 1) := by decide +kernel
theorem dX1_leads_5 : decode cX1_leads 5 = .ok (.aaload, 1) := by decide +kernel
theorem dX1_leads_6 : decode cX1_leads 6 = .ok (.iload_n 2, 1) := by decide +kernel
theorem dX1_leads_7 : decode cX1_leads 7 = .ok (.iaload, 1) := by decide +kernel
theorem dX1_leads_8 : decode cX1_leads 8 = .ok (.bipush 99, 2) := by decide +kernel
theorem dX1_leads_10 : decode cX1_leads 10 = .ok (.if_icmp .ge 7, 3) := by decide +kernel
theorem dX1_leads_13 : decode cX1_leads 13 = .ok (.iconst 1, 1) := by decide +kernel
theorem dX1_leads_14 : decode cX1_leads 14 = .ok (.goto 4, 3) := by decide +kernel
theorem dX1_leads_17 : decode cX1_leads 17 = .ok (.iconst 0, 1) := by decide +kernel
theorem dX1_leads_18 : decode cX1_leads 18 = .ok (.ireturn, 1) := by decide +kernel
set_option maxRecDepth 20000 in
theorem ggX1_isVain_X1_leads : GoodIn wsX1_isVain wsX1_leads := goodIn_r _ [5, 6, 7, 8, 9, 10, 11] (by decide +kernel) (by decide +kernel)
set_option maxRecDepth 20000 in
theorem gX1_isVain_X1_leads : GoodIn wsX1_isVain (wsV RX1 46 RX1 yX1_leads wsX1_leads) := goodIn_app (goodIn_of _ (by decide +kernel)) ggX1_isVain_X1_leads
theorem dX1_isVain_0 : decode cX1_isVain 0 = .ok (.aload_n 0, 1) := by decide +kernel
theorem dX1_isVain_1 : decode cX1_isVain 1 = .ok (.iload_n 1, 1) := by decide +kernel
theorem dX1_isVain_2 : decode cX1_isVain 2 = .ok (.iload_n 1, 1) := by decide +kernel
theorem dX1_isVain_3 : decode cX1_isVain 3 = .ok (.iconst 1, 1) := by decide +kernel
theorem dX1_isVain_4 : decode cX1_isVain 4 = .ok (.ixor, 1) := by decide +kernel
theorem dX1_isVain_5 : decode cX1_isVain 5 = .ok (.invokevirtual 46, 3) := by decide +kernel
theorem dX1_isVain_8 : decode cX1_isVain 8 = .ok (.ireturn, 1) := by decide +kernel
set_option maxRecDepth 20000 in
theorem ggX1_seat_X1_isAhead : GoodIn wsX1_seat wsX1_isAhead := goodIn_r _ [6, 7, 8, 5, 9] (by decide +kernel) (by decide +kernel)
set_option maxRecDepth 20000 in
theorem gX1_seat_X1_isAhead : GoodIn wsX1_seat (wsV RX1 49 RX1 yX1_isAhead wsX1_isAhead) := goodIn_app (goodIn_of _ (by decide +kernel)) ggX1_seat_X1_isAhead
theorem dX1_seat_0 : decode cX1_seat 0 = .ok (.iconst (-1), 1) := by decide +kernel
theorem dX1_seat_1 : decode cX1_seat 1 = .ok (.istore_n 1, 1) := by decide +kernel
theorem dX1_seat_2 : decode cX1_seat 2 = .ok (.iconst 0, 1) := by decide +kernel
theorem dX1_seat_3 : decode cX1_seat 3 = .ok (.istore_n 2, 1) := by decide +kernel
theorem dX1_seat_4 : decode cX1_seat 4 = .ok (.iload_n 2, 1) := by decide +kernel
theorem dX1_seat_5 : decode cX1_seat 5 = .ok (.aload_n 0, 1) := by decide +kernel
theorem dX1_seat_6 : decode cX1_seat 6 = .ok (.getfield 36, 3) := by decide +kernel
theorem dX1_seat_9 : decode cX1_seat 9 = .ok (.arraylength, 1) := by decide +kernel
theorem dX1_seat_10 : decode cX1_seat 10 = .ok (.if_icmp .ge 33, 3) := by decide +kernel
theorem dX1_seat_13 : decode cX1_seat 13 = .ok (.aload_n 0, 1) := by decide +kernel
theorem dX1_seat_14 : decode cX1_seat 14 = .ok (.getfield 36, 3) := by decide +kernel
theorem dX1_seat_17 : decode cX1_seat 17 = .ok (.iload_n 2, 1) := by decide +kernel
theorem dX1_seat_18 : decode cX1_seat 18 = .ok (.iaload, 1) := by decide +kernel
theorem dX1_seat_19 : decode cX1_seat 19 = .ok (.ifCond .lt 18, 3) := by decide +kernel
theorem dX1_seat_22 : decode cX1_seat 22 = .ok (.iload_n 1, 1) := by decide +kernel
theorem dX1_seat_23 : decode cX1_seat 23 = .ok (.ifCond .lt 12, 3) := by decide +kernel
theorem dX1_seat_26 : decode cX1_seat 26 = .ok (.aload_n 0, 1) := by decide +kernel
theorem dX1_seat_27 : decode cX1_seat 27 = .ok (.iload_n 2, 1) := by decide +kernel
theorem dX1_seat_28 : decode cX1_seat 28 = .ok (.iload_n 1, 1) := by decide +kernel
theorem dX1_seat_29 : decode cX1_seat 29 = .ok (.invokevirtual 49, 3) := by decide +kernel
theorem dX1_seat_32 : decode cX1_seat 32 = .ok (.ifCond .eq 5, 3) := by decide +kernel
theorem dX1_seat_35 : decode cX1_seat 35 = .ok (.iload_n 2, 1) := by decide +kernel
theorem dX1_seat_36 : decode cX1_seat 36 = .ok (.istore_n 1, 1) := by decide +kernel
theorem dX1_seat_37 : decode cX1_seat 37 = .ok (.iinc 2 1, 3) := by decide +kernel
theorem dX1_seat_40 : decode cX1_seat 40 = .ok (.goto (-36), 3) := by decide +kernel
theorem dX1_seat_43 : decode cX1_seat 43 = .ok (.iload_n 1, 1) := by decide +kernel
theorem dX1_seat_44 : decode cX1_seat 44 = .ok (.ireturn, 1) := by decide +kernel
set_option maxRecDepth 20000 in
theorem ggX1_isAhead_X1_comes : GoodIn wsX1_isAhead wsX1_comes := goodIn_r _ [4] (by decide +kernel) (by decide +kernel)
set_option maxRecDepth 20000 in
theorem gX1_isAhead_X1_comes : GoodIn wsX1_isAhead (va_wsS RX1 15 yX1_comes wsX1_comes) := goodIn_app (goodIn_of _ (by decide +kernel)) ggX1_isAhead_X1_comes
theorem dX1_isAhead_0 : decode cX1_isAhead 0 = .ok (.iconst 0, 1) := by decide +kernel
theorem dX1_isAhead_1 : decode cX1_isAhead 1 = .ok (.istore_n 3, 1) := by decide +kernel
theorem dX1_isAhead_2 : decode cX1_isAhead 2 = .ok (.iload_n 1, 1) := by decide +kernel
theorem dX1_isAhead_3 : decode cX1_isAhead 3 = .ok (.iload_n 3, 1) := by decide +kernel
theorem dX1_isAhead_4 : decode cX1_isAhead 4 = .ok (.invokestatic 15, 3) := by decide +kernel
theorem dX1_isAhead_7 : decode cX1_isAhead 7 = .ok (.iload_n 2, 1) := by decide +kernel
theorem dX1_isAhead_8 : decode cX1_isAhead 8 = .ok (.iload_n 3, 1) := by decide +kernel
theorem dX1_isAhead_9 : decode cX1_isAhead 9 = .ok (.invokestatic 15, 3) := by decide +kernel
theorem dX1_isAhead_12 : decode cX1_isAhead 12 = .ok (.if_icmp .ne 9, 3) := by decide +kernel
theorem dX1_isAhead_15 : decode cX1_isAhead 15 = .ok (.iinc 3 1, 3) := by decide +kernel
theorem dX1_isAhead_18 : decode cX1_isAhead 18 = .ok (.goto (-16), 3) := by decide +kernel
theorem dX1_isAhead_21 : decode cX1_isAhead 21 = .ok (.iload_n 1, 1) := by decide +kernel
theorem dX1_isAhead_22 : decode cX1_isAhead 22 = .ok (.iload_n 3, 1) := by decide +kernel
theorem dX1_isAhead_23 : decode cX1_isAhead 23 = .ok (.invokestatic 15, 3) := by decide +kernel
theorem dX1_isAhead_26 : decode cX1_isAhead 26 = .ok (.ireturn, 1) := by decide +kernel
set_option maxRecDepth 20000 in
theorem ggX1_isSame_X1_reckon : GoodIn wsX1_isSame wsX1_reckon := goodIn_r _ [11, 1, 12, 6, 4, 2, 13, 14, 15, 16, 3, 5, 17, 18, 10, 19, 20, 21, 22, 23, 24, 25, 26, 179, 180, 181, 182, 183] (by decide +kernel) (by decide +kernel)
set_option maxRecDepth 20000 in
theorem gX1_isSame_X1_reckon : GoodIn wsX1_isSame (wsV RX1 52 RX1 yX1_reckon wsX1_reckon) := goodIn_app (goodIn_of _ (by decide +kernel)) ggX1_isSame_X1_reckon
set_option maxRecDepth 20000 in
theorem ggX1_isSame_X0_told : GoodIn wsX1_isSame wsX0_told := goodIn_ca (goodIn_r _ [31, 32, 33, 34, 35, 36, 37, 30, 38, 39, 40, 41, 42, 43, 44, 45, 46, 47, 48, 49, 50, 51, 52, 53, 184, 185, 186, 187, 188, 189, 190, 191, 192, 193] (by decide +kernel) (by decide +kernel)) (goodIn_sub (fun _ h => List.mem_cons_of_mem _ (List.mem_append_right _ h)) (by decide +kernel))
set_option maxRecDepth 20000 in
theorem gX1_isSame_X0_told : GoodIn wsX1_isSame (wsV RX1 56 RX0 yX0_told wsX0_told) := goodIn_app (goodIn_of _ (by decide +kernel)) ggX1_isSame_X0_told
set_option maxRecDepth 20000 in
theorem ggX1_isSame_X1_isVain : GoodIn wsX1_isSame wsX1_isVain := goodIn_r _ [57, 58, 59, 60, 10, 61, 4, 179, 180, 181, 182, 183] (by decide +kernel) (by decide +kernel)
set_option maxRecDepth 20000 in
theorem gX1_isSame_X1_isVain : GoodIn wsX1_isSame (wsV RX1 61 RX1 yX1_isVain wsX1_isVain) := goodIn_app (goodIn_of _ (by decide +kernel)) ggX1_isSame_X1_isVain
set_option maxRecDepth 20000 in
theorem ggX1_isSame_X1_leads : GoodIn wsX1_isSame wsX1_leads := goodIn_r _ [61, 4, 179, 180, 181, 182, 183] (by decide +kernel) (by decide +kernel)
set_option maxRecDepth 20000 in
theorem gX1_isSame_X1_leads : GoodIn wsX1_isSame (wsV RX1 46 RX1 yX1_leads wsX1_leads) := goodIn_app (goodIn_of _ (by decide +kernel)) ggX1_isSame_X1_leads
set_option maxRecDepth 20000 in
theorem ggX1_isSame_X0_follows : GoodIn wsX1_isSame wsX0_follows := goodIn_ca (goodIn_r _ [65, 66, 67, 68, 69, 30, 70, 39, 40, 71, 72, 73, 74, 75, 45, 46, 47, 48, 49, 50, 184, 185, 186, 187, 188, 189, 190, 191, 192, 193] (by decide +kernel) (by decide +kernel)) (goodIn_sub (fun _ h => List.mem_cons_of_mem _ (List.mem_append_right _ h)) (by decide +kernel))
set_option maxRecDepth 20000 in
theorem gX1_isSame_X0_follows : GoodIn wsX1_isSame (wsV RX1 65 RX0 yX0_follows wsX0_follows) := goodIn_app (goodIn_of _ (by decide +kernel)) ggX1_isSame_X0_follows
set_option maxRecDepth 20000 in
theorem ggX1_isSame_X0_steps : GoodIn wsX1_isSame wsX0_steps := goodIn_ca (goodIn_r _ [79, 67, 68, 69, 30, 70, 39, 40, 71, 72, 73, 74, 75, 48, 49, 50, 80, 81, 82, 83, 84, 45, 46, 47, 184, 185, 186, 187, 188, 189, 190, 191, 192, 193] (by decide +kernel) (by decide +kernel)) (goodIn_sub (fun _ h => List.mem_cons_of_mem _ (List.mem_append_right _ h)) (by decide +kernel))
set_option maxRecDepth 20000 in
theorem gX1_isSame_X0_steps : GoodIn wsX1_isSame (wsV RX1 68 RX0 yX0_steps wsX0_steps) := goodIn_app (goodIn_of _ (by decide +kernel)) ggX1_isSame_X0_steps
set_option maxRecDepth 20000 in
theorem ggX1_isSame_X0_reach : GoodIn wsX1_isSame wsX0_reach := goodIn_ca (goodIn_r _ [88, 66, 67, 68, 69, 30, 70, 39, 40, 71, 72, 73, 74, 75, 45, 46, 47, 184, 185, 186, 187, 188, 189, 190, 191, 192, 193] (by decide +kernel) (by decide +kernel)) (goodIn_sub (fun _ h => List.mem_cons_of_mem _ (List.mem_append_right _ h)) (by decide +kernel))
set_option maxRecDepth 20000 in
theorem gX1_isSame_X0_reach : GoodIn wsX1_isSame (wsV RX1 70 RX0 yX0_reach wsX0_reach) := goodIn_app (goodIn_of _ (by decide +kernel)) ggX1_isSame_X0_reach
set_option maxRecDepth 20000 in
theorem ggX1_isSame_X1_comes : GoodIn wsX1_isSame wsX1_comes := goodIn_r _ [19] (by decide +kernel) (by decide +kernel)
set_option maxRecDepth 20000 in
theorem gX1_isSame_X1_comes : GoodIn wsX1_isSame (va_wsS RX1 15 yX1_comes wsX1_comes) := goodIn_app (goodIn_of _ (by decide +kernel)) ggX1_isSame_X1_comes
set_option maxRecDepth 20000 in
theorem ggX1_isSame_X0_guest : GoodIn wsX1_isSame wsX0_guest := goodIn_ca (goodIn_r _ [92, 66, 93, 94, 95, 30, 96, 39, 40, 75, 42, 43, 44, 97, 98, 99, 100, 101, 102, 103, 104, 105, 106, 107, 45, 46, 47, 48, 49, 50, 51, 52, 53, 108, 109, 110, 111, 112, 113, 114, 71, 72, 73, 74, 115, 116, 117, 118, 119, 120, 121, 184, 185, 186, 187, 188, 189, 190, 191, 192, 193] (by decide +kernel) (by decide +kernel)) (goodIn_sub (fun _ h => List.mem_cons_of_mem _ (List.mem_append_right _ h)) (by decide +kernel))
set_option maxRecDepth 20000 in
theorem gX1_isSame_X0_guest : GoodIn wsX1_isSame (wsV RX1 73 RX0 yX0_guest wsX0_guest) := goodIn_app (goodIn_of _ (by decide +kernel)) ggX1_isSame_X0_guest
set_option maxRecDepth 20000 in
theorem ggX1_isSame_X0_count : GoodIn wsX1_isSame wsX0_count := goodIn_ca (goodIn_r _ [125, 75, 41, 34, 66, 42, 43, 30, 44, 39, 40, 115, 116, 117, 118, 119, 120, 121, 126, 127, 128, 129, 108, 109, 110, 105, 106, 107, 45, 46, 47, 102, 103, 104, 48, 49, 50, 51, 52, 53, 130, 131, 132, 133, 71, 72, 73, 74, 134, 135, 136, 137, 184, 185, 186, 187, 188, 189, 190, 191, 192, 193] (by decide +kernel) (by decide +kernel)) (goodIn_sub (fun _ h => List.mem_cons_of_mem _ (List.mem_append_right _ h)) (by decide +kernel))
set_option maxRecDepth 20000 in
theorem gX1_isSame_X0_count : GoodIn wsX1_isSame (wsV RX1 76 RX0 yX0_count wsX0_count) := goodIn_app (goodIn_of _ (by decide +kernel)) ggX1_isSame_X0_count
set_option maxRecDepth 20000 in
theorem ggX1_isSame_X0_fits : GoodIn wsX1_isSame wsX0_fits := goodIn_r _ [100, 101, 184, 185, 186, 187, 188, 189, 190, 191, 192, 193] (by decide +kernel) (by decide +kernel)
set_option maxRecDepth 20000 in
theorem gX1_isSame_X0_fits : GoodIn wsX1_isSame (wsV RX1 79 RX0 yX0_fits wsX0_fits) := goodIn_app (goodIn_of _ (by decide +kernel)) ggX1_isSame_X0_fits
set_option maxRecDepth 20000 in
theorem ggX1_isSame_X0_seatings : GoodIn wsX1_isSame wsX0_seatings := goodIn_r _ [142, 101, 184, 185, 186, 187, 188, 189, 190, 191, 192, 193] (by decide +kernel) (by decide +kernel)
set_option maxRecDepth 20000 in
theorem gX1_isSame_X0_seatings : GoodIn wsX1_isSame (wsV RX1 83 RX0 yX0_seatings wsX0_seatings) := goodIn_app (goodIn_of _ (by decide +kernel)) ggX1_isSame_X0_seatings
set_option maxRecDepth 20000 in
theorem ggX1_isSame_X0_seat : GoodIn wsX1_isSame wsX0_seat := goodIn_r _ [146, 147, 97, 98, 99, 30, 100, 101, 45, 46, 47, 148, 149, 150, 151, 75, 48, 49, 50, 184, 185, 186, 187, 188, 189, 190, 191, 192, 193] (by decide +kernel) (by decide +kernel)
set_option maxRecDepth 20000 in
theorem gX1_isSame_X0_seat : GoodIn wsX1_isSame (wsV RX1 87 RX0 yX0_seat wsX0_seat) := goodIn_app (goodIn_of _ (by decide +kernel)) ggX1_isSame_X0_seat
set_option maxRecDepth 20000 in
theorem ggX1_isSame_X1_seat : GoodIn wsX1_isSame wsX1_seat := goodIn_r _ [155, 3, 156, 157, 158, 10, 159, 17, 18, 19, 179, 180, 181, 182, 183] (by decide +kernel) (by decide +kernel)
set_option maxRecDepth 20000 in
theorem gX1_isSame_X1_seat : GoodIn wsX1_isSame (wsV RX1 90 RX1 yX1_seat wsX1_seat) := goodIn_app (goodIn_of _ (by decide +kernel)) ggX1_isSame_X1_seat
set_option maxRecDepth 20000 in
theorem ggX1_isSame_X0_fewest : GoodIn wsX1_isSame wsX0_fewest := goodIn_r _ [163, 101, 147, 45, 46, 30, 47, 164, 165, 166, 167, 115, 116, 117, 118, 119, 120, 121, 184, 185, 186, 187, 188, 189, 190, 191, 192, 193] (by decide +kernel) (by decide +kernel)
set_option maxRecDepth 20000 in
theorem gX1_isSame_X0_fewest : GoodIn wsX1_isSame (wsV RX1 91 RX0 yX0_fewest wsX0_fewest) := goodIn_app (goodIn_of _ (by decide +kernel)) ggX1_isSame_X0_fewest
set_option maxRecDepth 20000 in
theorem ggX1_isSame_X0_most : GoodIn wsX1_isSame wsX0_most := goodIn_r _ [171, 101, 147, 172, 173, 15, 174, 45, 46, 30, 47, 164, 165, 166, 167, 115, 116, 117, 118, 119, 120, 121, 184, 185, 186, 187, 188, 189, 190, 191, 192, 193] (by decide +kernel) (by decide +kernel)
set_option maxRecDepth 20000 in
theorem gX1_isSame_X0_most : GoodIn wsX1_isSame (wsV RX1 94 RX0 yX0_most wsX0_most) := goodIn_app (goodIn_of _ (by decide +kernel)) ggX1_isSame_X0_most
set_option maxRecDepth 20000 in
theorem ggX1_isSame_X0_mean : GoodIn wsX1_isSame wsX0_mean := goodIn_r _ [178, 101, 147, 45, 46, 30, 47, 164, 165, 166, 167, 115, 116, 117, 118, 119, 120, 121, 184, 185, 186, 187, 188, 189, 190, 191, 192, 193] (by decide +kernel) (by decide +kernel)
set_option maxRecDepth 20000 in
theorem gX1_isSame_X0_mean : GoodIn wsX1_isSame (wsV RX1 97 RX0 yX0_mean wsX0_mean) := goodIn_app (goodIn_of _ (by decide +kernel)) ggX1_isSame_X0_mean
theorem dX1_isSame_0 : decode cX1_isSame 0 = .ok (.aload_n 0, 1) := by decide +kernel
theorem dX1_isSame_1 : decode cX1_isSame 1 = .ok (.invokevirtual 52, 3) := by decide +kernel
theorem dX1_isSame_4 : decode cX1_isSame 4 = .ok (.pop, 1) := by decide +kernel
theorem dX1_isSame_5 : decode cX1_isSame 5 = .ok (.aload_n 0, 1) := by decide +kernel
theorem dX1_isSame_6 : decode cX1_isSame 6 = .ok (.getfield 22, 3) := by decide +kernel
theorem dX1_isSame_9 : decode cX1_isSame 9 = .ok (.istore_n 2, 1) := by decide +kernel
theorem dX1_isSame_10 : decode cX1_isSame 10 = .ok (.iconst 0, 1) := by decide +kernel
theorem dX1_isSame_11 : decode cX1_isSame 11 = .ok (.istore_n 3, 1) := by decide +kernel
theorem dX1_isSame_12 : decode cX1_isSame 12 = .ok (.iconst 0, 1) := by decide +kernel
theorem dX1_isSame_13 : decode cX1_isSame 13 = .ok (.istore 4, 2) := by decide +kernel
theorem dX1_isSame_15 : decode cX1_isSame 15 = .ok (.iconst 0, 1) := by decide +kernel
theorem dX1_isSame_16 : decode cX1_isSame 16 = .ok (.istore 5, 2) := by decide +kernel
theorem dX1_isSame_18 : decode cX1_isSame 18 = .ok (.iconst 0, 1) := by decide +kernel
theorem dX1_isSame_19 : decode cX1_isSame 19 = .ok (.istore 6, 2) := by decide +kernel
theorem dX1_isSame_21 : decode cX1_isSame 21 = .ok (.iconst (-1), 1) := by decide +kernel
theorem dX1_isSame_22 : decode cX1_isSame 22 = .ok (.istore 7, 2) := by decide +kernel
theorem dX1_isSame_24 : decode cX1_isSame 24 = .ok (.iconst (-1), 1) := by decide +kernel
theorem dX1_isSame_25 : decode cX1_isSame 25 = .ok (.istore 8, 2) := by decide +kernel
theorem dX1_isSame_27 : decode cX1_isSame 27 = .ok (.iconst 0, 1) := by decide +kernel
theorem dX1_isSame_28 : decode cX1_isSame 28 = .ok (.istore 9, 2) := by decide +kernel
theorem dX1_isSame_30 : decode cX1_isSame 30 = .ok (.iconst 0, 1) := by decide +kernel
theorem dX1_isSame_31 : decode cX1_isSame 31 = .ok (.istore 10, 2) := by decide +kernel
theorem dX1_isSame_33 : decode cX1_isSame 33 = .ok (.iload 10, 2) := by decide +kernel
theorem dX1_isSame_35 : decode cX1_isSame 35 = .ok (.aload_n 0, 1) := by decide +kernel
theorem dX1_isSame_36 : decode cX1_isSame 36 = .ok (.getfield 9, 3) := by decide +kernel
theorem dX1_isSame_39 : decode cX1_isSame 39 = .ok (.arraylength, 1) := by decide +kernel
theorem dX1_isSame_40 : decode cX1_isSame 40 = .ok (.if_icmp .ge 59, 3) := by decide +kernel
theorem dX1_isSame_43 : decode cX1_isSame 43 = .ok (.iconst 0, 1) := by decide +kernel
theorem dX1_isSame_44 : decode cX1_isSame 44 = .ok (.istore 11, 2) := by decide +kernel
theorem dX1_isSame_46 : decode cX1_isSame 46 = .ok (.iload 11, 2) := by decide +kernel
theorem dX1_isSame_48 : decode cX1_isSame 48 = .ok (.iconst 3, 1) := by decide +kernel
theorem dX1_isSame_49 : decode cX1_isSame 49 = .ok (.if_icmp .ge 32, 3) := by decide +kernel
theorem dX1_isSame_52 : decode cX1_isSame 52 = .ok (.aload_n 1, 1) := by decide +kernel
theorem dX1_isSame_53 : decode cX1_isSame 53 = .ok (.iload 10, 2) := by decide +kernel
theorem dX1_isSame_55 : decode cX1_isSame 55 = .ok (.iload 11, 2) := by decide +kernel
theorem dX1_isSame_57 : decode cX1_isSame 57 = .ok (.invokevirtual 56, 3) := by decide +kernel
theorem dX1_isSame_60 : decode cX1_isSame 60 = .ok (.aload_n 0, 1) := by decide +kernel
theorem dX1_isSame_61 : decode cX1_isSame 61 = .ok (.getfield 9, 3) := by decide +kernel
theorem dX1_isSame_64 : decode cX1_isSame 64 = .ok (.iload 10, 2) := by decide +kernel
theorem dX1_isSame_66 : decode cX1_isSame 66 = .ok (.aaload, 1) := by decide +kernel
theorem dX1_isSame_67 : decode cX1_isSame 67 = .ok (.iload 11, 2) := by decide +kernel
theorem dX1_isSame_69 : decode cX1_isSame 69 = .ok (.iaload, 1) := by decide +kernel
theorem dX1_isSame_70 : decode cX1_isSame 70 = .ok (.if_icmp .eq 5, 3) := by decide +kernel
theorem dX1_isSame_73 : decode cX1_isSame 73 = .ok (.iconst 0, 1) := by decide +kernel
theorem dX1_isSame_74 : decode cX1_isSame 74 = .ok (.ireturn, 1) := by decide +kernel
theorem dX1_isSame_75 : decode cX1_isSame 75 = .ok (.iinc 11 1, 3) := by decide +kernel
theorem dX1_isSame_78 : decode cX1_isSame 78 = .ok (.goto (-32), 3) := by decide +kernel
theorem dX1_isSame_81 : decode cX1_isSame 81 = .ok (.iload_n 3, 1) := by decide +kernel
theorem dX1_isSame_82 : decode cX1_isSame 82 = .ok (.aload_n 0, 1) := by decide +kernel
theorem dX1_isSame_83 : decode cX1_isSame 83 = .ok (.getfield 9, 3) := by decide +kernel
theorem dX1_isSame_86 : decode cX1_isSame 86 = .ok (.iload 10, 2) := by decide +kernel
theorem dX1_isSame_88 : decode cX1_isSame 88 = .ok (.aaload, 1) := by decide +kernel
theorem dX1_isSame_89 : decode cX1_isSame 89 = .ok (.iconst 2, 1) := by decide +kernel
theorem dX1_isSame_90 : decode cX1_isSame 90 = .ok (.iaload, 1) := by decide +kernel
theorem dX1_isSame_91 : decode cX1_isSame 91 = .ok (.iadd, 1) := by decide +kernel
theorem dX1_isSame_92 : decode cX1_isSame 92 = .ok (.istore_n 3, 1) := by decide +kernel
theorem dX1_isSame_93 : decode cX1_isSame 93 = .ok (.iinc 10 1, 3) := by decide +kernel
theorem dX1_isSame_96 : decode cX1_isSame 96 = .ok (.goto (-63), 3) := by decide +kernel
theorem dX1_isSame_99 : decode cX1_isSame 99 = .ok (.aload_n 0, 1) := by decide +kernel
theorem dX1_isSame_100 : decode cX1_isSame 100 = .ok (.getfield 36, 3) := by decide +kernel
theorem dX1_isSame_103 : decode cX1_isSame 103 = .ok (.astore 10, 2) := by decide +kernel
theorem dX1_isSame_105 : decode cX1_isSame 105 = .ok (.aload 10, 2) := by decide +kernel
theorem dX1_isSame_107 : decode cX1_isSame 107 = .ok (.arraylength, 1) := by decide +kernel
theorem dX1_isSame_108 : decode cX1_isSame 108 = .ok (.istore 11, 2) := by decide +kernel
theorem dX1_isSame_110 : decode cX1_isSame 110 = .ok (.iconst 0, 1) := by decide +kernel
theorem dX1_isSame_111 : decode cX1_isSame 111 = .ok (.istore 12, 2) := by decide +kernel
theorem dX1_isSame_113 : decode cX1_isSame 113 = .ok (.iload 12, 2) := by decide +kernel
theorem dX1_isSame_115 : decode cX1_isSame 115 = .ok (.iload 11, 2) := by decide +kernel
theorem dX1_isSame_117 : decode cX1_isSame 117 = .ok (.if_icmp .ge 58, 3) := by decide +kernel
theorem dX1_isSame_120 : decode cX1_isSame 120 = .ok (.aload 10, 2) := by decide +kernel
theorem dX1_isSame_122 : decode cX1_isSame 122 = .ok (.iload 12, 2) := by decide +kernel
theorem dX1_isSame_124 : decode cX1_isSame 124 = .ok (.iaload, 1) := by decide +kernel
theorem dX1_isSame_125 : decode cX1_isSame 125 = .ok (.istore 13, 2) := by decide +kernel
theorem dX1_isSame_127 : decode cX1_isSame 127 = .ok (.iload 13, 2) := by decide +kernel
theorem dX1_isSame_129 : decode cX1_isSame 129 = .ok (.ifCond .ge 6, 3) := by decide +kernel
theorem dX1_isSame_132 : decode cX1_isSame 132 = .ok (.goto 37, 3) := by decide +kernel
theorem dX1_isSame_135 : decode cX1_isSame 135 = .ok (.iload 9, 2) := by decide +kernel
theorem dX1_isSame_137 : decode cX1_isSame 137 = .ok (.iload 13, 2) := by decide +kernel
theorem dX1_isSame_139 : decode cX1_isSame 139 = .ok (.iadd, 1) := by decide +kernel
theorem dX1_isSame_140 : decode cX1_isSame 140 = .ok (.istore 9, 2) := by decide +kernel
theorem dX1_isSame_142 : decode cX1_isSame 142 = .ok (.iload 13, 2) := by decide +kernel
theorem dX1_isSame_144 : decode cX1_isSame 144 = .ok (.iload 8, 2) := by decide +kernel
theorem dX1_isSame_146 : decode cX1_isSame 146 = .ok (.if_icmp .le 7, 3) := by decide +kernel
theorem dX1_isSame_149 : decode cX1_isSame 149 = .ok (.iload 13, 2) := by decide +kernel
theorem dX1_isSame_151 : decode cX1_isSame 151 = .ok (.istore 8, 2) := by decide +kernel
theorem dX1_isSame_153 : decode cX1_isSame 153 = .ok (.iload 7, 2) := by decide +kernel
theorem dX1_isSame_155 : decode cX1_isSame 155 = .ok (.ifCond .lt 10, 3) := by decide +kernel
theorem dX1_isSame_158 : decode cX1_isSame 158 = .ok (.iload 13, 2) := by decide +kernel
theorem dX1_isSame_160 : decode cX1_isSame 160 = .ok (.iload 7, 2) := by decide +kernel
theorem dX1_isSame_162 : decode cX1_isSame 162 = .ok (.if_icmp .ge 7, 3) := by decide +kernel
theorem dX1_isSame_165 : decode cX1_isSame 165 = .ok (.iload 13, 2) := by decide +kernel
theorem dX1_isSame_167 : decode cX1_isSame 167 = .ok (.istore 7, 2) := by decide +kernel
theorem dX1_isSame_169 : decode cX1_isSame 169 = .ok (.iinc 12 1, 3) := by decide +kernel
theorem dX1_isSame_172 : decode cX1_isSame 172 = .ok (.goto (-59), 3) := by decide +kernel
theorem dX1_isSame_175 : decode cX1_isSame 175 = .ok (.iconst 0, 1) := by decide +kernel
theorem dX1_isSame_176 : decode cX1_isSame 176 = .ok (.istore 10, 2) := by decide +kernel
theorem dX1_isSame_178 : decode cX1_isSame 178 = .ok (.iload 10, 2) := by decide +kernel
theorem dX1_isSame_180 : decode cX1_isSame 180 = .ok (.iconst 2, 1) := by decide +kernel
theorem dX1_isSame_181 : decode cX1_isSame 181 = .ok (.iload_n 2, 1) := by decide +kernel
theorem dX1_isSame_182 : decode cX1_isSame 182 = .ok (.imul, 1) := by decide +kernel
theorem dX1_isSame_183 : decode cX1_isSame 183 = .ok (.if_icmp .ge 166, 3) := by decide +kernel
theorem dX1_isSame_186 : decode cX1_isSame 186 = .ok (.iload 5, 2) := by decide +kernel
theorem dX1_isSame_188 : decode cX1_isSame 188 = .ok (.aload_n 0, 1) := by decide +kernel
theorem dX1_isSame_189 : decode cX1_isSame 189 = .ok (.iload 10, 2) := by decide +kernel
theorem dX1_isSame_191 : decode cX1_isSame 191 = .ok (.invokevirtual 61, 3) := by decide +kernel
theorem dX1_isSame_194 : decode cX1_isSame 194 = .ok (.ifCond .eq 7, 3) := by decide +kernel
theorem dX1_isSame_197 : decode cX1_isSame 197 = .ok (.iconst 1, 1) := by decide +kernel
theorem dX1_isSame_198 : decode cX1_isSame 198 = .ok (.goto 4, 3) := by decide +kernel
theorem dX1_isSame_201 : decode cX1_isSame 201 = .ok (.iconst 0, 1) := by decide +kernel
theorem dX1_isSame_202 : decode cX1_isSame 202 = .ok (.iadd, 1) := by decide +kernel
theorem dX1_isSame_203 : decode cX1_isSame 203 = .ok (.istore 5, 2) := by decide +kernel
theorem dX1_isSame_205 : decode cX1_isSame 205 = .ok (.iconst 0, 1) := by decide +kernel
theorem dX1_isSame_206 : decode cX1_isSame 206 = .ok (.istore 11, 2) := by decide +kernel
theorem dX1_isSame_208 : decode cX1_isSame 208 = .ok (.iconst 0, 1) := by decide +kernel
theorem dX1_isSame_209 : decode cX1_isSame 209 = .ok (.istore 12, 2) := by decide +kernel
theorem dX1_isSame_211 : decode cX1_isSame 211 = .ok (.iload 12, 2) := by decide +kernel
theorem dX1_isSame_213 : decode cX1_isSame 213 = .ok (.iconst 2, 1) := by decide +kernel
theorem dX1_isSame_214 : decode cX1_isSame 214 = .ok (.iload_n 2, 1) := by decide +kernel
theorem dX1_isSame_215 : decode cX1_isSame 215 = .ok (.imul, 1) := by decide +kernel
theorem dX1_isSame_216 : decode cX1_isSame 216 = .ok (.if_icmp .ge 114, 3) := by decide +kernel
theorem dX1_isSame_219 : decode cX1_isSame 219 = .ok (.aload_n 0, 1) := by decide +kernel
theorem dX1_isSame_220 : decode cX1_isSame 220 = .ok (.iload 10, 2) := by decide +kernel
theorem dX1_isSame_222 : decode cX1_isSame 222 = .ok (.iload 12, 2) := by decide +kernel
theorem dX1_isSame_224 : decode cX1_isSame 224 = .ok (.invokevirtual 46, 3) := by decide +kernel
theorem dX1_isSame_227 : decode cX1_isSame 227 = .ok (.ifCond .eq 12, 3) := by decide +kernel
theorem dX1_isSame_230 : decode cX1_isSame 230 = .ok (.iload 11, 2) := by decide +kernel
theorem dX1_isSame_232 : decode cX1_isSame 232 = .ok (.iconst 1, 1) := by decide +kernel
theorem dX1_isSame_233 : decode cX1_isSame 233 = .ok (.iload 12, 2) := by decide +kernel
theorem dX1_isSame_235 : decode cX1_isSame 235 = .ok (.ishl, 1) := by decide +kernel
theorem dX1_isSame_236 : decode cX1_isSame 236 = .ok (.iadd, 1) := by decide +kernel
theorem dX1_isSame_237 : decode cX1_isSame 237 = .ok (.istore 11, 2) := by decide +kernel
theorem dX1_isSame_239 : decode cX1_isSame 239 = .ok (.iload 6, 2) := by decide +kernel
theorem dX1_isSame_241 : decode cX1_isSame 241 = .ok (.aload_n 0, 1) := by decide +kernel
theorem dX1_isSame_242 : decode cX1_isSame 242 = .ok (.iload 10, 2) := by decide +kernel
theorem dX1_isSame_244 : decode cX1_isSame 244 = .ok (.iload 12, 2) := by decide +kernel
theorem dX1_isSame_246 : decode cX1_isSame 246 = .ok (.invokevirtual 46, 3) := by decide +kernel
theorem dX1_isSame_249 : decode cX1_isSame 249 = .ok (.ifCond .eq 14, 3) := by decide +kernel
theorem dX1_isSame_252 : decode cX1_isSame 252 = .ok (.iload 10, 2) := by decide +kernel
theorem dX1_isSame_254 : decode cX1_isSame 254 = .ok (.iload 12, 2) := by decide +kernel
theorem dX1_isSame_256 : decode cX1_isSame 256 = .ok (.if_icmp .eq 7, 3) := by decide +kernel
theorem dX1_isSame_259 : decode cX1_isSame 259 = .ok (.iconst 1, 1) := by decide +kernel
theorem dX1_isSame_260 : decode cX1_isSame 260 = .ok (.goto 4, 3) := by decide +kernel
theorem dX1_isSame_263 : decode cX1_isSame 263 = .ok (.iconst 0, 1) := by decide +kernel
theorem dX1_isSame_264 : decode cX1_isSame 264 = .ok (.iadd, 1) := by decide +kernel
theorem dX1_isSame_265 : decode cX1_isSame 265 = .ok (.istore 6, 2) := by decide +kernel
theorem dX1_isSame_267 : decode cX1_isSame 267 = .ok (.aload_n 1, 1) := by decide +kernel
theorem dX1_isSame_268 : decode cX1_isSame 268 = .ok (.iload 10, 2) := by decide +kernel
theorem dX1_isSame_270 : decode cX1_isSame 270 = .ok (.iload 12, 2) := by decide +kernel
theorem dX1_isSame_272 : decode cX1_isSame 272 = .ok (.invokevirtual 65, 3) := by decide +kernel
theorem dX1_isSame_275 : decode cX1_isSame 275 = .ok (.aload_n 0, 1) := by decide +kernel
theorem dX1_isSame_276 : decode cX1_isSame 276 = .ok (.iload 10, 2) := by decide +kernel
theorem dX1_isSame_278 : decode cX1_isSame 278 = .ok (.iload 12, 2) := by decide +kernel
theorem dX1_isSame_280 : decode cX1_isSame 280 = .ok (.invokevirtual 46, 3) := by decide +kernel
theorem dX1_isSame_283 : decode cX1_isSame 283 = .ok (.if_icmp .ne 39, 3) := by decide +kernel
theorem dX1_isSame_286 : decode cX1_isSame 286 = .ok (.aload_n 1, 1) := by decide +kernel
theorem dX1_isSame_287 : decode cX1_isSame 287 = .ok (.iload 10, 2) := by decide +kernel
theorem dX1_isSame_289 : decode cX1_isSame 289 = .ok (.iload 12, 2) := by decide +kernel
theorem dX1_isSame_291 : decode cX1_isSame 291 = .ok (.invokevirtual 68, 3) := by decide +kernel
theorem dX1_isSame_294 : decode cX1_isSame 294 = .ok (.aload_n 0, 1) := by decide +kernel
theorem dX1_isSame_295 : decode cX1_isSame 295 = .ok (.iload 10, 2) := by decide +kernel
theorem dX1_isSame_297 : decode cX1_isSame 297 = .ok (.iload 12, 2) := by decide +kernel
theorem dX1_isSame_299 : decode cX1_isSame 299 = .ok (.invokevirtual 46, 3) := by decide +kernel
theorem dX1_isSame_302 : decode cX1_isSame 302 = .ok (.ifCond .eq 16, 3) := by decide +kernel
theorem dX1_isSame_305 : decode cX1_isSame 305 = .ok (.aload_n 0, 1) := by decide +kernel
theorem dX1_isSame_306 : decode cX1_isSame 306 = .ok (.getfield 27, 3) := by decide +kernel
theorem dX1_isSame_309 : decode cX1_isSame 309 = .ok (.iload 10, 2) := by decide +kernel
theorem dX1_isSame_311 : decode cX1_isSame 311 = .ok (.aaload, 1) := by decide +kernel
theorem dX1_isSame_312 : decode cX1_isSame 312 = .ok (.iload 12, 2) := by decide +kernel
theorem dX1_isSame_314 : decode cX1_isSame 314 = .ok (.iaload, 1) := by decide +kernel
theorem dX1_isSame_315 : decode cX1_isSame 315 = .ok (.goto 4, 3) := by decide +kernel
theorem dX1_isSame_318 : decode cX1_isSame 318 = .ok (.iconst (-1), 1) := by decide +kernel
theorem dX1_isSame_319 : decode cX1_isSame 319 = .ok (.if_icmp .eq 5, 3) := by decide +kernel
theorem dX1_isSame_322 : decode cX1_isSame 322 = .ok (.iconst 0, 1) := by decide +kernel
theorem dX1_isSame_323 : decode cX1_isSame 323 = .ok (.ireturn, 1) := by decide +kernel
theorem dX1_isSame_324 : decode cX1_isSame 324 = .ok (.iinc 12 1, 3) := by decide +kernel
theorem dX1_isSame_327 : decode cX1_isSame 327 = .ok (.goto (-116), 3) := by decide +kernel
theorem dX1_isSame_330 : decode cX1_isSame 330 = .ok (.aload_n 1, 1) := by decide +kernel
theorem dX1_isSame_331 : decode cX1_isSame 331 = .ok (.iload 10, 2) := by decide +kernel
theorem dX1_isSame_333 : decode cX1_isSame 333 = .ok (.invokevirtual 70, 3) := by decide +kernel
theorem dX1_isSame_336 : decode cX1_isSame 336 = .ok (.iload 11, 2) := by decide +kernel
theorem dX1_isSame_338 : decode cX1_isSame 338 = .ok (.if_icmp .eq 5, 3) := by decide +kernel
theorem dX1_isSame_341 : decode cX1_isSame 341 = .ok (.iconst 0, 1) := by decide +kernel
theorem dX1_isSame_342 : decode cX1_isSame 342 = .ok (.ireturn, 1) := by decide +kernel
theorem dX1_isSame_343 : decode cX1_isSame 343 = .ok (.iinc 10 1, 3) := by decide +kernel
theorem dX1_isSame_346 : decode cX1_isSame 346 = .ok (.goto (-168), 3) := by decide +kernel
theorem dX1_isSame_349 : decode cX1_isSame 349 = .ok (.iconst 0, 1) := by decide +kernel
theorem dX1_isSame_350 : decode cX1_isSame 350 = .ok (.istore 10, 2) := by decide +kernel
theorem dX1_isSame_352 : decode cX1_isSame 352 = .ok (.iload 10, 2) := by decide +kernel
theorem dX1_isSame_354 : decode cX1_isSame 354 = .ok (.iload_n 2, 1) := by decide +kernel
theorem dX1_isSame_355 : decode cX1_isSame 355 = .ok (.if_icmp .ge 357, 3) := by decide +kernel
theorem dX1_isSame_358 : decode cX1_isSame 358 = .ok (.aload_n 0, 1) := by decide +kernel
theorem dX1_isSame_359 : decode cX1_isSame 359 = .ok (.getfield 39, 3) := by decide +kernel
theorem dX1_isSame_362 : decode cX1_isSame 362 = .ok (.ifCond .le 7, 3) := by decide +kernel
theorem dX1_isSame_365 : decode cX1_isSame 365 = .ok (.iconst 1, 1) := by decide +kernel
theorem dX1_isSame_366 : decode cX1_isSame 366 = .ok (.goto 4, 3) := by decide +kernel
theorem dX1_isSame_369 : decode cX1_isSame 369 = .ok (.iconst 0, 1) := by decide +kernel
theorem dX1_isSame_370 : decode cX1_isSame 370 = .ok (.istore 11, 2) := by decide +kernel
theorem dX1_isSame_372 : decode cX1_isSame 372 = .ok (.aload_n 0, 1) := by decide +kernel
theorem dX1_isSame_373 : decode cX1_isSame 373 = .ok (.getfield 39, 3) := by decide +kernel
theorem dX1_isSame_376 : decode cX1_isSame 376 = .ok (.ifCond .le 7, 3) := by decide +kernel
theorem dX1_isSame_379 : decode cX1_isSame 379 = .ok (.iconst 1, 1) := by decide +kernel
theorem dX1_isSame_380 : decode cX1_isSame 380 = .ok (.goto 4, 3) := by decide +kernel
theorem dX1_isSame_383 : decode cX1_isSame 383 = .ok (.iconst 0, 1) := by decide +kernel
theorem dX1_isSame_384 : decode cX1_isSame 384 = .ok (.istore 12, 2) := by decide +kernel
theorem dX1_isSame_386 : decode cX1_isSame 386 = .ok (.iconst 0, 1) := by decide +kernel
theorem dX1_isSame_387 : decode cX1_isSame 387 = .ok (.istore 13, 2) := by decide +kernel
theorem dX1_isSame_389 : decode cX1_isSame 389 = .ok (.iload 13, 2) := by decide +kernel
theorem dX1_isSame_391 : decode cX1_isSame 391 = .ok (.aload_n 0, 1) := by decide +kernel
theorem dX1_isSame_392 : decode cX1_isSame 392 = .ok (.getfield 36, 3) := by decide +kernel
theorem dX1_isSame_395 : decode cX1_isSame 395 = .ok (.arraylength, 1) := by decide +kernel
theorem dX1_isSame_396 : decode cX1_isSame 396 = .ok (.if_icmp .ge 66, 3) := by decide +kernel
theorem dX1_isSame_399 : decode cX1_isSame 399 = .ok (.aload_n 0, 1) := by decide +kernel
theorem dX1_isSame_400 : decode cX1_isSame 400 = .ok (.getfield 36, 3) := by decide +kernel
theorem dX1_isSame_403 : decode cX1_isSame 403 = .ok (.iload 13, 2) := by decide +kernel
theorem dX1_isSame_405 : decode cX1_isSame 405 = .ok (.iaload, 1) := by decide +kernel
theorem dX1_isSame_406 : decode cX1_isSame 406 = .ok (.ifCond .ge 6, 3) := by decide +kernel
theorem dX1_isSame_409 : decode cX1_isSame 409 = .ok (.goto 47, 3) := by decide +kernel
theorem dX1_isSame_412 : decode cX1_isSame 412 = .ok (.iload 11, 2) := by decide +kernel
theorem dX1_isSame_414 : decode cX1_isSame 414 = .ok (.ifCond .eq 17, 3) := by decide +kernel
theorem dX1_isSame_417 : decode cX1_isSame 417 = .ok (.iload 13, 2) := by decide +kernel
theorem dX1_isSame_419 : decode cX1_isSame 419 = .ok (.iload 10, 2) := by decide +kernel
theorem dX1_isSame_421 : decode cX1_isSame 421 = .ok (.invokestatic 15, 3) := by decide +kernel
theorem dX1_isSame_424 : decode cX1_isSame 424 = .ok (.ifCond .eq 7, 3) := by decide +kernel
theorem dX1_isSame_427 : decode cX1_isSame 427 = .ok (.iconst 1, 1) := by decide +kernel
theorem dX1_isSame_428 : decode cX1_isSame 428 = .ok (.goto 4, 3) := by decide +kernel
theorem dX1_isSame_431 : decode cX1_isSame 431 = .ok (.iconst 0, 1) := by decide +kernel
theorem dX1_isSame_432 : decode cX1_isSame 432 = .ok (.istore 11, 2) := by decide +kernel
theorem dX1_isSame_434 : decode cX1_isSame 434 = .ok (.iload 12, 2) := by decide +kernel
theorem dX1_isSame_436 : decode cX1_isSame 436 = .ok (.ifCond .eq 17, 3) := by decide +kernel
theorem dX1_isSame_439 : decode cX1_isSame 439 = .ok (.iload 13, 2) := by decide +kernel
theorem dX1_isSame_441 : decode cX1_isSame 441 = .ok (.iload 10, 2) := by decide +kernel
theorem dX1_isSame_443 : decode cX1_isSame 443 = .ok (.invokestatic 15, 3) := by decide +kernel
theorem dX1_isSame_446 : decode cX1_isSame 446 = .ok (.ifCond .ne 7, 3) := by decide +kernel
theorem dX1_isSame_449 : decode cX1_isSame 449 = .ok (.iconst 1, 1) := by decide +kernel
theorem dX1_isSame_450 : decode cX1_isSame 450 = .ok (.goto 4, 3) := by decide +kernel
theorem dX1_isSame_453 : decode cX1_isSame 453 = .ok (.iconst 0, 1) := by decide +kernel
theorem dX1_isSame_454 : decode cX1_isSame 454 = .ok (.istore 12, 2) := by decide +kernel
theorem dX1_isSame_456 : decode cX1_isSame 456 = .ok (.iinc 13 1, 3) := by decide +kernel
theorem dX1_isSame_459 : decode cX1_isSame 459 = .ok (.goto (-70), 3) := by decide +kernel
theorem dX1_isSame_462 : decode cX1_isSame 462 = .ok (.aload_n 0, 1) := by decide +kernel
theorem dX1_isSame_463 : decode cX1_isSame 463 = .ok (.iconst 2, 1) := by decide +kernel
theorem dX1_isSame_464 : decode cX1_isSame 464 = .ok (.iload 10, 2) := by decide +kernel
theorem dX1_isSame_466 : decode cX1_isSame 466 = .ok (.imul, 1) := by decide +kernel
theorem dX1_isSame_467 : decode cX1_isSame 467 = .ok (.invokevirtual 61, 3) := by decide +kernel
theorem dX1_isSame_470 : decode cX1_isSame 470 = .ok (.ifCond .eq 20, 3) := by decide +kernel
theorem dX1_isSame_473 : decode cX1_isSame 473 = .ok (.aload_n 0, 1) := by decide +kernel
theorem dX1_isSame_474 : decode cX1_isSame 474 = .ok (.iconst 2, 1) := by decide +kernel
theorem dX1_isSame_475 : decode cX1_isSame 475 = .ok (.iload 10, 2) := by decide +kernel
theorem dX1_isSame_477 : decode cX1_isSame 477 = .ok (.imul, 1) := by decide +kernel
theorem dX1_isSame_478 : decode cX1_isSame 478 = .ok (.iconst 1, 1) := by decide +kernel
theorem dX1_isSame_479 : decode cX1_isSame 479 = .ok (.iadd, 1) := by decide +kernel
theorem dX1_isSame_480 : decode cX1_isSame 480 = .ok (.invokevirtual 61, 3) := by decide +kernel
theorem dX1_isSame_483 : decode cX1_isSame 483 = .ok (.ifCond .eq 7, 3) := by decide +kernel
theorem dX1_isSame_486 : decode cX1_isSame 486 = .ok (.iconst 1, 1) := by decide +kernel
theorem dX1_isSame_487 : decode cX1_isSame 487 = .ok (.goto 4, 3) := by decide +kernel
theorem dX1_isSame_490 : decode cX1_isSame 490 = .ok (.iconst 0, 1) := by decide +kernel
theorem dX1_isSame_491 : decode cX1_isSame 491 = .ok (.istore 13, 2) := by decide +kernel
theorem dX1_isSame_493 : decode cX1_isSame 493 = .ok (.iload 4, 2) := by decide +kernel
theorem dX1_isSame_495 : decode cX1_isSame 495 = .ok (.iload 13, 2) := by decide +kernel
theorem dX1_isSame_497 : decode cX1_isSame 497 = .ok (.ifCond .eq 7, 3) := by decide +kernel
theorem dX1_isSame_500 : decode cX1_isSame 500 = .ok (.iconst 1, 1) := by decide +kernel
theorem dX1_isSame_501 : decode cX1_isSame 501 = .ok (.goto 4, 3) := by decide +kernel
theorem dX1_isSame_504 : decode cX1_isSame 504 = .ok (.iconst 0, 1) := by decide +kernel
theorem dX1_isSame_505 : decode cX1_isSame 505 = .ok (.iadd, 1) := by decide +kernel
theorem dX1_isSame_506 : decode cX1_isSame 506 = .ok (.istore 4, 2) := by decide +kernel
theorem dX1_isSame_508 : decode cX1_isSame 508 = .ok (.iconst 0, 1) := by decide +kernel
theorem dX1_isSame_509 : decode cX1_isSame 509 = .ok (.istore 14, 2) := by decide +kernel
theorem dX1_isSame_511 : decode cX1_isSame 511 = .ok (.iconst 0, 1) := by decide +kernel
theorem dX1_isSame_512 : decode cX1_isSame 512 = .ok (.istore 15, 2) := by decide +kernel
theorem dX1_isSame_514 : decode cX1_isSame 514 = .ok (.iload 15, 2) := by decide +kernel
theorem dX1_isSame_516 : decode cX1_isSame 516 = .ok (.iload_n 2, 1) := by decide +kernel
theorem dX1_isSame_517 : decode cX1_isSame 517 = .ok (.if_icmp .ge 107, 3) := by decide +kernel
theorem dX1_isSame_520 : decode cX1_isSame 520 = .ok (.iconst 0, 1) := by decide +kernel
theorem dX1_isSame_521 : decode cX1_isSame 521 = .ok (.istore 16, 2) := by decide +kernel
theorem dX1_isSame_523 : decode cX1_isSame 523 = .ok (.iconst 2, 1) := by decide +kernel
theorem dX1_isSame_524 : decode cX1_isSame 524 = .ok (.iload 10, 2) := by decide +kernel
theorem dX1_isSame_526 : decode cX1_isSame 526 = .ok (.imul, 1) := by decide +kernel
theorem dX1_isSame_527 : decode cX1_isSame 527 = .ok (.istore 17, 2) := by decide +kernel
theorem dX1_isSame_529 : decode cX1_isSame 529 = .ok (.iload 17, 2) := by decide +kernel
theorem dX1_isSame_531 : decode cX1_isSame 531 = .ok (.iconst 2, 1) := by decide +kernel
theorem dX1_isSame_532 : decode cX1_isSame 532 = .ok (.iload 10, 2) := by decide +kernel
theorem dX1_isSame_534 : decode cX1_isSame 534 = .ok (.imul, 1) := by decide +kernel
theorem dX1_isSame_535 : decode cX1_isSame 535 = .ok (.iconst 2, 1) := by decide +kernel
theorem dX1_isSame_536 : decode cX1_isSame 536 = .ok (.iadd, 1) := by decide +kernel
theorem dX1_isSame_537 : decode cX1_isSame 537 = .ok (.if_icmp .ge 66, 3) := by decide +kernel
theorem dX1_isSame_540 : decode cX1_isSame 540 = .ok (.iconst 2, 1) := by decide +kernel
theorem dX1_isSame_541 : decode cX1_isSame 541 = .ok (.iload 15, 2) := by decide +kernel
theorem dX1_isSame_543 : decode cX1_isSame 543 = .ok (.imul, 1) := by decide +kernel
theorem dX1_isSame_544 : decode cX1_isSame 544 = .ok (.istore 18, 2) := by decide +kernel
theorem dX1_isSame_546 : decode cX1_isSame 546 = .ok (.iload 18, 2) := by decide +kernel
theorem dX1_isSame_548 : decode cX1_isSame 548 = .ok (.iconst 2, 1) := by decide +kernel
theorem dX1_isSame_549 : decode cX1_isSame 549 = .ok (.iload 15, 2) := by decide +kernel
theorem dX1_isSame_551 : decode cX1_isSame 551 = .ok (.imul, 1) := by decide +kernel
theorem dX1_isSame_552 : decode cX1_isSame 552 = .ok (.iconst 2, 1) := by decide +kernel
theorem dX1_isSame_553 : decode cX1_isSame 553 = .ok (.iadd, 1) := by decide +kernel
theorem dX1_isSame_554 : decode cX1_isSame 554 = .ok (.if_icmp .ge 43, 3) := by decide +kernel
theorem dX1_isSame_557 : decode cX1_isSame 557 = .ok (.iload 16, 2) := by decide +kernel
theorem dX1_isSame_559 : decode cX1_isSame 559 = .ok (.ifCond .ne 25, 3) := by decide +kernel
theorem dX1_isSame_562 : decode cX1_isSame 562 = .ok (.aload_n 0, 1) := by decide +kernel
theorem dX1_isSame_563 : decode cX1_isSame 563 = .ok (.iload 17, 2) := by decide +kernel
theorem dX1_isSame_565 : decode cX1_isSame 565 = .ok (.iload 18, 2) := by decide +kernel
theorem dX1_isSame_567 : decode cX1_isSame 567 = .ok (.invokevirtual 46, 3) := by decide +kernel
theorem dX1_isSame_570 : decode cX1_isSame 570 = .ok (.ifCond .eq 18, 3) := by decide +kernel
theorem dX1_isSame_573 : decode cX1_isSame 573 = .ok (.aload_n 0, 1) := by decide +kernel
theorem dX1_isSame_574 : decode cX1_isSame 574 = .ok (.iload 18, 2) := by decide +kernel
theorem dX1_isSame_576 : decode cX1_isSame 576 = .ok (.iload 17, 2) := by decide +kernel
theorem dX1_isSame_578 : decode cX1_isSame 578 = .ok (.invokevirtual 46, 3) := by decide +kernel
theorem dX1_isSame_581 : decode cX1_isSame 581 = .ok (.ifCond .eq 7, 3) := by decide +kernel
theorem dX1_isSame_584 : decode cX1_isSame 584 = .ok (.iconst 1, 1) := by decide +kernel
theorem dX1_isSame_585 : decode cX1_isSame 585 = .ok (.goto 4, 3) := by decide +kernel
theorem dX1_isSame_588 : decode cX1_isSame 588 = .ok (.iconst 0, 1) := by decide +kernel
theorem dX1_isSame_589 : decode cX1_isSame 589 = .ok (.istore 16, 2) := by decide +kernel
theorem dX1_isSame_591 : decode cX1_isSame 591 = .ok (.iinc 18 1, 3) := by decide +kernel
theorem dX1_isSame_594 : decode cX1_isSame 594 = .ok (.goto (-48), 3) := by decide +kernel
theorem dX1_isSame_597 : decode cX1_isSame 597 = .ok (.iinc 17 1, 3) := by decide +kernel
theorem dX1_isSame_600 : decode cX1_isSame 600 = .ok (.goto (-71), 3) := by decide +kernel
theorem dX1_isSame_603 : decode cX1_isSame 603 = .ok (.iload 14, 2) := by decide +kernel
theorem dX1_isSame_605 : decode cX1_isSame 605 = .ok (.iload 16, 2) := by decide +kernel
theorem dX1_isSame_607 : decode cX1_isSame 607 = .ok (.ifCond .eq 7, 3) := by decide +kernel
theorem dX1_isSame_610 : decode cX1_isSame 610 = .ok (.iconst 1, 1) := by decide +kernel
theorem dX1_isSame_611 : decode cX1_isSame 611 = .ok (.goto 4, 3) := by decide +kernel
theorem dX1_isSame_614 : decode cX1_isSame 614 = .ok (.iconst 0, 1) := by decide +kernel
theorem dX1_isSame_615 : decode cX1_isSame 615 = .ok (.iadd, 1) := by decide +kernel
theorem dX1_isSame_616 : decode cX1_isSame 616 = .ok (.istore 14, 2) := by decide +kernel
theorem dX1_isSame_618 : decode cX1_isSame 618 = .ok (.iinc 15 1, 3) := by decide +kernel
theorem dX1_isSame_621 : decode cX1_isSame 621 = .ok (.goto (-107), 3) := by decide +kernel
theorem dX1_isSame_624 : decode cX1_isSame 624 = .ok (.iconst 4, 1) := by decide +kernel
theorem dX1_isSame_625 : decode cX1_isSame 625 = .ok (.newarray .int, 2) := by decide +kernel
theorem dX1_isSame_627 : decode cX1_isSame 627 = .ok (.dup, 1) := by decide +kernel
theorem dX1_isSame_628 : decode cX1_isSame 628 = .ok (.iconst 0, 1) := by decide +kernel
theorem dX1_isSame_629 : decode cX1_isSame 629 = .ok (.iload 11, 2) := by decide +kernel
theorem dX1_isSame_631 : decode cX1_isSame 631 = .ok (.ifCond .eq 7, 3) := by decide +kernel
theorem dX1_isSame_634 : decode cX1_isSame 634 = .ok (.iconst 1, 1) := by decide +kernel
theorem dX1_isSame_635 : decode cX1_isSame 635 = .ok (.goto 4, 3) := by decide +kernel
theorem dX1_isSame_638 : decode cX1_isSame 638 = .ok (.iconst 0, 1) := by decide +kernel
theorem dX1_isSame_639 : decode cX1_isSame 639 = .ok (.iastore, 1) := by decide +kernel
theorem dX1_isSame_640 : decode cX1_isSame 640 = .ok (.dup, 1) := by decide +kernel
theorem dX1_isSame_641 : decode cX1_isSame 641 = .ok (.iconst 1, 1) := by decide +kernel
theorem dX1_isSame_642 : decode cX1_isSame 642 = .ok (.iload 12, 2) := by decide +kernel
theorem dX1_isSame_644 : decode cX1_isSame 644 = .ok (.ifCond .eq 7, 3) := by decide +kernel
theorem dX1_isSame_647 : decode cX1_isSame 647 = .ok (.iconst 1, 1) := by decide +kernel
theorem dX1_isSame_648 : decode cX1_isSame 648 = .ok (.goto 4, 3) := by decide +kernel
theorem dX1_isSame_651 : decode cX1_isSame 651 = .ok (.iconst 0, 1) := by decide +kernel
theorem dX1_isSame_652 : decode cX1_isSame 652 = .ok (.iastore, 1) := by decide +kernel
theorem dX1_isSame_653 : decode cX1_isSame 653 = .ok (.dup, 1) := by decide +kernel
theorem dX1_isSame_654 : decode cX1_isSame 654 = .ok (.iconst 2, 1) := by decide +kernel
theorem dX1_isSame_655 : decode cX1_isSame 655 = .ok (.iload 13, 2) := by decide +kernel
theorem dX1_isSame_657 : decode cX1_isSame 657 = .ok (.ifCond .eq 7, 3) := by decide +kernel
theorem dX1_isSame_660 : decode cX1_isSame 660 = .ok (.iconst 1, 1) := by decide +kernel
theorem dX1_isSame_661 : decode cX1_isSame 661 = .ok (.goto 4, 3) := by decide +kernel
theorem dX1_isSame_664 : decode cX1_isSame 664 = .ok (.iconst 0, 1) := by decide +kernel
theorem dX1_isSame_665 : decode cX1_isSame 665 = .ok (.iastore, 1) := by decide +kernel
theorem dX1_isSame_666 : decode cX1_isSame 666 = .ok (.dup, 1) := by decide +kernel
theorem dX1_isSame_667 : decode cX1_isSame 667 = .ok (.iconst 3, 1) := by decide +kernel
theorem dX1_isSame_668 : decode cX1_isSame 668 = .ok (.iload 14, 2) := by decide +kernel
theorem dX1_isSame_670 : decode cX1_isSame 670 = .ok (.iastore, 1) := by decide +kernel
theorem dX1_isSame_671 : decode cX1_isSame 671 = .ok (.astore 15, 2) := by decide +kernel
theorem dX1_isSame_673 : decode cX1_isSame 673 = .ok (.iconst 0, 1) := by decide +kernel
theorem dX1_isSame_674 : decode cX1_isSame 674 = .ok (.istore 16, 2) := by decide +kernel
theorem dX1_isSame_676 : decode cX1_isSame 676 = .ok (.iload 16, 2) := by decide +kernel
theorem dX1_isSame_678 : decode cX1_isSame 678 = .ok (.iconst 4, 1) := by decide +kernel
theorem dX1_isSame_679 : decode cX1_isSame 679 = .ok (.if_icmp .ge 27, 3) := by decide +kernel
theorem dX1_isSame_682 : decode cX1_isSame 682 = .ok (.aload_n 1, 1) := by decide +kernel
theorem dX1_isSame_683 : decode cX1_isSame 683 = .ok (.iload 10, 2) := by decide +kernel
theorem dX1_isSame_685 : decode cX1_isSame 685 = .ok (.iload 16, 2) := by decide +kernel
theorem dX1_isSame_687 : decode cX1_isSame 687 = .ok (.invokevirtual 73, 3) := by decide +kernel
theorem dX1_isSame_690 : decode cX1_isSame 690 = .ok (.aload 15, 2) := by decide +kernel
theorem dX1_isSame_692 : decode cX1_isSame 692 = .ok (.iload 16, 2) := by decide +kernel
theorem dX1_isSame_694 : decode cX1_isSame 694 = .ok (.iaload, 1) := by decide +kernel
theorem dX1_isSame_695 : decode cX1_isSame 695 = .ok (.if_icmp .eq 5, 3) := by decide +kernel
theorem dX1_isSame_698 : decode cX1_isSame 698 = .ok (.iconst 0, 1) := by decide +kernel
theorem dX1_isSame_699 : decode cX1_isSame 699 = .ok (.ireturn, 1) := by decide +kernel
theorem dX1_isSame_700 : decode cX1_isSame 700 = .ok (.iinc 16 1, 3) := by decide +kernel
theorem dX1_isSame_703 : decode cX1_isSame 703 = .ok (.goto (-27), 3) := by decide +kernel
theorem dX1_isSame_706 : decode cX1_isSame 706 = .ok (.iinc 10 1, 3) := by decide +kernel
theorem dX1_isSame_709 : decode cX1_isSame 709 = .ok (.goto (-357), 3) := by decide +kernel
theorem dX1_isSame_712 : decode cX1_isSame 712 = .ok (.bipush 6, 2) := by decide +kernel
theorem dX1_isSame_714 : decode cX1_isSame 714 = .ok (.newarray .int, 2) := by decide +kernel
theorem dX1_isSame_716 : decode cX1_isSame 716 = .ok (.dup, 1) := by decide +kernel
theorem dX1_isSame_717 : decode cX1_isSame 717 = .ok (.iconst 0, 1) := by decide +kernel
theorem dX1_isSame_718 : decode cX1_isSame 718 = .ok (.iload_n 2, 1) := by decide +kernel
theorem dX1_isSame_719 : decode cX1_isSame 719 = .ok (.iastore, 1) := by decide +kernel
theorem dX1_isSame_720 : decode cX1_isSame 720 = .ok (.dup, 1) := by decide +kernel
theorem dX1_isSame_721 : decode cX1_isSame 721 = .ok (.iconst 1, 1) := by decide +kernel
theorem dX1_isSame_722 : decode cX1_isSame 722 = .ok (.aload_n 0, 1) := by decide +kernel
theorem dX1_isSame_723 : decode cX1_isSame 723 = .ok (.getfield 9, 3) := by decide +kernel
theorem dX1_isSame_726 : decode cX1_isSame 726 = .ok (.arraylength, 1) := by decide +kernel
theorem dX1_isSame_727 : decode cX1_isSame 727 = .ok (.iastore, 1) := by decide +kernel
theorem dX1_isSame_728 : decode cX1_isSame 728 = .ok (.dup, 1) := by decide +kernel
theorem dX1_isSame_729 : decode cX1_isSame 729 = .ok (.iconst 2, 1) := by decide +kernel
theorem dX1_isSame_730 : decode cX1_isSame 730 = .ok (.iload_n 3, 1) := by decide +kernel
theorem dX1_isSame_731 : decode cX1_isSame 731 = .ok (.iastore, 1) := by decide +kernel
theorem dX1_isSame_732 : decode cX1_isSame 732 = .ok (.dup, 1) := by decide +kernel
theorem dX1_isSame_733 : decode cX1_isSame 733 = .ok (.iconst 3, 1) := by decide +kernel
theorem dX1_isSame_734 : decode cX1_isSame 734 = .ok (.iload 4, 2) := by decide +kernel
theorem dX1_isSame_736 : decode cX1_isSame 736 = .ok (.iastore, 1) := by decide +kernel
theorem dX1_isSame_737 : decode cX1_isSame 737 = .ok (.dup, 1) := by decide +kernel
theorem dX1_isSame_738 : decode cX1_isSame 738 = .ok (.iconst 4, 1) := by decide +kernel
theorem dX1_isSame_739 : decode cX1_isSame 739 = .ok (.iload 5, 2) := by decide +kernel
theorem dX1_isSame_741 : decode cX1_isSame 741 = .ok (.iastore, 1) := by decide +kernel
theorem dX1_isSame_742 : decode cX1_isSame 742 = .ok (.dup, 1) := by decide +kernel
theorem dX1_isSame_743 : decode cX1_isSame 743 = .ok (.iconst 5, 1) := by decide +kernel
theorem dX1_isSame_744 : decode cX1_isSame 744 = .ok (.iload 6, 2) := by decide +kernel
theorem dX1_isSame_746 : decode cX1_isSame 746 = .ok (.iastore, 1) := by decide +kernel
theorem dX1_isSame_747 : decode cX1_isSame 747 = .ok (.astore 10, 2) := by decide +kernel
theorem dX1_isSame_749 : decode cX1_isSame 749 = .ok (.iconst 0, 1) := by decide +kernel
theorem dX1_isSame_750 : decode cX1_isSame 750 = .ok (.istore 11, 2) := by decide +kernel
theorem dX1_isSame_752 : decode cX1_isSame 752 = .ok (.iload 11, 2) := by decide +kernel
theorem dX1_isSame_754 : decode cX1_isSame 754 = .ok (.bipush 6, 2) := by decide +kernel
theorem dX1_isSame_756 : decode cX1_isSame 756 = .ok (.if_icmp .ge 25, 3) := by decide +kernel
theorem dX1_isSame_759 : decode cX1_isSame 759 = .ok (.aload_n 1, 1) := by decide +kernel
theorem dX1_isSame_760 : decode cX1_isSame 760 = .ok (.iload 11, 2) := by decide +kernel
theorem dX1_isSame_762 : decode cX1_isSame 762 = .ok (.invokevirtual 76, 3) := by decide +kernel
theorem dX1_isSame_765 : decode cX1_isSame 765 = .ok (.aload 10, 2) := by decide +kernel
theorem dX1_isSame_767 : decode cX1_isSame 767 = .ok (.iload 11, 2) := by decide +kernel
theorem dX1_isSame_769 : decode cX1_isSame 769 = .ok (.iaload, 1) := by decide +kernel
theorem dX1_isSame_770 : decode cX1_isSame 770 = .ok (.if_icmp .eq 5, 3) := by decide +kernel
theorem dX1_isSame_773 : decode cX1_isSame 773 = .ok (.iconst 0, 1) := by decide +kernel
theorem dX1_isSame_774 : decode cX1_isSame 774 = .ok (.ireturn, 1) := by decide +kernel
theorem dX1_isSame_775 : decode cX1_isSame 775 = .ok (.iinc 11 1, 3) := by decide +kernel
theorem dX1_isSame_778 : decode cX1_isSame 778 = .ok (.goto (-26), 3) := by decide +kernel
theorem dX1_isSame_781 : decode cX1_isSame 781 = .ok (.aload_n 1, 1) := by decide +kernel
theorem dX1_isSame_782 : decode cX1_isSame 782 = .ok (.invokevirtual 79, 3) := by decide +kernel
theorem dX1_isSame_785 : decode cX1_isSame 785 = .ok (.aload_n 0, 1) := by decide +kernel
theorem dX1_isSame_786 : decode cX1_isSame 786 = .ok (.getfield 39, 3) := by decide +kernel
theorem dX1_isSame_789 : decode cX1_isSame 789 = .ok (.ifCond .le 7, 3) := by decide +kernel
theorem dX1_isSame_792 : decode cX1_isSame 792 = .ok (.iconst 1, 1) := by decide +kernel
theorem dX1_isSame_793 : decode cX1_isSame 793 = .ok (.goto 4, 3) := by decide +kernel
theorem dX1_isSame_796 : decode cX1_isSame 796 = .ok (.iconst 0, 1) := by decide +kernel
theorem dX1_isSame_797 : decode cX1_isSame 797 = .ok (.if_icmp .ne 75, 3) := by decide +kernel
theorem dX1_isSame_800 : decode cX1_isSame 800 = .ok (.aload_n 1, 1) := by decide +kernel
theorem dX1_isSame_801 : decode cX1_isSame 801 = .ok (.invokevirtual 83, 3) := by decide +kernel
theorem dX1_isSame_804 : decode cX1_isSame 804 = .ok (.aload_n 0, 1) := by decide +kernel
theorem dX1_isSame_805 : decode cX1_isSame 805 = .ok (.getfield 39, 3) := by decide +kernel
theorem dX1_isSame_808 : decode cX1_isSame 808 = .ok (.if_icmp .ne 64, 3) := by decide +kernel
theorem dX1_isSame_811 : decode cX1_isSame 811 = .ok (.aload_n 1, 1) := by decide +kernel
theorem dX1_isSame_812 : decode cX1_isSame 812 = .ok (.invokevirtual 87, 3) := by decide +kernel
theorem dX1_isSame_815 : decode cX1_isSame 815 = .ok (.aload_n 0, 1) := by decide +kernel
theorem dX1_isSame_816 : decode cX1_isSame 816 = .ok (.invokevirtual 90, 3) := by decide +kernel
theorem dX1_isSame_819 : decode cX1_isSame 819 = .ok (.if_icmp .ne 53, 3) := by decide +kernel
theorem dX1_isSame_822 : decode cX1_isSame 822 = .ok (.aload_n 1, 1) := by decide +kernel
theorem dX1_isSame_823 : decode cX1_isSame 823 = .ok (.invokevirtual 91, 3) := by decide +kernel
theorem dX1_isSame_826 : decode cX1_isSame 826 = .ok (.iload 7, 2) := by decide +kernel
theorem dX1_isSame_828 : decode cX1_isSame 828 = .ok (.if_icmp .ne 44, 3) := by decide +kernel
theorem dX1_isSame_831 : decode cX1_isSame 831 = .ok (.aload_n 1, 1) := by decide +kernel
theorem dX1_isSame_832 : decode cX1_isSame 832 = .ok (.invokevirtual 94, 3) := by decide +kernel
theorem dX1_isSame_835 : decode cX1_isSame 835 = .ok (.iload 8, 2) := by decide +kernel
theorem dX1_isSame_837 : decode cX1_isSame 837 = .ok (.if_icmp .ne 35, 3) := by decide +kernel
theorem dX1_isSame_840 : decode cX1_isSame 840 = .ok (.aload_n 1, 1) := by decide +kernel
theorem dX1_isSame_841 : decode cX1_isSame 841 = .ok (.invokevirtual 97, 3) := by decide +kernel
theorem dX1_isSame_844 : decode cX1_isSame 844 = .ok (.aload_n 0, 1) := by decide +kernel
theorem dX1_isSame_845 : decode cX1_isSame 845 = .ok (.getfield 39, 3) := by decide +kernel
theorem dX1_isSame_848 : decode cX1_isSame 848 = .ok (.ifCond .ne 7, 3) := by decide +kernel
theorem dX1_isSame_851 : decode cX1_isSame 851 = .ok (.dconst 0, 1) := by decide +kernel
theorem dX1_isSame_852 : decode cX1_isSame 852 = .ok (.goto 12, 3) := by decide +kernel
theorem dX1_isSame_855 : decode cX1_isSame 855 = .ok (.iload 9, 2) := by decide +kernel
theorem dX1_isSame_857 : decode cX1_isSame 857 = .ok (.i2d, 1) := by decide +kernel
theorem dX1_isSame_858 : decode cX1_isSame 858 = .ok (.aload_n 0, 1) := by decide +kernel
theorem dX1_isSame_859 : decode cX1_isSame 859 = .ok (.getfield 39, 3) := by decide +kernel
theorem dX1_isSame_862 : decode cX1_isSame 862 = .ok (.i2d, 1) := by decide +kernel
theorem dX1_isSame_863 : decode cX1_isSame 863 = .ok (.ddiv, 1) := by decide +kernel
theorem dX1_isSame_864 : decode cX1_isSame 864 = .ok (.dcmp .l, 1) := by decide +kernel
theorem dX1_isSame_865 : decode cX1_isSame 865 = .ok (.ifCond .ne 7, 3) := by decide +kernel
theorem dX1_isSame_868 : decode cX1_isSame 868 = .ok (.iconst 1, 1) := by decide +kernel
theorem dX1_isSame_869 : decode cX1_isSame 869 = .ok (.goto 4, 3) := by decide +kernel
theorem dX1_isSame_872 : decode cX1_isSame 872 = .ok (.iconst 0, 1) := by decide +kernel
theorem dX1_isSame_873 : decode cX1_isSame 873 = .ok (.ireturn, 1) := by decide +kernel
