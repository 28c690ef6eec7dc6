theorem dX1_init_0 : decode cX1_init 0 = .ok (.aload_n 0, 1) := by decide +kernel
theorem dX1_init_1 : decode cX1_init 1 = .ok (.invokespecial 1, 3) := by decide +kernel
theorem dX1_init_4 : decode cX1_init 4 = .ok (.aload_n 0, 1) := by decide +kernel
theorem dX1_init_5 : decode cX1_init 5 = .ok (.bipush 30, 2) := by decide +kernel
theorem dX1_init_7 : decode cX1_init 7 = .ok (.newarray .int, 2) := by decide +kernel
theorem dX1_init_9 : decode cX1_init 9 = .ok (.putfield 9, 3) := by decide +kernel
theorem dX1_init_12 : decode cX1_init 12 = .ok (.aload_n 0, 1) := by decide +kernel
theorem dX1_init_13 : decode cX1_init 13 = .ok (.bipush 30, 2) := by decide +kernel
theorem dX1_init_15 : decode cX1_init 15 = .ok (.newarray .int, 2) := by decide +kernel
theorem dX1_init_17 : decode cX1_init 17 = .ok (.putfield 13, 3) := by decide +kernel
theorem dX1_init_20 : decode cX1_init 20 = .ok (.aload_n 0, 1) := by decide +kernel
theorem dX1_init_21 : decode cX1_init 21 = .ok (.bipush 30, 2) := by decide +kernel
theorem dX1_init_23 : decode cX1_init 23 = .ok (.newarray .boolean, 2) := by decide +kernel
theorem dX1_init_25 : decode cX1_init 25 = .ok (.putfield 16, 3) := by decide +kernel
theorem dX1_init_28 : decode cX1_init 28 = .ok (.aload_n 0, 1) := by decide +kernel
theorem dX1_init_29 : decode cX1_init 29 = .ok (.iconst (-1), 1) := by decide +kernel
theorem dX1_init_30 : decode cX1_init 30 = .ok (.putfield 20, 3) := by decide +kernel
theorem dX1_init_33 : decode cX1_init 33 = .ok (.aload_n 0, 1) := by decide +kernel
theorem dX1_init_34 : decode cX1_init 34 = .ok (.iconst (-1), 1) := by decide +kernel
theorem dX1_init_35 : decode cX1_init 35 = .ok (.putfield 24, 3) := by decide +kernel
theorem dX1_init_38 : decode cX1_init 38 = .ok (.aload_n 0, 1) := by decide +kernel
theorem dX1_init_39 : decode cX1_init 39 = .ok (.bipush 20, 2) := by decide +kernel
theorem dX1_init_41 : decode cX1_init 41 = .ok (.newarray .int, 2) := by decide +kernel
theorem dX1_init_43 : decode cX1_init 43 = .ok (.putfield 27, 3) := by decide +kernel
theorem dX1_init_46 : decode cX1_init 46 = .ok (.aload_n 0, 1) := by decide +kernel
theorem dX1_init_47 : decode cX1_init 47 = .ok (.bipush 20, 2) := by decide +kernel
theorem dX1_init_49 : decode cX1_init 49 = .ok (.newarray .int, 2) := by decide +kernel
theorem dX1_init_51 : decode cX1_init 51 = .ok (.putfield 30, 3) := by decide +kernel
theorem dX1_init_54 : decode cX1_init 54 = .ok (.return_, 1) := by decide +kernel
theorem dX1_thrown_0 : decode cX1_thrown 0 = .ok (.aload_n 0, 1) := by decide +kernel
theorem dX1_thrown_1 : decode cX1_thrown 1 = .ok (.getfield 33, 3) := by decide +kernel
theorem dX1_thrown_4 : decode cX1_thrown 4 = .ok (.ireturn, 1) := by decide +kernel
theorem dX1_fail_0 : decode cX1_fail 0 = .ok (.aload_n 0, 1) := by decide +kernel
theorem dX1_fail_1 : decode cX1_fail 1 = .ok (.iload_n 1, 1) := by decide +kernel
theorem dX1_fail_2 : decode cX1_fail 2 = .ok (.putfield 33, 3) := by decide +kernel
theorem dX1_fail_5 : decode cX1_fail 5 = .ok (.iconst 0, 1) := by decide +kernel
theorem dX1_fail_6 : decode cX1_fail 6 = .ok (.ireturn, 1) := by decide +kernel
theorem dX1_isIn_0 : decode cX1_isIn 0 = .ok (.iload_n 0, 1) := by decide +kernel
theorem dX1_isIn_1 : decode cX1_isIn 1 = .ok (.iload_n 1, 1) := by decide +kernel
theorem dX1_isIn_2 : decode cX1_isIn 2 = .ok (.if_icmp .lt 12, 3) := by decide +kernel
theorem dX1_isIn_5 : decode cX1_isIn 5 = .ok (.iload_n 0, 1) := by decide +kernel
theorem dX1_isIn_6 : decode cX1_isIn 6 = .ok (.iload_n 2, 1) := by decide +kernel
theorem dX1_isIn_7 : decode cX1_isIn 7 = .ok (.if_icmp .gt 7, 3) := by decide +kernel
theorem dX1_isIn_10 : decode cX1_isIn 10 = .ok (.iconst 1, 1) := by decide +kernel
theorem dX1_isIn_11 : decode cX1_isIn 11 = .ok (.goto 4, 3) := by decide +kernel
theorem dX1_isIn_14 : decode cX1_isIn 14 = .ok (.iconst 0, 1) := by decide +kernel
theorem dX1_isIn_15 : decode cX1_isIn 15 = .ok (.ireturn, 1) := by decide +kernel
set_option maxRecDepth 20000 in
theorem ggX1_isWish_X1_isIn : GoodIn wsX1_isWish wsX1_isIn := goodIn_r _ [5] (by decide +kernel) (by decide +kernel)
set_option maxRecDepth 20000 in
theorem gX1_isWish_X1_isIn : GoodIn wsX1_isWish (va_wsS RX1 39 yX1_isIn wsX1_isIn) := goodIn_app (goodIn_of _ (by decide +kernel)) ggX1_isWish_X1_isIn
theorem dX1_isWish_0 : decode cX1_isWish 0 = .ok (.iload_n 1, 1) := by decide +kernel
theorem dX1_isWish_1 : decode cX1_isWish 1 = .ok (.iconst 0, 1) := by decide +kernel
theorem dX1_isWish_2 : decode cX1_isWish 2 = .ok (.iconst 2, 1) := by decide +kernel
theorem dX1_isWish_3 : decode cX1_isWish 3 = .ok (.aload_n 0, 1) := by decide +kernel
theorem dX1_isWish_4 : decode cX1_isWish 4 = .ok (.getfield 36, 3) := by decide +kernel
theorem dX1_isWish_7 : decode cX1_isWish 7 = .ok (.imul, 1) := by decide +kernel
theorem dX1_isWish_8 : decode cX1_isWish 8 = .ok (.iconst 1, 1) := by decide +kernel
theorem dX1_isWish_9 : decode cX1_isWish 9 = .ok (.isub, 1) := by decide +kernel
theorem dX1_isWish_10 : decode cX1_isWish 10 = .ok (.invokestatic 39, 3) := by decide +kernel
theorem dX1_isWish_13 : decode cX1_isWish 13 = .ok (.ireturn, 1) := by decide +kernel
theorem dX1_against_0 : decode cX1_against 0 = .ok (.iload_n 0, 1) := by decide +kernel
theorem dX1_against_1 : decode cX1_against 1 = .ok (.iconst 2, 1) := by decide +kernel
theorem dX1_against_2 : decode cX1_against 2 = .ok (.irem, 1) := by decide +kernel
theorem dX1_against_3 : decode cX1_against 3 = .ok (.ifCond .ne 9, 3) := by decide +kernel
theorem dX1_against_6 : decode cX1_against 6 = .ok (.iload_n 0, 1) := by decide +kernel
theorem dX1_against_7 : decode cX1_against 7 = .ok (.iconst 1, 1) := by decide +kernel
theorem dX1_against_8 : decode cX1_against 8 = .ok (.iadd, 1) := by decide +kernel
theorem dX1_against_9 : decode cX1_against 9 = .ok (.goto 6, 3) := by decide +kernel
theorem dX1_against_12 : decode cX1_against 12 = .ok (.iload_n 0, 1) := by decide +kernel
theorem dX1_against_13 : decode cX1_against 13 = .ok (.iconst 1, 1) := by decide +kernel
theorem dX1_against_14 : decode cX1_against 14 = .ok (.isub, 1) := by decide +kernel
theorem dX1_against_15 : decode cX1_against 15 = .ok (.ireturn, 1) := by decide +kernel
set_option maxRecDepth 20000 in
theorem ggX1_invite_X1_fail : GoodIn wsX1_invite wsX1_fail := goodIn_r _ [7, 1, 8, 9, 10, 11, 12, 13, 14, 15, 16, 17] (by decide +kernel) (by decide +kernel)
set_option maxRecDepth 20000 in
theorem gX1_invite_X1_fail : GoodIn wsX1_invite (wsV RX1 43 RX1 yX1_fail wsX1_fail) := goodIn_app (goodIn_of _ (by decide +kernel)) ggX1_invite_X1_fail
theorem dX1_invite_0 : decode cX1_invite 0 = .ok (.aload_n 0, 1) := by decide +kernel
theorem dX1_invite_1 : decode cX1_invite 1 = .ok (.iconst 0, 1) := by decide +kernel
theorem dX1_invite_2 : decode cX1_invite 2 = .ok (.putfield 33, 3) := by decide +kernel
theorem dX1_invite_5 : decode cX1_invite 5 = .ok (.aload_n 0, 1) := by decide +kernel
theorem dX1_invite_6 : decode cX1_invite 6 = .ok (.getfield 36, 3) := by decide +kernel
theorem dX1_invite_9 : decode cX1_invite 9 = .ok (.bipush 10, 2) := by decide +kernel
theorem dX1_invite_11 : decode cX1_invite 11 = .ok (.if_icmp .ne 9, 3) := by decide +kernel
theorem dX1_invite_14 : decode cX1_invite 14 = .ok (.aload_n 0, 1) := by decide +kernel
theorem dX1_invite_15 : decode cX1_invite 15 = .ok (.iconst 1, 1) := by decide +kernel
theorem dX1_invite_16 : decode cX1_invite 16 = .ok (.invokevirtual 43, 3) := by decide +kernel
theorem dX1_invite_19 : decode cX1_invite 19 = .ok (.ireturn, 1) := by decide +kernel
theorem dX1_invite_20 : decode cX1_invite 20 = .ok (.aload_n 0, 1) := by decide +kernel
theorem dX1_invite_21 : decode cX1_invite 21 = .ok (.dup, 1) := by decide +kernel
theorem dX1_invite_22 : decode cX1_invite 22 = .ok (.getfield 36, 3) := by decide +kernel
theorem dX1_invite_25 : decode cX1_invite 25 = .ok (.iconst 1, 1) := by decide +kernel
theorem dX1_invite_26 : decode cX1_invite 26 = .ok (.iadd, 1) := by decide +kernel
theorem dX1_invite_27 : decode cX1_invite 27 = .ok (.putfield 36, 3) := by decide +kernel
theorem dX1_invite_30 : decode cX1_invite 30 = .ok (.aload_n 0, 1) := by decide +kernel
theorem dX1_invite_31 : decode cX1_invite 31 = .ok (.getfield 36, 3) := by decide +kernel
theorem dX1_invite_34 : decode cX1_invite 34 = .ok (.iconst 1, 1) := by decide +kernel
theorem dX1_invite_35 : decode cX1_invite 35 = .ok (.isub, 1) := by decide +kernel
theorem dX1_invite_36 : decode cX1_invite 36 = .ok (.ireturn, 1) := by decide +kernel
set_option maxRecDepth 20000 in
theorem ggX1_rule_X1_isWish : GoodIn wsX1_rule wsX1_isWish := goodIn_r _ [9, 10, 11, 12, 8, 13, 18, 19, 20, 21, 22, 23, 24, 25, 26, 27] (by decide +kernel) (by decide +kernel)
set_option maxRecDepth 20000 in
theorem gX1_rule_X1_isWish : GoodIn wsX1_rule (wsV RX1 47 RX1 yX1_isWish wsX1_isWish) := goodIn_app (goodIn_of _ (by decide +kernel)) ggX1_rule_X1_isWish
set_option maxRecDepth 20000 in
theorem ggX1_rule_X1_fail : GoodIn wsX1_rule wsX1_fail := goodIn_r _ [17, 1, 18, 19, 20, 21, 22, 23, 24, 25, 26, 27] (by decide +kernel) (by decide +kernel)
set_option maxRecDepth 20000 in
theorem gX1_rule_X1_fail : GoodIn wsX1_rule (wsV RX1 43 RX1 yX1_fail wsX1_fail) := goodIn_app (goodIn_of _ (by decide +kernel)) ggX1_rule_X1_fail
theorem dX1_rule_0 : decode cX1_rule 0 = .ok (.aload_n 0, 1) := by decide +kernel
theorem dX1_rule_1 : decode cX1_rule 1 = .ok (.iconst 0, 1) := by decide +kernel
theorem dX1_rule_2 : decode cX1_rule 2 = .ok (.putfield 33, 3) := by decide +kernel
theorem dX1_rule_5 : decode cX1_rule 5 = .ok (.aload_n 0, 1) := by decide +kernel
theorem dX1_rule_6 : decode cX1_rule 6 = .ok (.iload_n 1, 1) := by decide +kernel
theorem dX1_rule_7 : decode cX1_rule 7 = .ok (.invokevirtual 47, 3) := by decide +kernel
theorem dX1_rule_10 : decode cX1_rule 10 = .ok (.ifCond .eq 11, 3) := by decide +kernel
theorem dX1_rule_13 : decode cX1_rule 13 = .ok (.aload_n 0, 1) := by decide +kernel
theorem dX1_rule_14 : decode cX1_rule 14 = .ok (.iload_n 2, 1) := by decide +kernel
theorem dX1_rule_15 : decode cX1_rule 15 = .ok (.invokevirtual 47, 3) := by decide +kernel
theorem dX1_rule_18 : decode cX1_rule 18 = .ok (.ifCond .ne 9, 3) := by decide +kernel
theorem dX1_rule_21 : decode cX1_rule 21 = .ok (.aload_n 0, 1) := by decide +kernel
theorem dX1_rule_22 : decode cX1_rule 22 = .ok (.iconst 1, 1) := by decide +kernel
theorem dX1_rule_23 : decode cX1_rule 23 = .ok (.invokevirtual 43, 3) := by decide +kernel
theorem dX1_rule_26 : decode cX1_rule 26 = .ok (.ireturn, 1) := by decide +kernel
theorem dX1_rule_27 : decode cX1_rule 27 = .ok (.iload_n 1, 1) := by decide +kernel
theorem dX1_rule_28 : decode cX1_rule 28 = .ok (.iload_n 2, 1) := by decide +kernel
theorem dX1_rule_29 : decode cX1_rule 29 = .ok (.if_icmp .ne 9, 3) := by decide +kernel
theorem dX1_rule_32 : decode cX1_rule 32 = .ok (.aload_n 0, 1) := by decide +kernel
theorem dX1_rule_33 : decode cX1_rule 33 = .ok (.iconst 2, 1) := by decide +kernel
theorem dX1_rule_34 : decode cX1_rule 34 = .ok (.invokevirtual 43, 3) := by decide +kernel
theorem dX1_rule_37 : decode cX1_rule 37 = .ok (.ireturn, 1) := by decide +kernel
theorem dX1_rule_38 : decode cX1_rule 38 = .ok (.aload_n 0, 1) := by decide +kernel
theorem dX1_rule_39 : decode cX1_rule 39 = .ok (.getfield 51, 3) := by decide +kernel
theorem dX1_rule_42 : decode cX1_rule 42 = .ok (.bipush 30, 2) := by decide +kernel
theorem dX1_rule_44 : decode cX1_rule 44 = .ok (.if_icmp .ne 9, 3) := by decide +kernel
theorem dX1_rule_47 : decode cX1_rule 47 = .ok (.aload_n 0, 1) := by decide +kernel
theorem dX1_rule_48 : decode cX1_rule 48 = .ok (.iconst 3, 1) := by decide +kernel
theorem dX1_rule_49 : decode cX1_rule 49 = .ok (.invokevirtual 43, 3) := by decide +kernel
theorem dX1_rule_52 : decode cX1_rule 52 = .ok (.ireturn, 1) := by decide +kernel
theorem dX1_rule_53 : decode cX1_rule 53 = .ok (.aload_n 0, 1) := by decide +kernel
theorem dX1_rule_54 : decode cX1_rule 54 = .ok (.getfield 9, 3) := by decide +kernel
theorem dX1_rule_57 : decode cX1_rule 57 = .ok (.aload_n 0, 1) := by decide +kernel
theorem dX1_rule_58 : decode cX1_rule 58 = .ok (.getfield 51, 3) := by decide +kernel
theorem dX1_rule_61 : decode cX1_rule 61 = .ok (.iload_n 1, 1) := by decide +kernel
theorem dX1_rule_62 : decode cX1_rule 62 = .ok (.iastore, 1) := by decide +kernel
theorem dX1_rule_63 : decode cX1_rule 63 = .ok (.aload_n 0, 1) := by decide +kernel
theorem dX1_rule_64 : decode cX1_rule 64 = .ok (.getfield 13, 3) := by decide +kernel
theorem dX1_rule_67 : decode cX1_rule 67 = .ok (.aload_n 0, 1) := by decide +kernel
theorem dX1_rule_68 : decode cX1_rule 68 = .ok (.getfield 51, 3) := by decide +kernel
theorem dX1_rule_71 : decode cX1_rule 71 = .ok (.iload_n 2, 1) := by decide +kernel
theorem dX1_rule_72 : decode cX1_rule 72 = .ok (.iastore, 1) := by decide +kernel
theorem dX1_rule_73 : decode cX1_rule 73 = .ok (.aload_n 0, 1) := by decide +kernel
theorem dX1_rule_74 : decode cX1_rule 74 = .ok (.dup, 1) := by decide +kernel
theorem dX1_rule_75 : decode cX1_rule 75 = .ok (.getfield 51, 3) := by decide +kernel
theorem dX1_rule_78 : decode cX1_rule 78 = .ok (.iconst 1, 1) := by decide +kernel
theorem dX1_rule_79 : decode cX1_rule 79 = .ok (.iadd, 1) := by decide +kernel
theorem dX1_rule_80 : decode cX1_rule 80 = .ok (.putfield 51, 3) := by decide +kernel
theorem dX1_rule_83 : decode cX1_rule 83 = .ok (.aload_n 0, 1) := by decide +kernel
theorem dX1_rule_84 : decode cX1_rule 84 = .ok (.getfield 51, 3) := by decide +kernel
theorem dX1_rule_87 : decode cX1_rule 87 = .ok (.iconst 1, 1) := by decide +kernel
theorem dX1_rule_88 : decode cX1_rule 88 = .ok (.isub, 1) := by decide +kernel
theorem dX1_rule_89 : decode cX1_rule 89 = .ok (.ireturn, 1) := by decide +kernel
set_option maxRecDepth 20000 in
theorem ggX1_turn_X1_isIn : GoodIn wsX1_turn wsX1_isIn := goodIn_r _ [7] (by decide +kernel) (by decide +kernel)
set_option maxRecDepth 20000 in
theorem gX1_turn_X1_isIn : GoodIn wsX1_turn (va_wsS RX1 39 yX1_isIn wsX1_isIn) := goodIn_app (goodIn_of _ (by decide +kernel)) ggX1_turn_X1_isIn
theorem dX1_turn_0 : decode cX1_turn 0 = .ok (.aload_n 0, 1) := by decide +kernel
theorem dX1_turn_1 : decode cX1_turn 1 = .ok (.iload_n 1, 1) := by decide +kernel
theorem dX1_turn_2 : decode cX1_turn 2 = .ok (.iconst 0, 1) := by decide +kernel
theorem dX1_turn_3 : decode cX1_turn 3 = .ok (.aload_n 0, 1) := by decide +kernel
theorem dX1_turn_4 : decode cX1_turn 4 = .ok (.getfield 51, 3) := by decide +kernel
theorem dX1_turn_7 : decode cX1_turn 7 = .ok (.iconst 1, 1) := by decide +kernel
theorem dX1_turn_8 : decode cX1_turn 8 = .ok (.isub, 1) := by decide +kernel
theorem dX1_turn_9 : decode cX1_turn 9 = .ok (.invokestatic 39, 3) := by decide +kernel
theorem dX1_turn_12 : decode cX1_turn 12 = .ok (.ifCond .eq 7, 3) := by decide +kernel
theorem dX1_turn_15 : decode cX1_turn 15 = .ok (.iconst 0, 1) := by decide +kernel
theorem dX1_turn_16 : decode cX1_turn 16 = .ok (.goto 4, 3) := by decide +kernel
theorem dX1_turn_19 : decode cX1_turn 19 = .ok (.iconst 1, 1) := by decide +kernel
theorem dX1_turn_20 : decode cX1_turn 20 = .ok (.putfield 33, 3) := by decide +kernel
theorem dX1_turn_23 : decode cX1_turn 23 = .ok (.aload_n 0, 1) := by decide +kernel
theorem dX1_turn_24 : decode cX1_turn 24 = .ok (.getfield 33, 3) := by decide +kernel
theorem dX1_turn_27 : decode cX1_turn 27 = .ok (.ifCond .eq 5, 3) := by decide +kernel
theorem dX1_turn_30 : decode cX1_turn 30 = .ok (.iconst 0, 1) := by decide +kernel
theorem dX1_turn_31 : decode cX1_turn 31 = .ok (.ireturn, 1) := by decide +kernel
theorem dX1_turn_32 : decode cX1_turn 32 = .ok (.aload_n 0, 1) := by decide +kernel
theorem dX1_turn_33 : decode cX1_turn 33 = .ok (.getfield 16, 3) := by decide +kernel
theorem dX1_turn_36 : decode cX1_turn 36 = .ok (.iload_n 1, 1) := by decide +kernel
theorem dX1_turn_37 : decode cX1_turn 37 = .ok (.aload_n 0, 1) := by decide +kernel
theorem dX1_turn_38 : decode cX1_turn 38 = .ok (.getfield 16, 3) := by decide +kernel
theorem dX1_turn_41 : decode cX1_turn 41 = .ok (.iload_n 1, 1) := by decide +kernel
theorem dX1_turn_42 : decode cX1_turn 42 = .ok (.baload, 1) := by decide +kernel
theorem dX1_turn_43 : decode cX1_turn 43 = .ok (.ifCond .ne 7, 3) := by decide +kernel
theorem dX1_turn_46 : decode cX1_turn 46 = .ok (.iconst 1, 1) := by decide +kernel
theorem dX1_turn_47 : decode cX1_turn 47 = .ok (.goto 4, 3) := by decide +kernel
theorem dX1_turn_50 : decode cX1_turn 50 = .ok (.iconst 0, 1) := by decide +kernel
theorem dX1_turn_51 : decode cX1_turn 51 = .ok (.bastore, 1) := by decide +kernel
theorem dX1_turn_52 : decode cX1_turn 52 = .ok (.aload_n 0, 1) := by decide +kernel
theorem dX1_turn_53 : decode cX1_turn 53 = .ok (.getfield 16, 3) := by decide +kernel
theorem dX1_turn_56 : decode cX1_turn 56 = .ok (.iload_n 1, 1) := by decide +kernel
theorem dX1_turn_57 : decode cX1_turn 57 = .ok (.baload, 1) := by decide +kernel
theorem dX1_turn_58 : decode cX1_turn 58 = .ok (.ifCond .ne 7, 3) := by decide +kernel
theorem dX1_turn_61 : decode cX1_turn 61 = .ok (.iconst 1, 1) := by decide +kernel
theorem dX1_turn_62 : decode cX1_turn 62 = .ok (.goto 4, 3) := by decide +kernel
theorem dX1_turn_65 : decode cX1_turn 65 = .ok (.iconst 0, 1) := by decide +kernel
theorem dX1_turn_66 : decode cX1_turn 66 = .ok (.ireturn, 1) := by decide +kernel
theorem dX1_ruleTold_0 : decode cX1_ruleTold 0 = .ok (.iload_n 2, 1) := by decide +kernel
theorem dX1_ruleTold_1 : decode cX1_ruleTold 1 = .ok (.ifCond .ne 12, 3) := by decide +kernel
theorem dX1_ruleTold_4 : decode cX1_ruleTold 4 = .ok (.aload_n 0, 1) := by decide +kernel
theorem dX1_ruleTold_5 : decode cX1_ruleTold 5 = .ok (.getfield 9, 3) := by decide +kernel
theorem dX1_ruleTold_8 : decode cX1_ruleTold 8 = .ok (.iload_n 1, 1) := by decide +kernel
theorem dX1_ruleTold_9 : decode cX1_ruleTold 9 = .ok (.iaload, 1) := by decide +kernel
theorem dX1_ruleTold_10 : decode cX1_ruleTold 10 = .ok (.goto 31, 3) := by decide +kernel
theorem dX1_ruleTold_13 : decode cX1_ruleTold 13 = .ok (.iload_n 2, 1) := by decide +kernel
theorem dX1_ruleTold_14 : decode cX1_ruleTold 14 = .ok (.iconst 1, 1) := by decide +kernel
theorem dX1_ruleTold_15 : decode cX1_ruleTold 15 = .ok (.if_icmp .ne 12, 3) := by decide +kernel
theorem dX1_ruleTold_18 : decode cX1_ruleTold 18 = .ok (.aload_n 0, 1) := by decide +kernel
theorem dX1_ruleTold_19 : decode cX1_ruleTold 19 = .ok (.getfield 13, 3) := by decide +kernel
theorem dX1_ruleTold_22 : decode cX1_ruleTold 22 = .ok (.iload_n 1, 1) := by decide +kernel
theorem dX1_ruleTold_23 : decode cX1_ruleTold 23 = .ok (.iaload, 1) := by decide +kernel
theorem dX1_ruleTold_24 : decode cX1_ruleTold 24 = .ok (.goto 17, 3) := by decide +kernel
theorem dX1_ruleTold_27 : decode cX1_ruleTold 27 = .ok (.aload_n 0, 1) := by decide +kernel
theorem dX1_ruleTold_28 : decode cX1_ruleTold 28 = .ok (.getfield 16, 3) := by decide +kernel
theorem dX1_ruleTold_31 : decode cX1_ruleTold 31 = .ok (.iload_n 1, 1) := by decide +kernel
theorem dX1_ruleTold_32 : decode cX1_ruleTold 32 = .ok (.baload, 1) := by decide +kernel
theorem dX1_ruleTold_33 : decode cX1_ruleTold 33 = .ok (.ifCond .eq 7, 3) := by decide +kernel
theorem dX1_ruleTold_36 : decode cX1_ruleTold 36 = .ok (.iconst 0, 1) := by decide +kernel
theorem dX1_ruleTold_37 : decode cX1_ruleTold 37 = .ok (.goto 4, 3) := by decide +kernel
theorem dX1_ruleTold_40 : decode cX1_ruleTold 40 = .ok (.iconst 1, 1) := by decide +kernel
theorem dX1_ruleTold_41 : decode cX1_ruleTold 41 = .ok (.ireturn, 1) := by decide +kernel
set_option maxRecDepth 20000 in
theorem ggX1_told_X1_isIn : GoodIn wsX1_told wsX1_isIn := goodIn_r _ [6] (by decide +kernel) (by decide +kernel)
set_option maxRecDepth 20000 in
theorem gX1_told_X1_isIn : GoodIn wsX1_told (va_wsS RX1 39 yX1_isIn wsX1_isIn) := goodIn_app (goodIn_of _ (by decide +kernel)) ggX1_told_X1_isIn
set_option maxRecDepth 20000 in
theorem ggX1_told_X1_ruleTold : GoodIn wsX1_told wsX1_ruleTold := goodIn_r _ [10, 11, 12, 13, 18, 19, 20, 21, 22, 23, 24, 25, 26, 27] (by decide +kernel) (by decide +kernel)
set_option maxRecDepth 20000 in
theorem gX1_told_X1_ruleTold : GoodIn wsX1_told (wsV RX1 54 RX1 yX1_ruleTold wsX1_ruleTold) := goodIn_app (goodIn_of _ (by decide +kernel)) ggX1_told_X1_ruleTold
set_option maxRecDepth 20000 in
theorem ggX1_told_X1_fail : GoodIn wsX1_told wsX1_fail := goodIn_r _ [17, 1, 18, 19, 20, 21, 22, 23, 24, 25, 26, 27] (by decide +kernel) (by decide +kernel)
set_option maxRecDepth 20000 in
theorem gX1_told_X1_fail : GoodIn wsX1_told (wsV RX1 43 RX1 yX1_fail wsX1_fail) := goodIn_app (goodIn_of _ (by decide +kernel)) ggX1_told_X1_fail
theorem dX1_told_0 : decode cX1_told 0 = .ok (.aload_n 0, 1) := by decide +kernel
theorem dX1_told_1 : decode cX1_told 1 = .ok (.iconst 0, 1) := by decide +kernel
theorem dX1_told_2 : decode cX1_told 2 = .ok (.putfield 33, 3) := by decide +kernel
theorem dX1_told_5 : decode cX1_told 5 = .ok (.iload_n 1, 1) := by decide +kernel
theorem dX1_told_6 : decode cX1_told 6 = .ok (.iconst 0, 1) := by decide +kernel
theorem dX1_told_7 : decode cX1_told 7 = .ok (.aload_n 0, 1) := by decide +kernel
theorem dX1_told_8 : decode cX1_told 8 = .ok (.getfield 51, 3) := by decide +kernel
theorem dX1_told_11 : decode cX1_told 11 = .ok (.iconst 1, 1) := by decide +kernel
theorem dX1_told_12 : decode cX1_told 12 = .ok (.isub, 1) := by decide +kernel
theorem dX1_told_13 : decode cX1_told 13 = .ok (.invokestatic 39, 3) := by decide +kernel
theorem dX1_told_16 : decode cX1_told 16 = .ok (.ifCond .eq 21, 3) := by decide +kernel
theorem dX1_told_19 : decode cX1_told 19 = .ok (.iload_n 2, 1) := by decide +kernel
theorem dX1_told_20 : decode cX1_told 20 = .ok (.iconst 0, 1) := by decide +kernel
theorem dX1_told_21 : decode cX1_told 21 = .ok (.iconst 2, 1) := by decide +kernel
theorem dX1_told_22 : decode cX1_told 22 = .ok (.invokestatic 39, 3) := by decide +kernel
theorem dX1_told_25 : decode cX1_told 25 = .ok (.ifCond .eq 12, 3) := by decide +kernel
theorem dX1_told_28 : decode cX1_told 28 = .ok (.aload_n 0, 1) := by decide +kernel
theorem dX1_told_29 : decode cX1_told 29 = .ok (.iload_n 1, 1) := by decide +kernel
theorem dX1_told_30 : decode cX1_told 30 = .ok (.iload_n 2, 1) := by decide +kernel
theorem dX1_told_31 : decode cX1_told 31 = .ok (.invokevirtual 54, 3) := by decide +kernel
theorem dX1_told_34 : decode cX1_told 34 = .ok (.goto 8, 3) := by decide +kernel
theorem dX1_told_37 : decode cX1_told 37 = .ok (.aload_n 0, 1) := by decide +kernel
theorem dX1_told_38 : decode cX1_told 38 = .ok (.iconst 1, 1) := by decide +kernel
theorem dX1_told_39 : decode cX1_told 39 = .ok (.invokevirtual 43, 3) := by decide +kernel
theorem dX1_told_42 : decode cX1_told 42 = .ok (.ireturn, 1) := by decide +kernel
theorem dX1_put_0 : decode cX1_put 0 = .ok (.aload_n 0, 1) := by decide +kernel
theorem dX1_put_1 : decode cX1_put 1 = .ok (.getfield 30, 3) := by decide +kernel
theorem dX1_put_4 : decode cX1_put 4 = .ok (.iload_n 2, 1) := by decide +kernel
theorem dX1_put_5 : decode cX1_put 5 = .ok (.iaload, 1) := by decide +kernel
theorem dX1_put_6 : decode cX1_put 6 = .ok (.iconst (-1), 1) := by decide +kernel
theorem dX1_put_7 : decode cX1_put 7 = .ok (.if_icmp .eq 5, 3) := by decide +kernel
theorem dX1_put_10 : decode cX1_put 10 = .ok (.iload_n 1, 1) := by decide +kernel
theorem dX1_put_11 : decode cX1_put 11 = .ok (.ireturn, 1) := by decide +kernel
theorem dX1_put_12 : decode cX1_put 12 = .ok (.aload_n 0, 1) := by decide +kernel
theorem dX1_put_13 : decode cX1_put 13 = .ok (.getfield 30, 3) := by decide +kernel
theorem dX1_put_16 : decode cX1_put 16 = .ok (.iload_n 2, 1) := by decide +kernel
theorem dX1_put_17 : decode cX1_put 17 = .ok (.iload_n 3, 1) := by decide +kernel
theorem dX1_put_18 : decode cX1_put 18 = .ok (.iastore, 1) := by decide +kernel
theorem dX1_put_19 : decode cX1_put 19 = .ok (.aload_n 0, 1) := by decide +kernel
theorem dX1_put_20 : decode cX1_put 20 = .ok (.getfield 27, 3) := by decide +kernel
theorem dX1_put_23 : decode cX1_put 23 = .ok (.iload_n 1, 1) := by decide +kernel
theorem dX1_put_24 : decode cX1_put 24 = .ok (.iload_n 2, 1) := by decide +kernel
theorem dX1_put_25 : decode cX1_put 25 = .ok (.iastore, 1) := by decide +kernel
theorem dX1_put_26 : decode cX1_put 26 = .ok (.iload_n 1, 1) := by decide +kernel
theorem dX1_put_27 : decode cX1_put 27 = .ok (.iconst 1, 1) := by decide +kernel
theorem dX1_put_28 : decode cX1_put 28 = .ok (.iadd, 1) := by decide +kernel
theorem dX1_put_29 : decode cX1_put 29 = .ok (.ireturn, 1) := by decide +kernel
set_option maxRecDepth 20000 in
theorem ggX1_spread_X1_put : GoodIn wsX1_spread wsX1_put := goodIn_r _ [11, 1, 2, 15, 16, 17, 18, 19, 20, 21, 22, 23, 24] (by decide +kernel) (by decide +kernel)
set_option maxRecDepth 20000 in
theorem gX1_spread_X1_put : GoodIn wsX1_spread (wsV RX1 58 RX1 yX1_put wsX1_put) := goodIn_app (goodIn_of _ (by decide +kernel)) ggX1_spread_X1_put
set_option maxRecDepth 20000 in
theorem ggX1_spread_X1_against : GoodIn wsX1_spread wsX1_against := goodIn_r _ [14] (by decide +kernel) (by decide +kernel)
set_option maxRecDepth 20000 in
theorem gX1_spread_X1_against : GoodIn wsX1_spread (va_wsS RX1 62 yX1_against wsX1_against) := goodIn_app (goodIn_of _ (by decide +kernel)) ggX1_spread_X1_against
theorem dX1_spread_0 : decode cX1_spread 0 = .ok (.iconst 0, 1) := by decide +kernel
theorem dX1_spread_1 : decode cX1_spread 1 = .ok (.istore_n 2, 1) := by decide +kernel
theorem dX1_spread_2 : decode cX1_spread 2 = .ok (.iload_n 2, 1) := by decide +kernel
theorem dX1_spread_3 : decode cX1_spread 3 = .ok (.bipush 20, 2) := by decide +kernel
theorem dX1_spread_5 : decode cX1_spread 5 = .ok (.if_icmp .ge 16, 3) := by decide +kernel
theorem dX1_spread_8 : decode cX1_spread 8 = .ok (.aload_n 0, 1) := by decide +kernel
theorem dX1_spread_9 : decode cX1_spread 9 = .ok (.getfield 30, 3) := by decide +kernel
theorem dX1_spread_12 : decode cX1_spread 12 = .ok (.iload_n 2, 1) := by decide +kernel
theorem dX1_spread_13 : decode cX1_spread 13 = .ok (.iconst (-1), 1) := by decide +kernel
theorem dX1_spread_14 : decode cX1_spread 14 = .ok (.iastore, 1) := by decide +kernel
theorem dX1_spread_15 : decode cX1_spread 15 = .ok (.iinc 2 1, 3) := by decide +kernel
theorem dX1_spread_18 : decode cX1_spread 18 = .ok (.goto (-16), 3) := by decide +kernel
theorem dX1_spread_21 : decode cX1_spread 21 = .ok (.aload_n 0, 1) := by decide +kernel
theorem dX1_spread_22 : decode cX1_spread 22 = .ok (.iconst 0, 1) := by decide +kernel
theorem dX1_spread_23 : decode cX1_spread 23 = .ok (.iload_n 1, 1) := by decide +kernel
theorem dX1_spread_24 : decode cX1_spread 24 = .ok (.iconst 0, 1) := by decide +kernel
theorem dX1_spread_25 : decode cX1_spread 25 = .ok (.invokevirtual 58, 3) := by decide +kernel
theorem dX1_spread_28 : decode cX1_spread 28 = .ok (.istore_n 2, 1) := by decide +kernel
theorem dX1_spread_29 : decode cX1_spread 29 = .ok (.iconst 0, 1) := by decide +kernel
theorem dX1_spread_30 : decode cX1_spread 30 = .ok (.istore_n 3, 1) := by decide +kernel
theorem dX1_spread_31 : decode cX1_spread 31 = .ok (.iload_n 3, 1) := by decide +kernel
theorem dX1_spread_32 : decode cX1_spread 32 = .ok (.iload_n 2, 1) := by decide +kernel
theorem dX1_spread_33 : decode cX1_spread 33 = .ok (.if_icmp .ge 122, 3) := by decide +kernel
theorem dX1_spread_36 : decode cX1_spread 36 = .ok (.aload_n 0, 1) := by decide +kernel
theorem dX1_spread_37 : decode cX1_spread 37 = .ok (.getfield 27, 3) := by decide +kernel
theorem dX1_spread_40 : decode cX1_spread 40 = .ok (.iload_n 3, 1) := by decide +kernel
theorem dX1_spread_41 : decode cX1_spread 41 = .ok (.iaload, 1) := by decide +kernel
theorem dX1_spread_42 : decode cX1_spread 42 = .ok (.istore 4, 2) := by decide +kernel
theorem dX1_spread_44 : decode cX1_spread 44 = .ok (.iconst 0, 1) := by decide +kernel
theorem dX1_spread_45 : decode cX1_spread 45 = .ok (.istore 5, 2) := by decide +kernel
theorem dX1_spread_47 : decode cX1_spread 47 = .ok (.iload 5, 2) := by decide +kernel
theorem dX1_spread_49 : decode cX1_spread 49 = .ok (.aload_n 0, 1) := by decide +kernel
theorem dX1_spread_50 : decode cX1_spread 50 = .ok (.getfield 51, 3) := by decide +kernel
theorem dX1_spread_53 : decode cX1_spread 53 = .ok (.if_icmp .ge 96, 3) := by decide +kernel
theorem dX1_spread_56 : decode cX1_spread 56 = .ok (.aload_n 0, 1) := by decide +kernel
theorem dX1_spread_57 : decode cX1_spread 57 = .ok (.getfield 16, 3) := by decide +kernel
theorem dX1_spread_60 : decode cX1_spread 60 = .ok (.iload 5, 2) := by decide +kernel
theorem dX1_spread_62 : decode cX1_spread 62 = .ok (.baload, 1) := by decide +kernel
theorem dX1_spread_63 : decode cX1_spread 63 = .ok (.ifCond .eq 6, 3) := by decide +kernel
theorem dX1_spread_66 : decode cX1_spread 66 = .ok (.goto 77, 3) := by decide +kernel
theorem dX1_spread_69 : decode cX1_spread 69 = .ok (.aload_n 0, 1) := by decide +kernel
theorem dX1_spread_70 : decode cX1_spread 70 = .ok (.getfield 9, 3) := by decide +kernel
theorem dX1_spread_73 : decode cX1_spread 73 = .ok (.iload 5, 2) := by decide +kernel
theorem dX1_spread_75 : decode cX1_spread 75 = .ok (.iaload, 1) := by decide +kernel
theorem dX1_spread_76 : decode cX1_spread 76 = .ok (.iload 4, 2) := by decide +kernel
theorem dX1_spread_78 : decode cX1_spread 78 = .ok (.if_icmp .ne 25, 3) := by decide +kernel
theorem dX1_spread_81 : decode cX1_spread 81 = .ok (.aload_n 0, 1) := by decide +kernel
theorem dX1_spread_82 : decode cX1_spread 82 = .ok (.iload_n 2, 1) := by decide +kernel
theorem dX1_spread_83 : decode cX1_spread 83 = .ok (.aload_n 0, 1) := by decide +kernel
theorem dX1_spread_84 : decode cX1_spread 84 = .ok (.getfield 13, 3) := by decide +kernel
theorem dX1_spread_87 : decode cX1_spread 87 = .ok (.iload 5, 2) := by decide +kernel
theorem dX1_spread_89 : decode cX1_spread 89 = .ok (.iaload, 1) := by decide +kernel
theorem dX1_spread_90 : decode cX1_spread 90 = .ok (.aload_n 0, 1) := by decide +kernel
theorem dX1_spread_91 : decode cX1_spread 91 = .ok (.getfield 30, 3) := by decide +kernel
theorem dX1_spread_94 : decode cX1_spread 94 = .ok (.iload 4, 2) := by decide +kernel
theorem dX1_spread_96 : decode cX1_spread 96 = .ok (.iaload, 1) := by decide +kernel
theorem dX1_spread_97 : decode cX1_spread 97 = .ok (.iconst 1, 1) := by decide +kernel
theorem dX1_spread_98 : decode cX1_spread 98 = .ok (.iadd, 1) := by decide +kernel
theorem dX1_spread_99 : decode cX1_spread 99 = .ok (.invokevirtual 58, 3) := by decide +kernel
theorem dX1_spread_102 : decode cX1_spread 102 = .ok (.istore_n 2, 1) := by decide +kernel
theorem dX1_spread_103 : decode cX1_spread 103 = .ok (.aload_n 0, 1) := by decide +kernel
theorem dX1_spread_104 : decode cX1_spread 104 = .ok (.getfield 13, 3) := by decide +kernel
theorem dX1_spread_107 : decode cX1_spread 107 = .ok (.iload 5, 2) := by decide +kernel
theorem dX1_spread_109 : decode cX1_spread 109 = .ok (.iaload, 1) := by decide +kernel
theorem dX1_spread_110 : decode cX1_spread 110 = .ok (.invokestatic 62, 3) := by decide +kernel
theorem dX1_spread_113 : decode cX1_spread 113 = .ok (.iload 4, 2) := by decide +kernel
theorem dX1_spread_115 : decode cX1_spread 115 = .ok (.if_icmp .ne 28, 3) := by decide +kernel
theorem dX1_spread_118 : decode cX1_spread 118 = .ok (.aload_n 0, 1) := by decide +kernel
theorem dX1_spread_119 : decode cX1_spread 119 = .ok (.iload_n 2, 1) := by decide +kernel
theorem dX1_spread_120 : decode cX1_spread 120 = .ok (.aload_n 0, 1) := by decide +kernel
theorem dX1_spread_121 : decode cX1_spread 121 = .ok (.getfield 9, 3) := by decide +kernel
theorem dX1_spread_124 : decode cX1_spread 124 = .ok (.iload 5, 2) := by decide +kernel
theorem dX1_spread_126 : decode cX1_spread 126 = .ok (.iaload, 1) := by decide +kernel
theorem dX1_spread_127 : decode cX1_spread 127 = .ok (.invokestatic 62, 3) := by decide +kernel
theorem dX1_spread_130 : decode cX1_spread 130 = .ok (.aload_n 0, 1) := by decide +kernel
theorem dX1_spread_131 : decode cX1_spread 131 = .ok (.getfield 30, 3) := by decide +kernel
theorem dX1_spread_134 : decode cX1_spread 134 = .ok (.iload 4, 2) := by decide +kernel
theorem dX1_spread_136 : decode cX1_spread 136 = .ok (.iaload, 1) := by decide +kernel
theorem dX1_spread_137 : decode cX1_spread 137 = .ok (.iconst 1, 1) := by decide +kernel
theorem dX1_spread_138 : decode cX1_spread 138 = .ok (.iadd, 1) := by decide +kernel
theorem dX1_spread_139 : decode cX1_spread 139 = .ok (.invokevirtual 58, 3) := by decide +kernel
theorem dX1_spread_142 : decode cX1_spread 142 = .ok (.istore_n 2, 1) := by decide +kernel
theorem dX1_spread_143 : decode cX1_spread 143 = .ok (.iinc 5 1, 3) := by decide +kernel
theorem dX1_spread_146 : decode cX1_spread 146 = .ok (.goto (-99), 3) := by decide +kernel
theorem dX1_spread_149 : decode cX1_spread 149 = .ok (.iinc 3 1, 3) := by decide +kernel
theorem dX1_spread_152 : decode cX1_spread 152 = .ok (.goto (-121), 3) := by decide +kernel
theorem dX1_spread_155 : decode cX1_spread 155 = .ok (.iload_n 2, 1) := by decide +kernel
theorem dX1_spread_156 : decode cX1_spread 156 = .ok (.ireturn, 1) := by decide +kernel
set_option maxRecDepth 20000 in
theorem ggX1_leads_X1_spread : GoodIn wsX1_leads wsX1_spread := goodIn_r _ [6, 1, 7, 8, 9, 10, 11, 12, 13, 14, 5, 15, 16, 17, 18, 19, 20, 21, 22, 23, 24, 25, 26, 27, 28] (by decide +kernel) (by decide +kernel)
set_option maxRecDepth 20000 in
theorem gX1_leads_X1_spread : GoodIn wsX1_leads (wsV RX1 65 RX1 yX1_spread wsX1_spread) := goodIn_app (goodIn_of _ (by decide +kernel)) ggX1_leads_X1_spread
theorem dX1_leads_0 : decode cX1_leads 0 = .ok (.aload_n 0, 1) := by decide +kernel
theorem dX1_leads_1 : decode cX1_leads 1 = .ok (.iload_n 1, 1) := by decide +kernel
theorem dX1_leads_2 : decode cX1_leads 2 = .ok (.invokevirtual 65, 3) := by decide +kernel
theorem dX1_leads_5 : decode cX1_leads 5 = .ok (.pop, 1) := by decide +kernel
theorem dX1_leads_6 : decode cX1_leads 6 = .ok (.aload_n 0, 1) := by decide +kernel
theorem dX1_leads_7 : decode cX1_leads 7 = .ok (.getfield 30, 3) := by decide +kernel
theorem dX1_leads_10 : decode cX1_leads 10 = .ok (.iload_n 2, 1) := by decide +kernel
theorem dX1_leads_11 : decode cX1_leads 11 = .ok (.iaload, 1) := by decide +kernel
theorem dX1_leads_12 : decode cX1_leads 12 = .ok (.iconst (-1), 1) := by decide +kernel
theorem dX1_leads_13 : decode cX1_leads 13 = .ok (.if_icmp .eq 7, 3) := by decide +kernel
theorem dX1_leads_16 : decode cX1_leads 16 = .ok (.iconst 1, 1) := by decide +kernel
theorem dX1_leads_17 : decode cX1_leads 17 = .ok (.goto 4, 3) := by decide +kernel
theorem dX1_leads_20 : decode cX1_leads 20 = .ok (.iconst 0, 1) := by decide +kernel
theorem dX1_leads_21 : decode cX1_leads 21 = .ok (.ireturn, 1) := by decide +kernel
set_option maxRecDepth 20000 in
theorem ggX1_follows_X1_isWish : GoodIn wsX1_follows wsX1_isWish := goodIn_r _ [6, 7, 8, 9, 5, 10, 32, 33, 34, 35, 36, 37, 38, 39, 40, 41] (by decide +kernel) (by decide +kernel)
set_option maxRecDepth 20000 in
theorem gX1_follows_X1_isWish : GoodIn wsX1_follows (wsV RX1 47 RX1 yX1_isWish wsX1_isWish) := goodIn_app (goodIn_of _ (by decide +kernel)) ggX1_follows_X1_isWish
set_option maxRecDepth 20000 in
theorem ggX1_follows_X1_leads : GoodIn wsX1_follows wsX1_leads := goodIn_r _ [14, 15, 16, 17, 18, 5, 19, 20, 21, 22, 23, 24, 25, 26, 27, 28, 29, 30, 31, 32, 33, 34, 35, 36, 37, 38, 39, 40, 41] (by decide +kernel) (by decide +kernel)
set_option maxRecDepth 20000 in
theorem gX1_follows_X1_leads : GoodIn wsX1_follows (wsV RX1 68 RX1 yX1_leads wsX1_leads) := goodIn_app (goodIn_of _ (by decide +kernel)) ggX1_follows_X1_leads
theorem dX1_follows_0 : decode cX1_follows 0 = .ok (.aload_n 0, 1) := by decide +kernel
theorem dX1_follows_1 : decode cX1_follows 1 = .ok (.aload_n 0, 1) := by decide +kernel
theorem dX1_follows_2 : decode cX1_follows 2 = .ok (.iload_n 1, 1) := by decide +kernel
theorem dX1_follows_3 : decode cX1_follows 3 = .ok (.invokevirtual 47, 3) := by decide +kernel
theorem dX1_follows_6 : decode cX1_follows 6 = .ok (.ifCond .eq 15, 3) := by decide +kernel
theorem dX1_follows_9 : decode cX1_follows 9 = .ok (.aload_n 0, 1) := by decide +kernel
theorem dX1_follows_10 : decode cX1_follows 10 = .ok (.iload_n 2, 1) := by decide +kernel
theorem dX1_follows_11 : decode cX1_follows 11 = .ok (.invokevirtual 47, 3) := by decide +kernel
theorem dX1_follows_14 : decode cX1_follows 14 = .ok (.ifCond .eq 7, 3) := by decide +kernel
theorem dX1_follows_17 : decode cX1_follows 17 = .ok (.iconst 0, 1) := by decide +kernel
theorem dX1_follows_18 : decode cX1_follows 18 = .ok (.goto 4, 3) := by decide +kernel
theorem dX1_follows_21 : decode cX1_follows 21 = .ok (.iconst 1, 1) := by decide +kernel
theorem dX1_follows_22 : decode cX1_follows 22 = .ok (.putfield 33, 3) := by decide +kernel
theorem dX1_follows_25 : decode cX1_follows 25 = .ok (.aload_n 0, 1) := by decide +kernel
theorem dX1_follows_26 : decode cX1_follows 26 = .ok (.getfield 33, 3) := by decide +kernel
theorem dX1_follows_29 : decode cX1_follows 29 = .ok (.ifCond .ne 16, 3) := by decide +kernel
theorem dX1_follows_32 : decode cX1_follows 32 = .ok (.aload_n 0, 1) := by decide +kernel
theorem dX1_follows_33 : decode cX1_follows 33 = .ok (.iload_n 1, 1) := by decide +kernel
theorem dX1_follows_34 : decode cX1_follows 34 = .ok (.iload_n 2, 1) := by decide +kernel
theorem dX1_follows_35 : decode cX1_follows 35 = .ok (.invokevirtual 68, 3) := by decide +kernel
theorem dX1_follows_38 : decode cX1_follows 38 = .ok (.ifCond .eq 7, 3) := by decide +kernel
theorem dX1_follows_41 : decode cX1_follows 41 = .ok (.iconst 1, 1) := by decide +kernel
theorem dX1_follows_42 : decode cX1_follows 42 = .ok (.goto 4, 3) := by decide +kernel
theorem dX1_follows_45 : decode cX1_follows 45 = .ok (.iconst 0, 1) := by decide +kernel
theorem dX1_follows_46 : decode cX1_follows 46 = .ok (.ireturn, 1) := by decide +kernel
set_option maxRecDepth 20000 in
theorem ggX1_reachOf_X1_spread : GoodIn wsX1_reachOf wsX1_spread := goodIn_r _ [7, 2, 8, 9, 10, 11, 12, 13, 14, 15, 6, 16, 17, 18, 19, 20, 21, 22, 23, 24, 25, 26, 27, 28, 29] (by decide +kernel) (by decide +kernel)
set_option maxRecDepth 20000 in
theorem gX1_reachOf_X1_spread : GoodIn wsX1_reachOf (wsV RX1 65 RX1 yX1_spread wsX1_spread) := goodIn_app (goodIn_of _ (by decide +kernel)) ggX1_reachOf_X1_spread
theorem dX1_reachOf_0 : decode cX1_reachOf 0 = .ok (.aload_n 0, 1) := by decide +kernel
theorem dX1_reachOf_1 : decode cX1_reachOf 1 = .ok (.iload_n 1, 1) := by decide +kernel
theorem dX1_reachOf_2 : decode cX1_reachOf 2 = .ok (.invokevirtual 65, 3) := by decide +kernel
theorem dX1_reachOf_5 : decode cX1_reachOf 5 = .ok (.pop, 1) := by decide +kernel
theorem dX1_reachOf_6 : decode cX1_reachOf 6 = .ok (.iconst 0, 1) := by decide +kernel
theorem dX1_reachOf_7 : decode cX1_reachOf 7 = .ok (.istore_n 2, 1) := by decide +kernel
theorem dX1_reachOf_8 : decode cX1_reachOf 8 = .ok (.iconst 0, 1) := by decide +kernel
theorem dX1_reachOf_9 : decode cX1_reachOf 9 = .ok (.istore_n 3, 1) := by decide +kernel
theorem dX1_reachOf_10 : decode cX1_reachOf 10 = .ok (.iload_n 3, 1) := by decide +kernel
theorem dX1_reachOf_11 : decode cX1_reachOf 11 = .ok (.iconst 2, 1) := by decide +kernel
theorem dX1_reachOf_12 : decode cX1_reachOf 12 = .ok (.aload_n 0, 1) := by decide +kernel
theorem dX1_reachOf_13 : decode cX1_reachOf 13 = .ok (.getfield 36, 3) := by decide +kernel
theorem dX1_reachOf_16 : decode cX1_reachOf 16 = .ok (.imul, 1) := by decide +kernel
theorem dX1_reachOf_17 : decode cX1_reachOf 17 = .ok (.if_icmp .ge 29, 3) := by decide +kernel
theorem dX1_reachOf_20 : decode cX1_reachOf 20 = .ok (.iload_n 2, 1) := by decide +kernel
theorem dX1_reachOf_21 : decode cX1_reachOf 21 = .ok (.aload_n 0, 1) := by decide +kernel
theorem dX1_reachOf_22 : decode cX1_reachOf 22 = .ok (.getfield 30, 3) := by decide +kernel
theorem dX1_reachOf_25 : decode cX1_reachOf 25 = .ok (.iload_n 3, 1) := by decide +kernel
theorem dX1_reachOf_26 : decode cX1_reachOf 26 = .ok (.iaload, 1) := by decide +kernel
theorem dX1_reachOf_27 : decode cX1_reachOf 27 = .ok (.iconst (-1), 1) := by decide +kernel
theorem dX1_reachOf_28 : decode cX1_reachOf 28 = .ok (.if_icmp .ne 7, 3) := by decide +kernel
theorem dX1_reachOf_31 : decode cX1_reachOf 31 = .ok (.iconst 0, 1) := by decide +kernel
theorem dX1_reachOf_32 : decode cX1_reachOf 32 = .ok (.goto 6, 3) := by decide +kernel
theorem dX1_reachOf_35 : decode cX1_reachOf 35 = .ok (.iconst 1, 1) := by decide +kernel
theorem dX1_reachOf_36 : decode cX1_reachOf 36 = .ok (.iload_n 3, 1) := by decide +kernel
theorem dX1_reachOf_37 : decode cX1_reachOf 37 = .ok (.ishl, 1) := by decide +kernel
theorem dX1_reachOf_38 : decode cX1_reachOf 38 = .ok (.ior, 1) := by decide +kernel
theorem dX1_reachOf_39 : decode cX1_reachOf 39 = .ok (.istore_n 2, 1) := by decide +kernel
theorem dX1_reachOf_40 : decode cX1_reachOf 40 = .ok (.iinc 3 1, 3) := by decide +kernel
theorem dX1_reachOf_43 : decode cX1_reachOf 43 = .ok (.goto (-33), 3) := by decide +kernel
theorem dX1_reachOf_46 : decode cX1_reachOf 46 = .ok (.iload_n 2, 1) := by decide +kernel
theorem dX1_reachOf_47 : decode cX1_reachOf 47 = .ok (.ireturn, 1) := by decide +kernel
set_option maxRecDepth 20000 in
theorem ggX1_reach_X1_isWish : GoodIn wsX1_reach wsX1_isWish := goodIn_r _ [6, 7, 8, 9, 5, 10, 36, 37, 38, 39, 40, 41, 42, 43, 44, 45] (by decide +kernel) (by decide +kernel)
set_option maxRecDepth 20000 in
theorem gX1_reach_X1_isWish : GoodIn wsX1_reach (wsV RX1 47 RX1 yX1_isWish wsX1_isWish) := goodIn_app (goodIn_of _ (by decide +kernel)) ggX1_reach_X1_isWish
set_option maxRecDepth 20000 in
theorem ggX1_reach_X1_reachOf : GoodIn wsX1_reach wsX1_reachOf := goodIn_r _ [14, 7, 15, 16, 17, 18, 5, 19, 20, 21, 22, 23, 24, 25, 26, 27, 28, 29, 30, 31, 36, 37, 38, 39, 40, 41, 42, 43, 44, 45] (by decide +kernel) (by decide +kernel)
set_option maxRecDepth 20000 in
theorem gX1_reach_X1_reachOf : GoodIn wsX1_reach (wsV RX1 72 RX1 yX1_reachOf wsX1_reachOf) := goodIn_app (goodIn_of _ (by decide +kernel)) ggX1_reach_X1_reachOf
set_option maxRecDepth 20000 in
theorem ggX1_reach_X1_fail : GoodIn wsX1_reach wsX1_fail := goodIn_r _ [35, 1, 36, 37, 38, 39, 40, 41, 42, 43, 44, 45] (by decide +kernel) (by decide +kernel)
set_option maxRecDepth 20000 in
theorem gX1_reach_X1_fail : GoodIn wsX1_reach (wsV RX1 43 RX1 yX1_fail wsX1_fail) := goodIn_app (goodIn_of _ (by decide +kernel)) ggX1_reach_X1_fail
theorem dX1_reach_0 : decode cX1_reach 0 = .ok (.aload_n 0, 1) := by decide +kernel
theorem dX1_reach_1 : decode cX1_reach 1 = .ok (.iconst 0, 1) := by decide +kernel
theorem dX1_reach_2 : decode cX1_reach 2 = .ok (.putfield 33, 3) := by decide +kernel
theorem dX1_reach_5 : decode cX1_reach 5 = .ok (.aload_n 0, 1) := by decide +kernel
theorem dX1_reach_6 : decode cX1_reach 6 = .ok (.iload_n 1, 1) := by decide +kernel
theorem dX1_reach_7 : decode cX1_reach 7 = .ok (.invokevirtual 47, 3) := by decide +kernel
theorem dX1_reach_10 : decode cX1_reach 10 = .ok (.ifCond .eq 11, 3) := by decide +kernel
theorem dX1_reach_13 : decode cX1_reach 13 = .ok (.aload_n 0, 1) := by decide +kernel
theorem dX1_reach_14 : decode cX1_reach 14 = .ok (.iload_n 1, 1) := by decide +kernel
theorem dX1_reach_15 : decode cX1_reach 15 = .ok (.invokevirtual 72, 3) := by decide +kernel
theorem dX1_reach_18 : decode cX1_reach 18 = .ok (.goto 8, 3) := by decide +kernel
theorem dX1_reach_21 : decode cX1_reach 21 = .ok (.aload_n 0, 1) := by decide +kernel
theorem dX1_reach_22 : decode cX1_reach 22 = .ok (.iconst 1, 1) := by decide +kernel
theorem dX1_reach_23 : decode cX1_reach 23 = .ok (.invokevirtual 43, 3) := by decide +kernel
theorem dX1_reach_26 : decode cX1_reach 26 = .ok (.ireturn, 1) := by decide +kernel
set_option maxRecDepth 20000 in
theorem ggX1_steps_X1_isWish : GoodIn wsX1_steps wsX1_isWish := goodIn_r _ [7, 8, 9, 10, 6, 11, 32, 33, 34, 35, 36, 37, 38, 39, 40, 41] (by decide +kernel) (by decide +kernel)
set_option maxRecDepth 20000 in
theorem gX1_steps_X1_isWish : GoodIn wsX1_steps (wsV RX1 47 RX1 yX1_isWish wsX1_isWish) := goodIn_app (goodIn_of _ (by decide +kernel)) ggX1_steps_X1_isWish
set_option maxRecDepth 20000 in
theorem ggX1_steps_X1_fail : GoodIn wsX1_steps wsX1_fail := goodIn_r _ [15, 1, 32, 33, 34, 35, 36, 37, 38, 39, 40, 41] (by decide +kernel) (by decide +kernel)
set_option maxRecDepth 20000 in
theorem gX1_steps_X1_fail : GoodIn wsX1_steps (wsV RX1 43 RX1 yX1_fail wsX1_fail) := goodIn_app (goodIn_of _ (by decide +kernel)) ggX1_steps_X1_fail
set_option maxRecDepth 20000 in
theorem ggX1_steps_X1_spread : GoodIn wsX1_steps wsX1_spread := goodIn_r _ [19, 2, 20, 21, 22, 23, 24, 25, 26, 27, 6, 28, 29, 30, 31, 32, 33, 34, 35, 36, 37, 38, 39, 40, 41] (by decide +kernel) (by decide +kernel)
set_option maxRecDepth 20000 in
theorem gX1_steps_X1_spread : GoodIn wsX1_steps (wsV RX1 65 RX1 yX1_spread wsX1_spread) := goodIn_app (goodIn_of _ (by decide +kernel)) ggX1_steps_X1_spread
theorem dX1_steps_0 : decode cX1_steps 0 = .ok (.aload_n 0, 1) := by decide +kernel
theorem dX1_steps_1 : decode cX1_steps 1 = .ok (.iconst 0, 1) := by decide +kernel
theorem dX1_steps_2 : decode cX1_steps 2 = .ok (.putfield 33, 3) := by decide +kernel
theorem dX1_steps_5 : decode cX1_steps 5 = .ok (.aload_n 0, 1) := by decide +kernel
theorem dX1_steps_6 : decode cX1_steps 6 = .ok (.iload_n 1, 1) := by decide +kernel
theorem dX1_steps_7 : decode cX1_steps 7 = .ok (.invokevirtual 47, 3) := by decide +kernel
theorem dX1_steps_10 : decode cX1_steps 10 = .ok (.ifCond .eq 11, 3) := by decide +kernel
theorem dX1_steps_13 : decode cX1_steps 13 = .ok (.aload_n 0, 1) := by decide +kernel
theorem dX1_steps_14 : decode cX1_steps 14 = .ok (.iload_n 2, 1) := by decide +kernel
theorem dX1_steps_15 : decode cX1_steps 15 = .ok (.invokevirtual 47, 3) := by decide +kernel
theorem dX1_steps_18 : decode cX1_steps 18 = .ok (.ifCond .ne 9, 3) := by decide +kernel
theorem dX1_steps_21 : decode cX1_steps 21 = .ok (.aload_n 0, 1) := by decide +kernel
theorem dX1_steps_22 : decode cX1_steps 22 = .ok (.iconst 1, 1) := by decide +kernel
theorem dX1_steps_23 : decode cX1_steps 23 = .ok (.invokevirtual 43, 3) := by decide +kernel
theorem dX1_steps_26 : decode cX1_steps 26 = .ok (.ireturn, 1) := by decide +kernel
theorem dX1_steps_27 : decode cX1_steps 27 = .ok (.aload_n 0, 1) := by decide +kernel
theorem dX1_steps_28 : decode cX1_steps 28 = .ok (.iload_n 1, 1) := by decide +kernel
theorem dX1_steps_29 : decode cX1_steps 29 = .ok (.invokevirtual 65, 3) := by decide +kernel
theorem dX1_steps_32 : decode cX1_steps 32 = .ok (.pop, 1) := by decide +kernel
theorem dX1_steps_33 : decode cX1_steps 33 = .ok (.aload_n 0, 1) := by decide +kernel
theorem dX1_steps_34 : decode cX1_steps 34 = .ok (.getfield 30, 3) := by decide +kernel
theorem dX1_steps_37 : decode cX1_steps 37 = .ok (.iload_n 2, 1) := by decide +kernel
theorem dX1_steps_38 : decode cX1_steps 38 = .ok (.iaload, 1) := by decide +kernel
theorem dX1_steps_39 : decode cX1_steps 39 = .ok (.ireturn, 1) := by decide +kernel
set_option maxRecDepth 20000 in
theorem ggX1_isVain_X1_against : GoodIn wsX1_isVain wsX1_against := goodIn_r _ [4] (by decide +kernel) (by decide +kernel)
set_option maxRecDepth 20000 in
theorem gX1_isVain_X1_against : GoodIn wsX1_isVain (va_wsS RX1 62 yX1_against wsX1_against) := goodIn_app (goodIn_of _ (by decide +kernel)) ggX1_isVain_X1_against
set_option maxRecDepth 20000 in
theorem ggX1_isVain_X1_leads : GoodIn wsX1_isVain wsX1_leads := goodIn_r _ [8, 9, 10, 11, 12, 3, 13, 14, 15, 16, 17, 18, 19, 20, 21, 22, 1, 2, 4, 23, 24, 25, 26, 27, 28, 29, 30, 31, 32] (by decide +kernel) (by decide +kernel)
set_option maxRecDepth 20000 in
theorem gX1_isVain_X1_leads : GoodIn wsX1_isVain (wsV RX1 68 RX1 yX1_leads wsX1_leads) := goodIn_app (goodIn_of _ (by decide +kernel)) ggX1_isVain_X1_leads
theorem dX1_isVain_0 : decode cX1_isVain 0 = .ok (.aload_n 0, 1) := by decide +kernel
theorem dX1_isVain_1 : decode cX1_isVain 1 = .ok (.iload_n 1, 1) := by decide +kernel
theorem dX1_isVain_2 : decode cX1_isVain 2 = .ok (.iload_n 1, 1) := by decide +kernel
theorem dX1_isVain_3 : decode cX1_isVain 3 = .ok (.invokestatic 62, 3) := by decide +kernel
theorem dX1_isVain_6 : decode cX1_isVain 6 = .ok (.invokevirtual 68, 3) := by decide +kernel
theorem dX1_isVain_9 : decode cX1_isVain 9 = .ok (.ireturn, 1) := by decide +kernel
set_option maxRecDepth 20000 in
theorem ggX1_isTorn_X1_isVain : GoodIn wsX1_isTorn wsX1_isVain := goodIn_r _ [5, 6, 7, 4, 8, 9, 10, 11, 12, 13, 14, 15, 16, 17, 18, 19, 20, 21, 22, 23, 24, 25, 26, 27, 28, 29, 30, 31, 32, 33, 34, 35, 36] (by decide +kernel) (by decide +kernel)
set_option maxRecDepth 20000 in
theorem gX1_isTorn_X1_isVain : GoodIn wsX1_isTorn (wsV RX1 75 RX1 yX1_isVain wsX1_isVain) := goodIn_app (goodIn_of _ (by decide +kernel)) ggX1_isTorn_X1_isVain
theorem dX1_isTorn_0 : decode cX1_isTorn 0 = .ok (.aload_n 0, 1) := by decide +kernel
theorem dX1_isTorn_1 : decode cX1_isTorn 1 = .ok (.iconst 2, 1) := by decide +kernel
theorem dX1_isTorn_2 : decode cX1_isTorn 2 = .ok (.iload_n 1, 1) := by decide +kernel
theorem dX1_isTorn_3 : decode cX1_isTorn 3 = .ok (.imul, 1) := by decide +kernel
theorem dX1_isTorn_4 : decode cX1_isTorn 4 = .ok (.invokevirtual 75, 3) := by decide +kernel
theorem dX1_isTorn_7 : decode cX1_isTorn 7 = .ok (.ifCond .eq 19, 3) := by decide +kernel
theorem dX1_isTorn_10 : decode cX1_isTorn 10 = .ok (.aload_n 0, 1) := by decide +kernel
theorem dX1_isTorn_11 : decode cX1_isTorn 11 = .ok (.iconst 2, 1) := by decide +kernel
theorem dX1_isTorn_12 : decode cX1_isTorn 12 = .ok (.iload_n 1, 1) := by decide +kernel
theorem dX1_isTorn_13 : decode cX1_isTorn 13 = .ok (.imul, 1) := by decide +kernel
theorem dX1_isTorn_14 : decode cX1_isTorn 14 = .ok (.iconst 1, 1) := by decide +kernel
theorem dX1_isTorn_15 : decode cX1_isTorn 15 = .ok (.iadd, 1) := by decide +kernel
theorem dX1_isTorn_16 : decode cX1_isTorn 16 = .ok (.invokevirtual 75, 3) := by decide +kernel
theorem dX1_isTorn_19 : decode cX1_isTorn 19 = .ok (.ifCond .eq 7, 3) := by decide +kernel
theorem dX1_isTorn_22 : decode cX1_isTorn 22 = .ok (.iconst 1, 1) := by decide +kernel
theorem dX1_isTorn_23 : decode cX1_isTorn 23 = .ok (.goto 4, 3) := by decide +kernel
theorem dX1_isTorn_26 : decode cX1_isTorn 26 = .ok (.iconst 0, 1) := by decide +kernel
theorem dX1_isTorn_27 : decode cX1_isTorn 27 = .ok (.ireturn, 1) := by decide +kernel
theorem dX1_holds_0 : decode cX1_holds 0 = .ok (.iload_n 1, 1) := by decide +kernel
theorem dX1_holds_1 : decode cX1_holds 1 = .ok (.iload_n 0, 1) := by decide +kernel
theorem dX1_holds_2 : decode cX1_holds 2 = .ok (.iconst 2, 1) := by decide +kernel
theorem dX1_holds_3 : decode cX1_holds 3 = .ok (.idiv, 1) := by decide +kernel
theorem dX1_holds_4 : decode cX1_holds 4 = .ok (.ishr, 1) := by decide +kernel
theorem dX1_holds_5 : decode cX1_holds 5 = .ok (.iconst 1, 1) := by decide +kernel
theorem dX1_holds_6 : decode cX1_holds 6 = .ok (.iand, 1) := by decide +kernel
theorem dX1_holds_7 : decode cX1_holds 7 = .ok (.iconst 1, 1) := by decide +kernel
theorem dX1_holds_8 : decode cX1_holds 8 = .ok (.iload_n 0, 1) := by decide +kernel
theorem dX1_holds_9 : decode cX1_holds 9 = .ok (.iconst 2, 1) := by decide +kernel
theorem dX1_holds_10 : decode cX1_holds 10 = .ok (.irem, 1) := by decide +kernel
theorem dX1_holds_11 : decode cX1_holds 11 = .ok (.isub, 1) := by decide +kernel
theorem dX1_holds_12 : decode cX1_holds 12 = .ok (.if_icmp .ne 7, 3) := by decide +kernel
theorem dX1_holds_15 : decode cX1_holds 15 = .ok (.iconst 1, 1) := by decide +kernel
theorem dX1_holds_16 : decode cX1_holds 16 = .ok (.goto 4, 3) := by decide +kernel
theorem dX1_holds_19 : decode cX1_holds 19 = .ok (.iconst 0, 1) := by decide +kernel
theorem dX1_holds_20 : decode cX1_holds 20 = .ok (.ireturn, 1) := by decide +kernel
set_option maxRecDepth 20000 in
theorem ggX1_brokenBy_X1_holds : GoodIn wsX1_brokenBy wsX1_holds := goodIn_r _ [10] (by decide +kernel) (by decide +kernel)
set_option maxRecDepth 20000 in
theorem gX1_brokenBy_X1_holds : GoodIn wsX1_brokenBy (va_wsS RX1 78 yX1_holds wsX1_holds) := goodIn_app (goodIn_of _ (by decide +kernel)) ggX1_brokenBy_X1_holds
theorem dX1_brokenBy_0 : decode cX1_brokenBy 0 = .ok (.iconst 0, 1) := by decide +kernel
theorem dX1_brokenBy_1 : decode cX1_brokenBy 1 = .ok (.istore_n 2, 1) := by decide +kernel
theorem dX1_brokenBy_2 : decode cX1_brokenBy 2 = .ok (.iload_n 2, 1) := by decide +kernel
theorem dX1_brokenBy_3 : decode cX1_brokenBy 3 = .ok (.aload_n 0, 1) := by decide +kernel
theorem dX1_brokenBy_4 : decode cX1_brokenBy 4 = .ok (.getfield 51, 3) := by decide +kernel
theorem dX1_brokenBy_7 : decode cX1_brokenBy 7 = .ok (.if_icmp .ge 46, 3) := by decide +kernel
theorem dX1_brokenBy_10 : decode cX1_brokenBy 10 = .ok (.aload_n 0, 1) := by decide +kernel
theorem dX1_brokenBy_11 : decode cX1_brokenBy 11 = .ok (.getfield 16, 3) := by decide +kernel
theorem dX1_brokenBy_14 : decode cX1_brokenBy 14 = .ok (.iload_n 2, 1) := by decide +kernel
theorem dX1_brokenBy_15 : decode cX1_brokenBy 15 = .ok (.baload, 1) := by decide +kernel
theorem dX1_brokenBy_16 : decode cX1_brokenBy 16 = .ok (.ifCond .ne 31, 3) := by decide +kernel
theorem dX1_brokenBy_19 : decode cX1_brokenBy 19 = .ok (.aload_n 0, 1) := by decide +kernel
theorem dX1_brokenBy_20 : decode cX1_brokenBy 20 = .ok (.getfield 9, 3) := by decide +kernel
theorem dX1_brokenBy_23 : decode cX1_brokenBy 23 = .ok (.iload_n 2, 1) := by decide +kernel
theorem dX1_brokenBy_24 : decode cX1_brokenBy 24 = .ok (.iaload, 1) := by decide +kernel
theorem dX1_brokenBy_25 : decode cX1_brokenBy 25 = .ok (.iload_n 1, 1) := by decide +kernel
theorem dX1_brokenBy_26 : decode cX1_brokenBy 26 = .ok (.invokestatic 78, 3) := by decide +kernel
theorem dX1_brokenBy_29 : decode cX1_brokenBy 29 = .ok (.ifCond .eq 18, 3) := by decide +kernel
theorem dX1_brokenBy_32 : decode cX1_brokenBy 32 = .ok (.aload_n 0, 1) := by decide +kernel
theorem dX1_brokenBy_33 : decode cX1_brokenBy 33 = .ok (.getfield 13, 3) := by decide +kernel
theorem dX1_brokenBy_36 : decode cX1_brokenBy 36 = .ok (.iload_n 2, 1) := by decide +kernel
theorem dX1_brokenBy_37 : decode cX1_brokenBy 37 = .ok (.iaload, 1) := by decide +kernel
theorem dX1_brokenBy_38 : decode cX1_brokenBy 38 = .ok (.iload_n 1, 1) := by decide +kernel
theorem dX1_brokenBy_39 : decode cX1_brokenBy 39 = .ok (.invokestatic 78, 3) := by decide +kernel
theorem dX1_brokenBy_42 : decode cX1_brokenBy 42 = .ok (.ifCond .ne 5, 3) := by decide +kernel
theorem dX1_brokenBy_45 : decode cX1_brokenBy 45 = .ok (.iload_n 2, 1) := by decide +kernel
theorem dX1_brokenBy_46 : decode cX1_brokenBy 46 = .ok (.ireturn, 1) := by decide +kernel
theorem dX1_brokenBy_47 : decode cX1_brokenBy 47 = .ok (.iinc 2 1, 3) := by decide +kernel
theorem dX1_brokenBy_50 : decode cX1_brokenBy 50 = .ok (.goto (-48), 3) := by decide +kernel
theorem dX1_brokenBy_53 : decode cX1_brokenBy 53 = .ok (.aload_n 0, 1) := by decide +kernel
theorem dX1_brokenBy_54 : decode cX1_brokenBy 54 = .ok (.getfield 20, 3) := by decide +kernel
theorem dX1_brokenBy_57 : decode cX1_brokenBy 57 = .ok (.iconst (-1), 1) := by decide +kernel
theorem dX1_brokenBy_58 : decode cX1_brokenBy 58 = .ok (.if_icmp .eq 30, 3) := by decide +kernel
theorem dX1_brokenBy_61 : decode cX1_brokenBy 61 = .ok (.aload_n 0, 1) := by decide +kernel
theorem dX1_brokenBy_62 : decode cX1_brokenBy 62 = .ok (.getfield 20, 3) := by decide +kernel
theorem dX1_brokenBy_65 : decode cX1_brokenBy 65 = .ok (.iload_n 1, 1) := by decide +kernel
theorem dX1_brokenBy_66 : decode cX1_brokenBy 66 = .ok (.invokestatic 78, 3) := by decide +kernel
theorem dX1_brokenBy_69 : decode cX1_brokenBy 69 = .ok (.ifCond .eq 19, 3) := by decide +kernel
theorem dX1_brokenBy_72 : decode cX1_brokenBy 72 = .ok (.aload_n 0, 1) := by decide +kernel
theorem dX1_brokenBy_73 : decode cX1_brokenBy 73 = .ok (.getfield 24, 3) := by decide +kernel
theorem dX1_brokenBy_76 : decode cX1_brokenBy 76 = .ok (.iload_n 1, 1) := by decide +kernel
theorem dX1_brokenBy_77 : decode cX1_brokenBy 77 = .ok (.invokestatic 78, 3) := by decide +kernel
theorem dX1_brokenBy_80 : decode cX1_brokenBy 80 = .ok (.ifCond .ne 8, 3) := by decide +kernel
theorem dX1_brokenBy_83 : decode cX1_brokenBy 83 = .ok (.bipush 30, 2) := by decide +kernel
theorem dX1_brokenBy_85 : decode cX1_brokenBy 85 = .ok (.goto 4, 3) := by decide +kernel
theorem dX1_brokenBy_88 : decode cX1_brokenBy 88 = .ok (.iconst (-1), 1) := by decide +kernel
theorem dX1_brokenBy_89 : decode cX1_brokenBy 89 = .ok (.ireturn, 1) := by decide +kernel
set_option maxRecDepth 20000 in
theorem ggX1_seatingsWith_X1_brokenBy : GoodIn wsX1_seatingsWith wsX1_brokenBy := goodIn_r _ [6, 7, 8, 9, 10, 11, 12, 13, 14, 5, 15, 16, 17, 18, 19, 20, 21, 22, 23, 24, 25] (by decide +kernel) (by decide +kernel)
set_option maxRecDepth 20000 in
theorem gX1_seatingsWith_X1_brokenBy : GoodIn wsX1_seatingsWith (wsV RX1 81 RX1 yX1_brokenBy wsX1_brokenBy) := goodIn_app (goodIn_of _ (by decide +kernel)) ggX1_seatingsWith_X1_brokenBy
theorem dX1_seatingsWith_0 : decode cX1_seatingsWith 0 = .ok (.iconst 0, 1) := by decide +kernel
theorem dX1_seatingsWith_1 : decode cX1_seatingsWith 1 = .ok (.istore_n 3, 1) := by decide +kernel
theorem dX1_seatingsWith_2 : decode cX1_seatingsWith 2 = .ok (.iconst 0, 1) := by decide +kernel
theorem dX1_seatingsWith_3 : decode cX1_seatingsWith 3 = .ok (.istore 4, 2) := by decide +kernel
theorem dX1_seatingsWith_5 : decode cX1_seatingsWith 5 = .ok (.iload 4, 2) := by decide +kernel
theorem dX1_seatingsWith_7 : decode cX1_seatingsWith 7 = .ok (.iconst 1, 1) := by decide +kernel
theorem dX1_seatingsWith_8 : decode cX1_seatingsWith 8 = .ok (.aload_n 0, 1) := by decide +kernel
theorem dX1_seatingsWith_9 : decode cX1_seatingsWith 9 = .ok (.getfield 36, 3) := by decide +kernel
theorem dX1_seatingsWith_12 : decode cX1_seatingsWith 12 = .ok (.ishl, 1) := by decide +kernel
theorem dX1_seatingsWith_13 : decode cX1_seatingsWith 13 = .ok (.if_icmp .ge 39, 3) := by decide +kernel
theorem dX1_seatingsWith_16 : decode cX1_seatingsWith 16 = .ok (.iload_n 3, 1) := by decide +kernel
theorem dX1_seatingsWith_17 : decode cX1_seatingsWith 17 = .ok (.iload 4, 2) := by decide +kernel
theorem dX1_seatingsWith_19 : decode cX1_seatingsWith 19 = .ok (.iconst 1, 1) := by decide +kernel
theorem dX1_seatingsWith_20 : decode cX1_seatingsWith 20 = .ok (.iload_n 2, 1) := by decide +kernel
theorem dX1_seatingsWith_21 : decode cX1_seatingsWith 21 = .ok (.ishl, 1) := by decide +kernel
theorem dX1_seatingsWith_22 : decode cX1_seatingsWith 22 = .ok (.iconst 1, 1) := by decide +kernel
theorem dX1_seatingsWith_23 : decode cX1_seatingsWith 23 = .ok (.isub, 1) := by decide +kernel
theorem dX1_seatingsWith_24 : decode cX1_seatingsWith 24 = .ok (.iand, 1) := by decide +kernel
theorem dX1_seatingsWith_25 : decode cX1_seatingsWith 25 = .ok (.iload_n 1, 1) := by decide +kernel
theorem dX1_seatingsWith_26 : decode cX1_seatingsWith 26 = .ok (.if_icmp .ne 17, 3) := by decide +kernel
theorem dX1_seatingsWith_29 : decode cX1_seatingsWith 29 = .ok (.aload_n 0, 1) := by decide +kernel
theorem dX1_seatingsWith_30 : decode cX1_seatingsWith 30 = .ok (.iload 4, 2) := by decide +kernel
theorem dX1_seatingsWith_32 : decode cX1_seatingsWith 32 = .ok (.invokevirtual 81, 3) := by decide +kernel
theorem dX1_seatingsWith_35 : decode cX1_seatingsWith 35 = .ok (.iconst (-1), 1) := by decide +kernel
theorem dX1_seatingsWith_36 : decode cX1_seatingsWith 36 = .ok (.if_icmp .ne 7, 3) := by decide +kernel
theorem dX1_seatingsWith_39 : decode cX1_seatingsWith 39 = .ok (.iconst 1, 1) := by decide +kernel
theorem dX1_seatingsWith_40 : decode cX1_seatingsWith 40 = .ok (.goto 4, 3) := by decide +kernel
theorem dX1_seatingsWith_43 : decode cX1_seatingsWith 43 = .ok (.iconst 0, 1) := by decide +kernel
theorem dX1_seatingsWith_44 : decode cX1_seatingsWith 44 = .ok (.iadd, 1) := by decide +kernel
theorem dX1_seatingsWith_45 : decode cX1_seatingsWith 45 = .ok (.istore_n 3, 1) := by decide +kernel
theorem dX1_seatingsWith_46 : decode cX1_seatingsWith 46 = .ok (.iinc 4 1, 3) := by decide +kernel
theorem dX1_seatingsWith_49 : decode cX1_seatingsWith 49 = .ok (.goto (-44), 3) := by decide +kernel
theorem dX1_seatingsWith_52 : decode cX1_seatingsWith 52 = .ok (.iload_n 3, 1) := by decide +kernel
theorem dX1_seatingsWith_53 : decode cX1_seatingsWith 53 = .ok (.ireturn, 1) := by decide +kernel
set_option maxRecDepth 20000 in
theorem ggX1_all_X1_seatingsWith : GoodIn wsX1_all wsX1_seatingsWith := goodIn_r _ [5, 6, 7, 8, 9, 4, 10, 11, 12, 13, 14, 15, 16, 17, 18, 19, 20, 21, 22, 23, 24, 25, 26, 27, 28, 29] (by decide +kernel) (by decide +kernel)
set_option maxRecDepth 20000 in
theorem gX1_all_X1_seatingsWith : GoodIn wsX1_all (wsV RX1 84 RX1 yX1_seatingsWith wsX1_seatingsWith) := goodIn_app (goodIn_of _ (by decide +kernel)) ggX1_all_X1_seatingsWith
theorem dX1_all_0 : decode cX1_all 0 = .ok (.aload_n 0, 1) := by decide +kernel
theorem dX1_all_1 : decode cX1_all 1 = .ok (.iconst 0, 1) := by decide +kernel
theorem dX1_all_2 : decode cX1_all 2 = .ok (.iconst 0, 1) := by decide +kernel
theorem dX1_all_3 : decode cX1_all 3 = .ok (.invokevirtual 84, 3) := by decide +kernel
theorem dX1_all_6 : decode cX1_all 6 = .ok (.ireturn, 1) := by decide +kernel
set_option maxRecDepth 20000 in
theorem ggX1_isForced_X1_all : GoodIn wsX1_isForced wsX1_all := goodIn_r _ [6, 7, 8, 9, 5, 10, 1, 11, 12, 13, 14, 15, 16, 17, 18, 19, 20, 21, 22, 23, 24, 25, 26, 27, 28, 29, 30, 31, 32, 33] (by decide +kernel) (by decide +kernel)
set_option maxRecDepth 20000 in
theorem gX1_isForced_X1_all : GoodIn wsX1_isForced (wsV RX1 87 RX1 yX1_all wsX1_all) := goodIn_app (goodIn_of _ (by decide +kernel)) ggX1_isForced_X1_all
set_option maxRecDepth 20000 in
theorem ggX1_isForced_X1_brokenBy : GoodIn wsX1_isForced wsX1_brokenBy := goodIn_r _ [14, 15, 16, 17, 18, 19, 20, 21, 22, 5, 23, 24, 25, 26, 27, 28, 29, 30, 31, 32, 33] (by decide +kernel) (by decide +kernel)
set_option maxRecDepth 20000 in
theorem gX1_isForced_X1_brokenBy : GoodIn wsX1_isForced (wsV RX1 81 RX1 yX1_brokenBy wsX1_brokenBy) := goodIn_app (goodIn_of _ (by decide +kernel)) ggX1_isForced_X1_brokenBy
set_option maxRecDepth 20000 in
theorem ggX1_isForced_X1_holds : GoodIn wsX1_isForced wsX1_holds := goodIn_r _ [23] (by decide +kernel) (by decide +kernel)
set_option maxRecDepth 20000 in
theorem gX1_isForced_X1_holds : GoodIn wsX1_isForced (va_wsS RX1 78 yX1_holds wsX1_holds) := goodIn_app (goodIn_of _ (by decide +kernel)) ggX1_isForced_X1_holds
theorem dX1_isForced_0 : decode cX1_isForced 0 = .ok (.aload_n 0, 1) := by decide +kernel
theorem dX1_isForced_1 : decode cX1_isForced 1 = .ok (.invokevirtual 87, 3) := by decide +kernel
theorem dX1_isForced_4 : decode cX1_isForced 4 = .ok (.ifCond .le 7, 3) := by decide +kernel
theorem dX1_isForced_7 : decode cX1_isForced 7 = .ok (.iconst 1, 1) := by decide +kernel
theorem dX1_isForced_8 : decode cX1_isForced 8 = .ok (.goto 4, 3) := by decide +kernel
theorem dX1_isForced_11 : decode cX1_isForced 11 = .ok (.iconst 0, 1) := by decide +kernel
theorem dX1_isForced_12 : decode cX1_isForced 12 = .ok (.istore_n 2, 1) := by decide +kernel
theorem dX1_isForced_13 : decode cX1_isForced 13 = .ok (.iconst 0, 1) := by decide +kernel
theorem dX1_isForced_14 : decode cX1_isForced 14 = .ok (.istore_n 3, 1) := by decide +kernel
theorem dX1_isForced_15 : decode cX1_isForced 15 = .ok (.iload_n 3, 1) := by decide +kernel
theorem dX1_isForced_16 : decode cX1_isForced 16 = .ok (.iconst 1, 1) := by decide +kernel
theorem dX1_isForced_17 : decode cX1_isForced 17 = .ok (.aload_n 0, 1) := by decide +kernel
theorem dX1_isForced_18 : decode cX1_isForced 18 = .ok (.getfield 36, 3) := by decide +kernel
theorem dX1_isForced_21 : decode cX1_isForced 21 = .ok (.ishl, 1) := by decide +kernel
theorem dX1_isForced_22 : decode cX1_isForced 22 = .ok (.if_icmp .ge 36, 3) := by decide +kernel
theorem dX1_isForced_25 : decode cX1_isForced 25 = .ok (.iload_n 2, 1) := by decide +kernel
theorem dX1_isForced_26 : decode cX1_isForced 26 = .ok (.ifCond .eq 32, 3) := by decide +kernel
theorem dX1_isForced_29 : decode cX1_isForced 29 = .ok (.aload_n 0, 1) := by decide +kernel
theorem dX1_isForced_30 : decode cX1_isForced 30 = .ok (.iload_n 3, 1) := by decide +kernel
theorem dX1_isForced_31 : decode cX1_isForced 31 = .ok (.invokevirtual 81, 3) := by decide +kernel
theorem dX1_isForced_34 : decode cX1_isForced 34 = .ok (.iconst (-1), 1) := by decide +kernel
theorem dX1_isForced_35 : decode cX1_isForced 35 = .ok (.if_icmp .ne 11, 3) := by decide +kernel
theorem dX1_isForced_38 : decode cX1_isForced 38 = .ok (.iload_n 1, 1) := by decide +kernel
theorem dX1_isForced_39 : decode cX1_isForced 39 = .ok (.iload_n 3, 1) := by decide +kernel
theorem dX1_isForced_40 : decode cX1_isForced 40 = .ok (.invokestatic 78, 3) := by decide +kernel
theorem dX1_isForced_43 : decode cX1_isForced 43 = .ok (.ifCond .eq 7, 3) := by decide +kernel
theorem dX1_isForced_46 : decode cX1_isForced 46 = .ok (.iconst 1, 1) := by decide +kernel
theorem dX1_isForced_47 : decode cX1_isForced 47 = .ok (.goto 4, 3) := by decide +kernel
theorem dX1_isForced_50 : decode cX1_isForced 50 = .ok (.iconst 0, 1) := by decide +kernel
theorem dX1_isForced_51 : decode cX1_isForced 51 = .ok (.istore_n 2, 1) := by decide +kernel
theorem dX1_isForced_52 : decode cX1_isForced 52 = .ok (.iinc 3 1, 3) := by decide +kernel
theorem dX1_isForced_55 : decode cX1_isForced 55 = .ok (.goto (-40), 3) := by decide +kernel
theorem dX1_isForced_58 : decode cX1_isForced 58 = .ok (.iload_n 2, 1) := by decide +kernel
theorem dX1_isForced_59 : decode cX1_isForced 59 = .ok (.ireturn, 1) := by decide +kernel
set_option maxRecDepth 20000 in
theorem ggX1_guestTold_X1_isForced : GoodIn wsX1_guestTold wsX1_isForced := goodIn_r _ [6, 1, 7, 8, 9, 5, 10, 11, 12, 13, 14, 15, 16, 17, 18, 19, 20, 21, 22, 23, 24, 25, 26, 27, 53, 54, 55, 56, 57, 58, 59, 60, 61, 62] (by decide +kernel) (by decide +kernel)
set_option maxRecDepth 20000 in
theorem gX1_guestTold_X1_isForced : GoodIn wsX1_guestTold (wsV RX1 91 RX1 yX1_isForced wsX1_isForced) := goodIn_app (goodIn_of _ (by decide +kernel)) ggX1_guestTold_X1_isForced
set_option maxRecDepth 20000 in
theorem ggX1_guestTold_X1_isTorn : GoodIn wsX1_guestTold wsX1_isTorn := goodIn_r _ [31, 32, 33, 34, 5, 35, 36, 37, 38, 39, 40, 41, 42, 43, 44, 45, 46, 47, 48, 19, 20, 21, 22, 49, 50, 51, 52, 53, 54, 55, 56, 57, 58, 59, 60, 61, 62] (by decide +kernel) (by decide +kernel)
set_option maxRecDepth 20000 in
theorem gX1_guestTold_X1_isTorn : GoodIn wsX1_guestTold (wsV RX1 94 RX1 yX1_isTorn wsX1_isTorn) := goodIn_app (goodIn_of _ (by decide +kernel)) ggX1_guestTold_X1_isTorn
set_option maxRecDepth 20000 in
theorem ggX1_guestTold_X1_leads : GoodIn wsX1_guestTold wsX1_leads := goodIn_r _ [42, 43, 44, 45, 46, 5, 47, 48, 19, 20, 21, 22, 49, 50, 51, 52, 36, 37, 38, 53, 54, 55, 56, 57, 58, 59, 60, 61, 62] (by decide +kernel) (by decide +kernel)
set_option maxRecDepth 20000 in
theorem gX1_guestTold_X1_leads : GoodIn wsX1_guestTold (wsV RX1 68 RX1 yX1_leads wsX1_leads) := goodIn_app (goodIn_of _ (by decide +kernel)) ggX1_guestTold_X1_leads
theorem dX1_guestTold_0 : decode cX1_guestTold 0 = .ok (.iload_n 2, 1) := by decide +kernel
theorem dX1_guestTold_1 : decode cX1_guestTold 1 = .ok (.iconst 2, 1) := by decide +kernel
theorem dX1_guestTold_2 : decode cX1_guestTold 2 = .ok (.if_icmp .ge 21, 3) := by decide +kernel
theorem dX1_guestTold_5 : decode cX1_guestTold 5 = .ok (.aload_n 0, 1) := by decide +kernel
theorem dX1_guestTold_6 : decode cX1_guestTold 6 = .ok (.iconst 2, 1) := by decide +kernel
theorem dX1_guestTold_7 : decode cX1_guestTold 7 = .ok (.iload_n 1, 1) := by decide +kernel
theorem dX1_guestTold_8 : decode cX1_guestTold 8 = .ok (.imul, 1) := by decide +kernel
theorem dX1_guestTold_9 : decode cX1_guestTold 9 = .ok (.iload_n 2, 1) := by decide +kernel
theorem dX1_guestTold_10 : decode cX1_guestTold 10 = .ok (.iadd, 1) := by decide +kernel
theorem dX1_guestTold_11 : decode cX1_guestTold 11 = .ok (.invokevirtual 91, 3) := by decide +kernel
theorem dX1_guestTold_14 : decode cX1_guestTold 14 = .ok (.ifCond .eq 7, 3) := by decide +kernel
theorem dX1_guestTold_17 : decode cX1_guestTold 17 = .ok (.iconst 1, 1) := by decide +kernel
theorem dX1_guestTold_18 : decode cX1_guestTold 18 = .ok (.goto 4, 3) := by decide +kernel
theorem dX1_guestTold_21 : decode cX1_guestTold 21 = .ok (.iconst 0, 1) := by decide +kernel
theorem dX1_guestTold_22 : decode cX1_guestTold 22 = .ok (.ireturn, 1) := by decide +kernel
theorem dX1_guestTold_23 : decode cX1_guestTold 23 = .ok (.iload_n 2, 1) := by decide +kernel
theorem dX1_guestTold_24 : decode cX1_guestTold 24 = .ok (.iconst 2, 1) := by decide +kernel
theorem dX1_guestTold_25 : decode cX1_guestTold 25 = .ok (.if_icmp .ne 17, 3) := by decide +kernel
theorem dX1_guestTold_28 : decode cX1_guestTold 28 = .ok (.aload_n 0, 1) := by decide +kernel
theorem dX1_guestTold_29 : decode cX1_guestTold 29 = .ok (.iload_n 1, 1) := by decide +kernel
theorem dX1_guestTold_30 : decode cX1_guestTold 30 = .ok (.invokevirtual 94, 3) := by decide +kernel
theorem dX1_guestTold_33 : decode cX1_guestTold 33 = .ok (.ifCond .eq 7, 3) := by decide +kernel
theorem dX1_guestTold_36 : decode cX1_guestTold 36 = .ok (.iconst 1, 1) := by decide +kernel
theorem dX1_guestTold_37 : decode cX1_guestTold 37 = .ok (.goto 4, 3) := by decide +kernel
theorem dX1_guestTold_40 : decode cX1_guestTold 40 = .ok (.iconst 0, 1) := by decide +kernel
theorem dX1_guestTold_41 : decode cX1_guestTold 41 = .ok (.ireturn, 1) := by decide +kernel
theorem dX1_guestTold_42 : decode cX1_guestTold 42 = .ok (.iconst 0, 1) := by decide +kernel
theorem dX1_guestTold_43 : decode cX1_guestTold 43 = .ok (.istore_n 3, 1) := by decide +kernel
theorem dX1_guestTold_44 : decode cX1_guestTold 44 = .ok (.iconst 0, 1) := by decide +kernel
theorem dX1_guestTold_45 : decode cX1_guestTold 45 = .ok (.istore 4, 2) := by decide +kernel
theorem dX1_guestTold_47 : decode cX1_guestTold 47 = .ok (.iload 4, 2) := by decide +kernel
theorem dX1_guestTold_49 : decode cX1_guestTold 49 = .ok (.aload_n 0, 1) := by decide +kernel
theorem dX1_guestTold_50 : decode cX1_guestTold 50 = .ok (.getfield 36, 3) := by decide +kernel
theorem dX1_guestTold_53 : decode cX1_guestTold 53 = .ok (.if_icmp .ge 100, 3) := by decide +kernel
theorem dX1_guestTold_56 : decode cX1_guestTold 56 = .ok (.iconst 0, 1) := by decide +kernel
theorem dX1_guestTold_57 : decode cX1_guestTold 57 = .ok (.istore 5, 2) := by decide +kernel
theorem dX1_guestTold_59 : decode cX1_guestTold 59 = .ok (.iconst 0, 1) := by decide +kernel
theorem dX1_guestTold_60 : decode cX1_guestTold 60 = .ok (.istore 6, 2) := by decide +kernel
theorem dX1_guestTold_62 : decode cX1_guestTold 62 = .ok (.iload 6, 2) := by decide +kernel
theorem dX1_guestTold_64 : decode cX1_guestTold 64 = .ok (.iconst 4, 1) := by decide +kernel
theorem dX1_guestTold_65 : decode cX1_guestTold 65 = .ok (.if_icmp .ge 69, 3) := by decide +kernel
theorem dX1_guestTold_68 : decode cX1_guestTold 68 = .ok (.iload 5, 2) := by decide +kernel
theorem dX1_guestTold_70 : decode cX1_guestTold 70 = .ok (.ifCond .ne 51, 3) := by decide +kernel
theorem dX1_guestTold_73 : decode cX1_guestTold 73 = .ok (.aload_n 0, 1) := by decide +kernel
theorem dX1_guestTold_74 : decode cX1_guestTold 74 = .ok (.iconst 2, 1) := by decide +kernel
theorem dX1_guestTold_75 : decode cX1_guestTold 75 = .ok (.iload_n 1, 1) := by decide +kernel
theorem dX1_guestTold_76 : decode cX1_guestTold 76 = .ok (.imul, 1) := by decide +kernel
theorem dX1_guestTold_77 : decode cX1_guestTold 77 = .ok (.iload 6, 2) := by decide +kernel
theorem dX1_guestTold_79 : decode cX1_guestTold 79 = .ok (.iconst 2, 1) := by decide +kernel
theorem dX1_guestTold_80 : decode cX1_guestTold 80 = .ok (.idiv, 1) := by decide +kernel
theorem dX1_guestTold_81 : decode cX1_guestTold 81 = .ok (.iadd, 1) := by decide +kernel
theorem dX1_guestTold_82 : decode cX1_guestTold 82 = .ok (.iconst 2, 1) := by decide +kernel
theorem dX1_guestTold_83 : decode cX1_guestTold 83 = .ok (.iload 4, 2) := by decide +kernel
theorem dX1_guestTold_85 : decode cX1_guestTold 85 = .ok (.imul, 1) := by decide +kernel
theorem dX1_guestTold_86 : decode cX1_guestTold 86 = .ok (.iload 6, 2) := by decide +kernel
theorem dX1_guestTold_88 : decode cX1_guestTold 88 = .ok (.iconst 2, 1) := by decide +kernel
theorem dX1_guestTold_89 : decode cX1_guestTold 89 = .ok (.irem, 1) := by decide +kernel
theorem dX1_guestTold_90 : decode cX1_guestTold 90 = .ok (.iadd, 1) := by decide +kernel
theorem dX1_guestTold_91 : decode cX1_guestTold 91 = .ok (.invokevirtual 68, 3) := by decide +kernel
theorem dX1_guestTold_94 : decode cX1_guestTold 94 = .ok (.ifCond .eq 31, 3) := by decide +kernel
theorem dX1_guestTold_97 : decode cX1_guestTold 97 = .ok (.aload_n 0, 1) := by decide +kernel
theorem dX1_guestTold_98 : decode cX1_guestTold 98 = .ok (.iconst 2, 1) := by decide +kernel
theorem dX1_guestTold_99 : decode cX1_guestTold 99 = .ok (.iload 4, 2) := by decide +kernel
theorem dX1_guestTold_101 : decode cX1_guestTold 101 = .ok (.imul, 1) := by decide +kernel
theorem dX1_guestTold_102 : decode cX1_guestTold 102 = .ok (.iload 6, 2) := by decide +kernel
theorem dX1_guestTold_104 : decode cX1_guestTold 104 = .ok (.iconst 2, 1) := by decide +kernel
theorem dX1_guestTold_105 : decode cX1_guestTold 105 = .ok (.irem, 1) := by decide +kernel
theorem dX1_guestTold_106 : decode cX1_guestTold 106 = .ok (.iadd, 1) := by decide +kernel
theorem dX1_guestTold_107 : decode cX1_guestTold 107 = .ok (.iconst 2, 1) := by decide +kernel
theorem dX1_guestTold_108 : decode cX1_guestTold 108 = .ok (.iload_n 1, 1) := by decide +kernel
theorem dX1_guestTold_109 : decode cX1_guestTold 109 = .ok (.imul, 1) := by decide +kernel
theorem dX1_guestTold_110 : decode cX1_guestTold 110 = .ok (.iload 6, 2) := by decide +kernel
theorem dX1_guestTold_112 : decode cX1_guestTold 112 = .ok (.iconst 2, 1) := by decide +kernel
theorem dX1_guestTold_113 : decode cX1_guestTold 113 = .ok (.idiv, 1) := by decide +kernel
theorem dX1_guestTold_114 : decode cX1_guestTold 114 = .ok (.iadd, 1) := by decide +kernel
theorem dX1_guestTold_115 : decode cX1_guestTold 115 = .ok (.invokevirtual 68, 3) := by decide +kernel
theorem dX1_guestTold_118 : decode cX1_guestTold 118 = .ok (.ifCond .eq 7, 3) := by decide +kernel
theorem dX1_guestTold_121 : decode cX1_guestTold 121 = .ok (.iconst 1, 1) := by decide +kernel
theorem dX1_guestTold_122 : decode cX1_guestTold 122 = .ok (.goto 4, 3) := by decide +kernel
theorem dX1_guestTold_125 : decode cX1_guestTold 125 = .ok (.iconst 0, 1) := by decide +kernel
theorem dX1_guestTold_126 : decode cX1_guestTold 126 = .ok (.istore 5, 2) := by decide +kernel
theorem dX1_guestTold_128 : decode cX1_guestTold 128 = .ok (.iinc 6 1, 3) := by decide +kernel
theorem dX1_guestTold_131 : decode cX1_guestTold 131 = .ok (.goto (-69), 3) := by decide +kernel
theorem dX1_guestTold_134 : decode cX1_guestTold 134 = .ok (.iload_n 3, 1) := by decide +kernel
theorem dX1_guestTold_135 : decode cX1_guestTold 135 = .ok (.iload 5, 2) := by decide +kernel
theorem dX1_guestTold_137 : decode cX1_guestTold 137 = .ok (.ifCond .eq 7, 3) := by decide +kernel
theorem dX1_guestTold_140 : decode cX1_guestTold 140 = .ok (.iconst 1, 1) := by decide +kernel
theorem dX1_guestTold_141 : decode cX1_guestTold 141 = .ok (.goto 4, 3) := by decide +kernel
theorem dX1_guestTold_144 : decode cX1_guestTold 144 = .ok (.iconst 0, 1) := by decide +kernel
theorem dX1_guestTold_145 : decode cX1_guestTold 145 = .ok (.iadd, 1) := by decide +kernel
theorem dX1_guestTold_146 : decode cX1_guestTold 146 = .ok (.istore_n 3, 1) := by decide +kernel
theorem dX1_guestTold_147 : decode cX1_guestTold 147 = .ok (.iinc 4 1, 3) := by decide +kernel
theorem dX1_guestTold_150 : decode cX1_guestTold 150 = .ok (.goto (-103), 3) := by decide +kernel
theorem dX1_guestTold_153 : decode cX1_guestTold 153 = .ok (.iload_n 3, 1) := by decide +kernel
theorem dX1_guestTold_154 : decode cX1_guestTold 154 = .ok (.ireturn, 1) := by decide +kernel
set_option maxRecDepth 20000 in
theorem ggX1_guest_X1_isIn : GoodIn wsX1_guest wsX1_isIn := goodIn_r _ [6] (by decide +kernel) (by decide +kernel)
set_option maxRecDepth 20000 in
theorem gX1_guest_X1_isIn : GoodIn wsX1_guest (va_wsS RX1 39 yX1_isIn wsX1_isIn) := goodIn_app (goodIn_of _ (by decide +kernel)) ggX1_guest_X1_isIn
set_option maxRecDepth 20000 in
theorem ggX1_guest_X1_guestTold : GoodIn wsX1_guest wsX1_guestTold := goodIn_r _ [10, 2, 11, 12, 13, 5, 14, 15, 16, 17, 18, 19, 20, 21, 22, 23, 24, 25, 26, 27, 28, 29, 30, 31, 32, 33, 34, 35, 36, 37, 38, 39, 40, 41, 42, 43, 44, 45, 46, 47, 48, 49, 50, 51, 52, 53, 54, 55, 56, 57, 58, 59, 60, 65, 66, 67, 68, 69, 70, 71, 72, 73, 74] (by decide +kernel) (by decide +kernel)
set_option maxRecDepth 20000 in
theorem gX1_guest_X1_guestTold : GoodIn wsX1_guest (wsV RX1 97 RX1 yX1_guestTold wsX1_guestTold) := goodIn_app (goodIn_of _ (by decide +kernel)) ggX1_guest_X1_guestTold
set_option maxRecDepth 20000 in
theorem ggX1_guest_X1_fail : GoodIn wsX1_guest wsX1_fail := goodIn_r _ [64, 1, 65, 66, 67, 68, 69, 70, 71, 72, 73, 74] (by decide +kernel) (by decide +kernel)
set_option maxRecDepth 20000 in
theorem gX1_guest_X1_fail : GoodIn wsX1_guest (wsV RX1 43 RX1 yX1_fail wsX1_fail) := goodIn_app (goodIn_of _ (by decide +kernel)) ggX1_guest_X1_fail
theorem dX1_guest_0 : decode cX1_guest 0 = .ok (.aload_n 0, 1) := by decide +kernel
theorem dX1_guest_1 : decode cX1_guest 1 = .ok (.iconst 0, 1) := by decide +kernel
theorem dX1_guest_2 : decode cX1_guest 2 = .ok (.putfield 33, 3) := by decide +kernel
theorem dX1_guest_5 : decode cX1_guest 5 = .ok (.iload_n 1, 1) := by decide +kernel
theorem dX1_guest_6 : decode cX1_guest 6 = .ok (.iconst 0, 1) := by decide +kernel
theorem dX1_guest_7 : decode cX1_guest 7 = .ok (.aload_n 0, 1) := by decide +kernel
theorem dX1_guest_8 : decode cX1_guest 8 = .ok (.getfield 36, 3) := by decide +kernel
theorem dX1_guest_11 : decode cX1_guest 11 = .ok (.iconst 1, 1) := by decide +kernel
theorem dX1_guest_12 : decode cX1_guest 12 = .ok (.isub, 1) := by decide +kernel
theorem dX1_guest_13 : decode cX1_guest 13 = .ok (.invokestatic 39, 3) := by decide +kernel
theorem dX1_guest_16 : decode cX1_guest 16 = .ok (.ifCond .eq 21, 3) := by decide +kernel
theorem dX1_guest_19 : decode cX1_guest 19 = .ok (.iload_n 2, 1) := by decide +kernel
theorem dX1_guest_20 : decode cX1_guest 20 = .ok (.iconst 0, 1) := by decide +kernel
theorem dX1_guest_21 : decode cX1_guest 21 = .ok (.iconst 3, 1) := by decide +kernel
theorem dX1_guest_22 : decode cX1_guest 22 = .ok (.invokestatic 39, 3) := by decide +kernel
theorem dX1_guest_25 : decode cX1_guest 25 = .ok (.ifCond .eq 12, 3) := by decide +kernel
theorem dX1_guest_28 : decode cX1_guest 28 = .ok (.aload_n 0, 1) := by decide +kernel
theorem dX1_guest_29 : decode cX1_guest 29 = .ok (.iload_n 1, 1) := by decide +kernel
theorem dX1_guest_30 : decode cX1_guest 30 = .ok (.iload_n 2, 1) := by decide +kernel
theorem dX1_guest_31 : decode cX1_guest 31 = .ok (.invokevirtual 97, 3) := by decide +kernel
theorem dX1_guest_34 : decode cX1_guest 34 = .ok (.goto 8, 3) := by decide +kernel
theorem dX1_guest_37 : decode cX1_guest 37 = .ok (.aload_n 0, 1) := by decide +kernel
theorem dX1_guest_38 : decode cX1_guest 38 = .ok (.iconst 1, 1) := by decide +kernel
theorem dX1_guest_39 : decode cX1_guest 39 = .ok (.invokevirtual 43, 3) := by decide +kernel
theorem dX1_guest_42 : decode cX1_guest 42 = .ok (.ireturn, 1) := by decide +kernel
set_option maxRecDepth 20000 in
theorem ggX1_fits_X1_all : GoodIn wsX1_fits wsX1_all := goodIn_r _ [6, 7, 8, 9, 5, 10, 11, 12, 13, 14, 15, 16, 17, 18, 19, 20, 21, 22, 23, 24, 25, 26, 27, 28, 29, 30, 31, 32, 33, 34] (by decide +kernel) (by decide +kernel)
set_option maxRecDepth 20000 in
theorem gX1_fits_X1_all : GoodIn wsX1_fits (wsV RX1 87 RX1 yX1_all wsX1_all) := goodIn_app (goodIn_of _ (by decide +kernel)) ggX1_fits_X1_all
theorem dX1_fits_0 : decode cX1_fits 0 = .ok (.aload_n 0, 1) := by decide +kernel
theorem dX1_fits_1 : decode cX1_fits 1 = .ok (.iconst 0, 1) := by decide +kernel
theorem dX1_fits_2 : decode cX1_fits 2 = .ok (.putfield 33, 3) := by decide +kernel
theorem dX1_fits_5 : decode cX1_fits 5 = .ok (.aload_n 0, 1) := by decide +kernel
theorem dX1_fits_6 : decode cX1_fits 6 = .ok (.invokevirtual 87, 3) := by decide +kernel
theorem dX1_fits_9 : decode cX1_fits 9 = .ok (.ifCond .le 7, 3) := by decide +kernel
theorem dX1_fits_12 : decode cX1_fits 12 = .ok (.iconst 1, 1) := by decide +kernel
theorem dX1_fits_13 : decode cX1_fits 13 = .ok (.goto 4, 3) := by decide +kernel
theorem dX1_fits_16 : decode cX1_fits 16 = .ok (.iconst 0, 1) := by decide +kernel
theorem dX1_fits_17 : decode cX1_fits 17 = .ok (.ireturn, 1) := by decide +kernel
set_option maxRecDepth 20000 in
theorem ggX1_seated_X1_all : GoodIn wsX1_seated wsX1_all := goodIn_r _ [6, 7, 8, 9, 5, 10, 1, 11, 12, 13, 14, 15, 16, 17, 18, 19, 20, 21, 22, 23, 24, 25, 26, 27, 28, 29, 30, 31, 32, 33] (by decide +kernel) (by decide +kernel)
set_option maxRecDepth 20000 in
theorem gX1_seated_X1_all : GoodIn wsX1_seated (wsV RX1 87 RX1 yX1_all wsX1_all) := goodIn_app (goodIn_of _ (by decide +kernel)) ggX1_seated_X1_all
set_option maxRecDepth 20000 in
theorem ggX1_seated_X1_seatingsWith : GoodIn wsX1_seated wsX1_seatingsWith := goodIn_r _ [10, 1, 11, 12, 13, 5, 14, 15, 16, 17, 18, 19, 20, 21, 22, 23, 24, 25, 26, 27, 28, 29, 30, 31, 32, 33] (by decide +kernel) (by decide +kernel)
set_option maxRecDepth 20000 in
theorem gX1_seated_X1_seatingsWith : GoodIn wsX1_seated (wsV RX1 84 RX1 yX1_seatingsWith wsX1_seatingsWith) := goodIn_app (goodIn_of _ (by decide +kernel)) ggX1_seated_X1_seatingsWith
theorem dX1_seated_0 : decode cX1_seated 0 = .ok (.aload_n 0, 1) := by decide +kernel
theorem dX1_seated_1 : decode cX1_seated 1 = .ok (.invokevirtual 87, 3) := by decide +kernel
theorem dX1_seated_4 : decode cX1_seated 4 = .ok (.ifCond .ne 5, 3) := by decide +kernel
theorem dX1_seated_7 : decode cX1_seated 7 = .ok (.iconst (-1), 1) := by decide +kernel
theorem dX1_seated_8 : decode cX1_seated 8 = .ok (.ireturn, 1) := by decide +kernel
theorem dX1_seated_9 : decode cX1_seated 9 = .ok (.iconst 0, 1) := by decide +kernel
theorem dX1_seated_10 : decode cX1_seated 10 = .ok (.istore_n 1, 1) := by decide +kernel
theorem dX1_seated_11 : decode cX1_seated 11 = .ok (.iconst 0, 1) := by decide +kernel
theorem dX1_seated_12 : decode cX1_seated 12 = .ok (.istore_n 2, 1) := by decide +kernel
theorem dX1_seated_13 : decode cX1_seated 13 = .ok (.iload_n 2, 1) := by decide +kernel
theorem dX1_seated_14 : decode cX1_seated 14 = .ok (.aload_n 0, 1) := by decide +kernel
theorem dX1_seated_15 : decode cX1_seated 15 = .ok (.getfield 36, 3) := by decide +kernel
theorem dX1_seated_18 : decode cX1_seated 18 = .ok (.if_icmp .ge 30, 3) := by decide +kernel
theorem dX1_seated_21 : decode cX1_seated 21 = .ok (.aload_n 0, 1) := by decide +kernel
theorem dX1_seated_22 : decode cX1_seated 22 = .ok (.iload_n 1, 1) := by decide +kernel
theorem dX1_seated_23 : decode cX1_seated 23 = .ok (.iconst 1, 1) := by decide +kernel
theorem dX1_seated_24 : decode cX1_seated 24 = .ok (.iload_n 2, 1) := by decide +kernel
theorem dX1_seated_25 : decode cX1_seated 25 = .ok (.ishl, 1) := by decide +kernel
theorem dX1_seated_26 : decode cX1_seated 26 = .ok (.ior, 1) := by decide +kernel
theorem dX1_seated_27 : decode cX1_seated 27 = .ok (.iload_n 2, 1) := by decide +kernel
theorem dX1_seated_28 : decode cX1_seated 28 = .ok (.iconst 1, 1) := by decide +kernel
theorem dX1_seated_29 : decode cX1_seated 29 = .ok (.iadd, 1) := by decide +kernel
theorem dX1_seated_30 : decode cX1_seated 30 = .ok (.invokevirtual 84, 3) := by decide +kernel
theorem dX1_seated_33 : decode cX1_seated 33 = .ok (.ifCond .le 9, 3) := by decide +kernel
theorem dX1_seated_36 : decode cX1_seated 36 = .ok (.iload_n 1, 1) := by decide +kernel
theorem dX1_seated_37 : decode cX1_seated 37 = .ok (.iconst 1, 1) := by decide +kernel
theorem dX1_seated_38 : decode cX1_seated 38 = .ok (.iload_n 2, 1) := by decide +kernel
theorem dX1_seated_39 : decode cX1_seated 39 = .ok (.ishl, 1) := by decide +kernel
theorem dX1_seated_40 : decode cX1_seated 40 = .ok (.ior, 1) := by decide +kernel
theorem dX1_seated_41 : decode cX1_seated 41 = .ok (.istore_n 1, 1) := by decide +kernel
theorem dX1_seated_42 : decode cX1_seated 42 = .ok (.iinc 2 1, 3) := by decide +kernel
theorem dX1_seated_45 : decode cX1_seated 45 = .ok (.goto (-32), 3) := by decide +kernel
theorem dX1_seated_48 : decode cX1_seated 48 = .ok (.iload_n 1, 1) := by decide +kernel
theorem dX1_seated_49 : decode cX1_seated 49 = .ok (.ireturn, 1) := by decide +kernel
set_option maxRecDepth 20000 in
theorem ggX1_seat_X1_seated : GoodIn wsX1_seat wsX1_seated := goodIn_r _ [6, 7, 8, 9, 10, 5, 11, 12, 13, 14, 15, 16, 17, 18, 19, 20, 21, 22, 23, 24, 25, 26, 27, 28, 29, 30, 31, 32, 33, 34, 35, 36, 37, 38] (by decide +kernel) (by decide +kernel)
set_option maxRecDepth 20000 in
theorem gX1_seat_X1_seated : GoodIn wsX1_seat (wsV RX1 100 RX1 yX1_seated wsX1_seated) := goodIn_app (goodIn_of _ (by decide +kernel)) ggX1_seat_X1_seated
theorem dX1_seat_0 : decode cX1_seat 0 = .ok (.aload_n 0, 1) := by decide +kernel
theorem dX1_seat_1 : decode cX1_seat 1 = .ok (.iconst 0, 1) := by decide +kernel
theorem dX1_seat_2 : decode cX1_seat 2 = .ok (.putfield 33, 3) := by decide +kernel
theorem dX1_seat_5 : decode cX1_seat 5 = .ok (.aload_n 0, 1) := by decide +kernel
theorem dX1_seat_6 : decode cX1_seat 6 = .ok (.invokevirtual 100, 3) := by decide +kernel
theorem dX1_seat_9 : decode cX1_seat 9 = .ok (.ireturn, 1) := by decide +kernel
set_option maxRecDepth 20000 in
theorem ggX1_seatings_X1_all : GoodIn wsX1_seatings wsX1_all := goodIn_r _ [6, 7, 8, 9, 5, 10, 11, 12, 13, 14, 15, 16, 17, 18, 19, 20, 21, 22, 23, 24, 25, 26, 27, 28, 29, 30, 31, 32, 33, 34] (by decide +kernel) (by decide +kernel)
set_option maxRecDepth 20000 in
theorem gX1_seatings_X1_all : GoodIn wsX1_seatings (wsV RX1 87 RX1 yX1_all wsX1_all) := goodIn_app (goodIn_of _ (by decide +kernel)) ggX1_seatings_X1_all
theorem dX1_seatings_0 : decode cX1_seatings 0 = .ok (.aload_n 0, 1) := by decide +kernel
theorem dX1_seatings_1 : decode cX1_seatings 1 = .ok (.iconst 0, 1) := by decide +kernel
theorem dX1_seatings_2 : decode cX1_seatings 2 = .ok (.putfield 33, 3) := by decide +kernel
theorem dX1_seatings_5 : decode cX1_seatings 5 = .ok (.aload_n 0, 1) := by decide +kernel
theorem dX1_seatings_6 : decode cX1_seatings 6 = .ok (.invokevirtual 87, 3) := by decide +kernel
theorem dX1_seatings_9 : decode cX1_seatings 9 = .ok (.ireturn, 1) := by decide +kernel
theorem dX1_size_0 : decode cX1_size 0 = .ok (.iconst 0, 1) := by decide +kernel
theorem dX1_size_1 : decode cX1_size 1 = .ok (.istore_n 1, 1) := by decide +kernel
theorem dX1_size_2 : decode cX1_size 2 = .ok (.iconst 0, 1) := by decide +kernel
theorem dX1_size_3 : decode cX1_size 3 = .ok (.istore_n 2, 1) := by decide +kernel
theorem dX1_size_4 : decode cX1_size 4 = .ok (.iload_n 2, 1) := by decide +kernel
theorem dX1_size_5 : decode cX1_size 5 = .ok (.bipush 10, 2) := by decide +kernel
theorem dX1_size_7 : decode cX1_size 7 = .ok (.if_icmp .ge 17, 3) := by decide +kernel
theorem dX1_size_10 : decode cX1_size 10 = .ok (.iload_n 1, 1) := by decide +kernel
theorem dX1_size_11 : decode cX1_size 11 = .ok (.iload_n 0, 1) := by decide +kernel
theorem dX1_size_12 : decode cX1_size 12 = .ok (.iload_n 2, 1) := by decide +kernel
theorem dX1_size_13 : decode cX1_size 13 = .ok (.ishr, 1) := by decide +kernel
theorem dX1_size_14 : decode cX1_size 14 = .ok (.iconst 1, 1) := by decide +kernel
theorem dX1_size_15 : decode cX1_size 15 = .ok (.iand, 1) := by decide +kernel
theorem dX1_size_16 : decode cX1_size 16 = .ok (.iadd, 1) := by decide +kernel
theorem dX1_size_17 : decode cX1_size 17 = .ok (.istore_n 1, 1) := by decide +kernel
theorem dX1_size_18 : decode cX1_size 18 = .ok (.iinc 2 1, 3) := by decide +kernel
theorem dX1_size_21 : decode cX1_size 21 = .ok (.goto (-17), 3) := by decide +kernel
theorem dX1_size_24 : decode cX1_size 24 = .ok (.iload_n 1, 1) := by decide +kernel
theorem dX1_size_25 : decode cX1_size 25 = .ok (.ireturn, 1) := by decide +kernel
set_option maxRecDepth 20000 in
theorem ggX1_fewest_X1_brokenBy : GoodIn wsX1_fewest wsX1_brokenBy := goodIn_r _ [7, 8, 9, 10, 11, 12, 13, 14, 15, 6, 16, 20, 21, 22, 23, 24, 25, 26, 27, 28, 29] (by decide +kernel) (by decide +kernel)
set_option maxRecDepth 20000 in
theorem gX1_fewest_X1_brokenBy : GoodIn wsX1_fewest (wsV RX1 81 RX1 yX1_brokenBy wsX1_brokenBy) := goodIn_app (goodIn_of _ (by decide +kernel)) ggX1_fewest_X1_brokenBy
set_option maxRecDepth 20000 in
theorem ggX1_fewest_X1_size : GoodIn wsX1_fewest wsX1_size := goodIn_r _ [19] (by decide +kernel) (by decide +kernel)
set_option maxRecDepth 20000 in
theorem gX1_fewest_X1_size : GoodIn wsX1_fewest (va_wsS RX1 103 yX1_size wsX1_size) := goodIn_app (goodIn_of _ (by decide +kernel)) ggX1_fewest_X1_size
theorem dX1_fewest_0 : decode cX1_fewest 0 = .ok (.aload_n 0, 1) := by decide +kernel
theorem dX1_fewest_1 : decode cX1_fewest 1 = .ok (.iconst 0, 1) := by decide +kernel
theorem dX1_fewest_2 : decode cX1_fewest 2 = .ok (.putfield 33, 3) := by decide +kernel
theorem dX1_fewest_5 : decode cX1_fewest 5 = .ok (.iconst (-1), 1) := by decide +kernel
theorem dX1_fewest_6 : decode cX1_fewest 6 = .ok (.istore_n 1, 1) := by decide +kernel
theorem dX1_fewest_7 : decode cX1_fewest 7 = .ok (.iconst 0, 1) := by decide +kernel
theorem dX1_fewest_8 : decode cX1_fewest 8 = .ok (.istore_n 2, 1) := by decide +kernel
theorem dX1_fewest_9 : decode cX1_fewest 9 = .ok (.iload_n 2, 1) := by decide +kernel
theorem dX1_fewest_10 : decode cX1_fewest 10 = .ok (.iconst 1, 1) := by decide +kernel
theorem dX1_fewest_11 : decode cX1_fewest 11 = .ok (.aload_n 0, 1) := by decide +kernel
theorem dX1_fewest_12 : decode cX1_fewest 12 = .ok (.getfield 36, 3) := by decide +kernel
theorem dX1_fewest_15 : decode cX1_fewest 15 = .ok (.ishl, 1) := by decide +kernel
theorem dX1_fewest_16 : decode cX1_fewest 16 = .ok (.if_icmp .ge 36, 3) := by decide +kernel
theorem dX1_fewest_19 : decode cX1_fewest 19 = .ok (.aload_n 0, 1) := by decide +kernel
theorem dX1_fewest_20 : decode cX1_fewest 20 = .ok (.iload_n 2, 1) := by decide +kernel
theorem dX1_fewest_21 : decode cX1_fewest 21 = .ok (.invokevirtual 81, 3) := by decide +kernel
theorem dX1_fewest_24 : decode cX1_fewest 24 = .ok (.iconst (-1), 1) := by decide +kernel
theorem dX1_fewest_25 : decode cX1_fewest 25 = .ok (.if_icmp .ne 21, 3) := by decide +kernel
theorem dX1_fewest_28 : decode cX1_fewest 28 = .ok (.iload_n 1, 1) := by decide +kernel
theorem dX1_fewest_29 : decode cX1_fewest 29 = .ok (.iconst (-1), 1) := by decide +kernel
theorem dX1_fewest_30 : decode cX1_fewest 30 = .ok (.if_icmp .eq 11, 3) := by decide +kernel
theorem dX1_fewest_33 : decode cX1_fewest 33 = .ok (.iload_n 2, 1) := by decide +kernel
theorem dX1_fewest_34 : decode cX1_fewest 34 = .ok (.invokestatic 103, 3) := by decide +kernel
theorem dX1_fewest_37 : decode cX1_fewest 37 = .ok (.iload_n 1, 1) := by decide +kernel
theorem dX1_fewest_38 : decode cX1_fewest 38 = .ok (.if_icmp .ge 8, 3) := by decide +kernel
theorem dX1_fewest_41 : decode cX1_fewest 41 = .ok (.iload_n 2, 1) := by decide +kernel
theorem dX1_fewest_42 : decode cX1_fewest 42 = .ok (.invokestatic 103, 3) := by decide +kernel
theorem dX1_fewest_45 : decode cX1_fewest 45 = .ok (.istore_n 1, 1) := by decide +kernel
theorem dX1_fewest_46 : decode cX1_fewest 46 = .ok (.iinc 2 1, 3) := by decide +kernel
theorem dX1_fewest_49 : decode cX1_fewest 49 = .ok (.goto (-40), 3) := by decide +kernel
theorem dX1_fewest_52 : decode cX1_fewest 52 = .ok (.iload_n 1, 1) := by decide +kernel
theorem dX1_fewest_53 : decode cX1_fewest 53 = .ok (.ireturn, 1) := by decide +kernel
set_option maxRecDepth 20000 in
theorem ggX1_most_X1_brokenBy : GoodIn wsX1_most wsX1_brokenBy := goodIn_r _ [11, 12, 13, 14, 15, 16, 17, 18, 19, 10, 20, 24, 25, 26, 27, 28, 29, 30, 31, 32, 33] (by decide +kernel) (by decide +kernel)
set_option maxRecDepth 20000 in
theorem gX1_most_X1_brokenBy : GoodIn wsX1_most (wsV RX1 81 RX1 yX1_brokenBy wsX1_brokenBy) := goodIn_app (goodIn_of _ (by decide +kernel)) ggX1_most_X1_brokenBy
set_option maxRecDepth 20000 in
theorem ggX1_most_X1_size : GoodIn wsX1_most wsX1_size := goodIn_r _ [23] (by decide +kernel) (by decide +kernel)
set_option maxRecDepth 20000 in
theorem gX1_most_X1_size : GoodIn wsX1_most (va_wsS RX1 103 yX1_size wsX1_size) := goodIn_app (goodIn_of _ (by decide +kernel)) ggX1_most_X1_size
theorem dX1_most_0 : decode cX1_most 0 = .ok (.aload_n 0, 1) := by decide +kernel
theorem dX1_most_1 : decode cX1_most 1 = .ok (.iconst 0, 1) := by decide +kernel
theorem dX1_most_2 : decode cX1_most 2 = .ok (.putfield 33, 3) := by decide +kernel
theorem dX1_most_5 : decode cX1_most 5 = .ok (.iconst (-1), 1) := by decide +kernel
theorem dX1_most_6 : decode cX1_most 6 = .ok (.istore_n 1, 1) := by decide +kernel
theorem dX1_most_7 : decode cX1_most 7 = .ok (.iconst 0, 1) := by decide +kernel
theorem dX1_most_8 : decode cX1_most 8 = .ok (.istore_n 2, 1) := by decide +kernel
theorem dX1_most_9 : decode cX1_most 9 = .ok (.iload_n 2, 1) := by decide +kernel
theorem dX1_most_10 : decode cX1_most 10 = .ok (.iconst 1, 1) := by decide +kernel
theorem dX1_most_11 : decode cX1_most 11 = .ok (.aload_n 0, 1) := by decide +kernel
theorem dX1_most_12 : decode cX1_most 12 = .ok (.getfield 36, 3) := by decide +kernel
theorem dX1_most_15 : decode cX1_most 15 = .ok (.ishl, 1) := by decide +kernel
theorem dX1_most_16 : decode cX1_most 16 = .ok (.if_icmp .ge 27, 3) := by decide +kernel
theorem dX1_most_19 : decode cX1_most 19 = .ok (.aload_n 0, 1) := by decide +kernel
theorem dX1_most_20 : decode cX1_most 20 = .ok (.iload_n 2, 1) := by decide +kernel
theorem dX1_most_21 : decode cX1_most 21 = .ok (.invokevirtual 81, 3) := by decide +kernel
theorem dX1_most_24 : decode cX1_most 24 = .ok (.iconst (-1), 1) := by decide +kernel
theorem dX1_most_25 : decode cX1_most 25 = .ok (.if_icmp .ne 12, 3) := by decide +kernel
theorem dX1_most_28 : decode cX1_most 28 = .ok (.iload_n 1, 1) := by decide +kernel
theorem dX1_most_29 : decode cX1_most 29 = .ok (.iload_n 2, 1) := by decide +kernel
theorem dX1_most_30 : decode cX1_most 30 = .ok (.invokestatic 103, 3) := by decide +kernel
theorem dX1_most_33 : decode cX1_most 33 = .ok (.invokestatic 106, 3) := by decide +kernel
theorem dX1_most_36 : decode cX1_most 36 = .ok (.istore_n 1, 1) := by decide +kernel
theorem dX1_most_37 : decode cX1_most 37 = .ok (.iinc 2 1, 3) := by decide +kernel
theorem dX1_most_40 : decode cX1_most 40 = .ok (.goto (-31), 3) := by decide +kernel
theorem dX1_most_43 : decode cX1_most 43 = .ok (.iload_n 1, 1) := by decide +kernel
theorem dX1_most_44 : decode cX1_most 44 = .ok (.ireturn, 1) := by decide +kernel
set_option maxRecDepth 20000 in
theorem ggX1_broken_X1_isIn : GoodIn wsX1_broken wsX1_isIn := goodIn_r _ [6] (by decide +kernel) (by decide +kernel)
set_option maxRecDepth 20000 in
theorem gX1_broken_X1_isIn : GoodIn wsX1_broken (va_wsS RX1 39 yX1_isIn wsX1_isIn) := goodIn_app (goodIn_of _ (by decide +kernel)) ggX1_broken_X1_isIn
set_option maxRecDepth 20000 in
theorem ggX1_broken_X1_brokenBy : GoodIn wsX1_broken wsX1_brokenBy := goodIn_r _ [10, 11, 12, 13, 14, 15, 16, 17, 18, 5, 19, 24, 25, 26, 27, 28, 29, 30, 31, 32, 33] (by decide +kernel) (by decide +kernel)
set_option maxRecDepth 20000 in
theorem gX1_broken_X1_brokenBy : GoodIn wsX1_broken (wsV RX1 81 RX1 yX1_brokenBy wsX1_brokenBy) := goodIn_app (goodIn_of _ (by decide +kernel)) ggX1_broken_X1_brokenBy
set_option maxRecDepth 20000 in
theorem ggX1_broken_X1_fail : GoodIn wsX1_broken wsX1_fail := goodIn_r _ [23, 1, 24, 25, 26, 27, 28, 29, 30, 31, 32, 33] (by decide +kernel) (by decide +kernel)
set_option maxRecDepth 20000 in
theorem gX1_broken_X1_fail : GoodIn wsX1_broken (wsV RX1 43 RX1 yX1_fail wsX1_fail) := goodIn_app (goodIn_of _ (by decide +kernel)) ggX1_broken_X1_fail
theorem dX1_broken_0 : decode cX1_broken 0 = .ok (.aload_n 0, 1) := by decide +kernel
theorem dX1_broken_1 : decode cX1_broken 1 = .ok (.iconst 0, 1) := by decide +kernel
theorem dX1_broken_2 : decode cX1_broken 2 = .ok (.putfield 33, 3) := by decide +kernel
theorem dX1_broken_5 : decode cX1_broken 5 = .ok (.iload_n 1, 1) := by decide +kernel
theorem dX1_broken_6 : decode cX1_broken 6 = .ok (.iconst 0, 1) := by decide +kernel
theorem dX1_broken_7 : decode cX1_broken 7 = .ok (.iconst 1, 1) := by decide +kernel
theorem dX1_broken_8 : decode cX1_broken 8 = .ok (.aload_n 0, 1) := by decide +kernel
theorem dX1_broken_9 : decode cX1_broken 9 = .ok (.getfield 36, 3) := by decide +kernel
theorem dX1_broken_12 : decode cX1_broken 12 = .ok (.ishl, 1) := by decide +kernel
theorem dX1_broken_13 : decode cX1_broken 13 = .ok (.iconst 1, 1) := by decide +kernel
theorem dX1_broken_14 : decode cX1_broken 14 = .ok (.isub, 1) := by decide +kernel
theorem dX1_broken_15 : decode cX1_broken 15 = .ok (.invokestatic 39, 3) := by decide +kernel
theorem dX1_broken_18 : decode cX1_broken 18 = .ok (.ifCond .eq 11, 3) := by decide +kernel
theorem dX1_broken_21 : decode cX1_broken 21 = .ok (.aload_n 0, 1) := by decide +kernel
theorem dX1_broken_22 : decode cX1_broken 22 = .ok (.iload_n 1, 1) := by decide +kernel
theorem dX1_broken_23 : decode cX1_broken 23 = .ok (.invokevirtual 81, 3) := by decide +kernel
theorem dX1_broken_26 : decode cX1_broken 26 = .ok (.goto 8, 3) := by decide +kernel
theorem dX1_broken_29 : decode cX1_broken 29 = .ok (.aload_n 0, 1) := by decide +kernel
theorem dX1_broken_30 : decode cX1_broken 30 = .ok (.iconst 1, 1) := by decide +kernel
theorem dX1_broken_31 : decode cX1_broken 31 = .ok (.invokevirtual 43, 3) := by decide +kernel
theorem dX1_broken_34 : decode cX1_broken 34 = .ok (.ireturn, 1) := by decide +kernel
set_option maxRecDepth 20000 in
theorem ggX1_blame_X1_all : GoodIn wsX1_blame wsX1_all := goodIn_r _ [8, 9, 10, 11, 7, 12, 13, 14, 15, 16, 17, 2, 3, 18, 19, 20, 21, 22, 23, 24, 25, 26, 27, 28, 29, 30, 31, 32, 33, 34] (by decide +kernel) (by decide +kernel)
set_option maxRecDepth 20000 in
theorem gX1_blame_X1_all : GoodIn wsX1_blame (wsV RX1 87 RX1 yX1_all wsX1_all) := goodIn_app (goodIn_of _ (by decide +kernel)) ggX1_blame_X1_all
theorem dX1_blame_0 : decode cX1_blame 0 = .ok (.aload_n 0, 1) := by decide +kernel
theorem dX1_blame_1 : decode cX1_blame 1 = .ok (.iconst 0, 1) := by decide +kernel
theorem dX1_blame_2 : decode cX1_blame 2 = .ok (.putfield 33, 3) := by decide +kernel
theorem dX1_blame_5 : decode cX1_blame 5 = .ok (.aload_n 0, 1) := by decide +kernel
theorem dX1_blame_6 : decode cX1_blame 6 = .ok (.invokevirtual 87, 3) := by decide +kernel
theorem dX1_blame_9 : decode cX1_blame 9 = .ok (.ifCond .le 5, 3) := by decide +kernel
theorem dX1_blame_12 : decode cX1_blame 12 = .ok (.iconst (-1), 1) := by decide +kernel
theorem dX1_blame_13 : decode cX1_blame 13 = .ok (.ireturn, 1) := by decide +kernel
theorem dX1_blame_14 : decode cX1_blame 14 = .ok (.iconst 0, 1) := by decide +kernel
theorem dX1_blame_15 : decode cX1_blame 15 = .ok (.istore_n 1, 1) := by decide +kernel
theorem dX1_blame_16 : decode cX1_blame 16 = .ok (.iload_n 1, 1) := by decide +kernel
theorem dX1_blame_17 : decode cX1_blame 17 = .ok (.aload_n 0, 1) := by decide +kernel
theorem dX1_blame_18 : decode cX1_blame 18 = .ok (.getfield 51, 3) := by decide +kernel
theorem dX1_blame_21 : decode cX1_blame 21 = .ok (.if_icmp .ge 46, 3) := by decide +kernel
theorem dX1_blame_24 : decode cX1_blame 24 = .ok (.aload_n 0, 1) := by decide +kernel
theorem dX1_blame_25 : decode cX1_blame 25 = .ok (.getfield 16, 3) := by decide +kernel
theorem dX1_blame_28 : decode cX1_blame 28 = .ok (.iload_n 1, 1) := by decide +kernel
theorem dX1_blame_29 : decode cX1_blame 29 = .ok (.baload, 1) := by decide +kernel
theorem dX1_blame_30 : decode cX1_blame 30 = .ok (.ifCond .eq 6, 3) := by decide +kernel
theorem dX1_blame_33 : decode cX1_blame 33 = .ok (.goto 28, 3) := by decide +kernel
theorem dX1_blame_36 : decode cX1_blame 36 = .ok (.aload_n 0, 1) := by decide +kernel
theorem dX1_blame_37 : decode cX1_blame 37 = .ok (.getfield 16, 3) := by decide +kernel
theorem dX1_blame_40 : decode cX1_blame 40 = .ok (.iload_n 1, 1) := by decide +kernel
theorem dX1_blame_41 : decode cX1_blame 41 = .ok (.iconst 1, 1) := by decide +kernel
theorem dX1_blame_42 : decode cX1_blame 42 = .ok (.bastore, 1) := by decide +kernel
theorem dX1_blame_43 : decode cX1_blame 43 = .ok (.aload_n 0, 1) := by decide +kernel
theorem dX1_blame_44 : decode cX1_blame 44 = .ok (.invokevirtual 87, 3) := by decide +kernel
theorem dX1_blame_47 : decode cX1_blame 47 = .ok (.istore_n 2, 1) := by decide +kernel
theorem dX1_blame_48 : decode cX1_blame 48 = .ok (.aload_n 0, 1) := by decide +kernel
theorem dX1_blame_49 : decode cX1_blame 49 = .ok (.getfield 16, 3) := by decide +kernel
theorem dX1_blame_52 : decode cX1_blame 52 = .ok (.iload_n 1, 1) := by decide +kernel
theorem dX1_blame_53 : decode cX1_blame 53 = .ok (.iconst 0, 1) := by decide +kernel
theorem dX1_blame_54 : decode cX1_blame 54 = .ok (.bastore, 1) := by decide +kernel
theorem dX1_blame_55 : decode cX1_blame 55 = .ok (.iload_n 2, 1) := by decide +kernel
theorem dX1_blame_56 : decode cX1_blame 56 = .ok (.ifCond .le 5, 3) := by decide +kernel
theorem dX1_blame_59 : decode cX1_blame 59 = .ok (.iload_n 1, 1) := by decide +kernel
theorem dX1_blame_60 : decode cX1_blame 60 = .ok (.ireturn, 1) := by decide +kernel
theorem dX1_blame_61 : decode cX1_blame 61 = .ok (.iinc 1 1, 3) := by decide +kernel
theorem dX1_blame_64 : decode cX1_blame 64 = .ok (.goto (-48), 3) := by decide +kernel
theorem dX1_blame_67 : decode cX1_blame 67 = .ok (.iconst (-1), 1) := by decide +kernel
theorem dX1_blame_68 : decode cX1_blame 68 = .ok (.ireturn, 1) := by decide +kernel
set_option maxRecDepth 20000 in
theorem ggX1_tightens_X1_isWish : GoodIn wsX1_tightens wsX1_isWish := goodIn_r _ [8, 9, 10, 11, 7, 12, 36, 37, 38, 39, 40, 41, 42, 43, 44, 45] (by decide +kernel) (by decide +kernel)
set_option maxRecDepth 20000 in
theorem gX1_tightens_X1_isWish : GoodIn wsX1_tightens (wsV RX1 47 RX1 yX1_isWish wsX1_isWish) := goodIn_app (goodIn_of _ (by decide +kernel)) ggX1_tightens_X1_isWish
set_option maxRecDepth 20000 in
theorem ggX1_tightens_X1_fail : GoodIn wsX1_tightens wsX1_fail := goodIn_r _ [16, 1, 36, 37, 38, 39, 40, 41, 42, 43, 44, 45] (by decide +kernel) (by decide +kernel)
set_option maxRecDepth 20000 in
theorem gX1_tightens_X1_fail : GoodIn wsX1_tightens (wsV RX1 43 RX1 yX1_fail wsX1_fail) := goodIn_app (goodIn_of _ (by decide +kernel)) ggX1_tightens_X1_fail
set_option maxRecDepth 20000 in
theorem ggX1_tightens_X1_all : GoodIn wsX1_tightens wsX1_all := goodIn_r _ [20, 21, 22, 23, 7, 24, 9, 25, 26, 27, 28, 29, 30, 31, 32, 2, 3, 33, 34, 35, 36, 37, 38, 39, 40, 41, 42, 43, 44, 45] (by decide +kernel) (by decide +kernel)
set_option maxRecDepth 20000 in
theorem gX1_tightens_X1_all : GoodIn wsX1_tightens (wsV RX1 87 RX1 yX1_all wsX1_all) := goodIn_app (goodIn_of _ (by decide +kernel)) ggX1_tightens_X1_all
theorem dX1_tightens_0 : decode cX1_tightens 0 = .ok (.aload_n 0, 1) := by decide +kernel
theorem dX1_tightens_1 : decode cX1_tightens 1 = .ok (.iconst 0, 1) := by decide +kernel
theorem dX1_tightens_2 : decode cX1_tightens 2 = .ok (.putfield 33, 3) := by decide +kernel
theorem dX1_tightens_5 : decode cX1_tightens 5 = .ok (.aload_n 0, 1) := by decide +kernel
theorem dX1_tightens_6 : decode cX1_tightens 6 = .ok (.iload_n 1, 1) := by decide +kernel
theorem dX1_tightens_7 : decode cX1_tightens 7 = .ok (.invokevirtual 47, 3) := by decide +kernel
theorem dX1_tightens_10 : decode cX1_tightens 10 = .ok (.ifCond .eq 11, 3) := by decide +kernel
theorem dX1_tightens_13 : decode cX1_tightens 13 = .ok (.aload_n 0, 1) := by decide +kernel
theorem dX1_tightens_14 : decode cX1_tightens 14 = .ok (.iload_n 2, 1) := by decide +kernel
theorem dX1_tightens_15 : decode cX1_tightens 15 = .ok (.invokevirtual 47, 3) := by decide +kernel
theorem dX1_tightens_18 : decode cX1_tightens 18 = .ok (.ifCond .ne 9, 3) := by decide +kernel
theorem dX1_tightens_21 : decode cX1_tightens 21 = .ok (.aload_n 0, 1) := by decide +kernel
theorem dX1_tightens_22 : decode cX1_tightens 22 = .ok (.iconst 1, 1) := by decide +kernel
theorem dX1_tightens_23 : decode cX1_tightens 23 = .ok (.invokevirtual 43, 3) := by decide +kernel
theorem dX1_tightens_26 : decode cX1_tightens 26 = .ok (.ireturn, 1) := by decide +kernel
theorem dX1_tightens_27 : decode cX1_tightens 27 = .ok (.aload_n 0, 1) := by decide +kernel
theorem dX1_tightens_28 : decode cX1_tightens 28 = .ok (.invokevirtual 87, 3) := by decide +kernel
theorem dX1_tightens_31 : decode cX1_tightens 31 = .ok (.istore_n 3, 1) := by decide +kernel
theorem dX1_tightens_32 : decode cX1_tightens 32 = .ok (.aload_n 0, 1) := by decide +kernel
theorem dX1_tightens_33 : decode cX1_tightens 33 = .ok (.iload_n 1, 1) := by decide +kernel
theorem dX1_tightens_34 : decode cX1_tightens 34 = .ok (.putfield 20, 3) := by decide +kernel
theorem dX1_tightens_37 : decode cX1_tightens 37 = .ok (.aload_n 0, 1) := by decide +kernel
theorem dX1_tightens_38 : decode cX1_tightens 38 = .ok (.iload_n 2, 1) := by decide +kernel
theorem dX1_tightens_39 : decode cX1_tightens 39 = .ok (.putfield 24, 3) := by decide +kernel
theorem dX1_tightens_42 : decode cX1_tightens 42 = .ok (.aload_n 0, 1) := by decide +kernel
theorem dX1_tightens_43 : decode cX1_tightens 43 = .ok (.invokevirtual 87, 3) := by decide +kernel
theorem dX1_tightens_46 : decode cX1_tightens 46 = .ok (.istore 4, 2) := by decide +kernel
theorem dX1_tightens_48 : decode cX1_tightens 48 = .ok (.aload_n 0, 1) := by decide +kernel
theorem dX1_tightens_49 : decode cX1_tightens 49 = .ok (.iconst (-1), 1) := by decide +kernel
theorem dX1_tightens_50 : decode cX1_tightens 50 = .ok (.putfield 20, 3) := by decide +kernel
theorem dX1_tightens_53 : decode cX1_tightens 53 = .ok (.aload_n 0, 1) := by decide +kernel
theorem dX1_tightens_54 : decode cX1_tightens 54 = .ok (.iconst (-1), 1) := by decide +kernel
theorem dX1_tightens_55 : decode cX1_tightens 55 = .ok (.putfield 24, 3) := by decide +kernel
theorem dX1_tightens_58 : decode cX1_tightens 58 = .ok (.iload_n 3, 1) := by decide +kernel
theorem dX1_tightens_59 : decode cX1_tightens 59 = .ok (.iload 4, 2) := by decide +kernel
theorem dX1_tightens_61 : decode cX1_tightens 61 = .ok (.isub, 1) := by decide +kernel
theorem dX1_tightens_62 : decode cX1_tightens 62 = .ok (.ireturn, 1) := by decide +kernel
set_option maxRecDepth 20000 in
theorem ggX1_counted_X1_isTorn : GoodIn wsX1_counted wsX1_isTorn := goodIn_r _ [8, 9, 10, 11, 7, 12, 13, 14, 15, 16, 17, 18, 19, 20, 21, 22, 23, 24, 25, 2, 3, 26, 27, 28, 29, 30, 31, 32, 33, 34, 35, 36, 37, 38, 39, 40, 41] (by decide +kernel) (by decide +kernel)
set_option maxRecDepth 20000 in
theorem gX1_counted_X1_isTorn : GoodIn wsX1_counted (wsV RX1 94 RX1 yX1_isTorn wsX1_isTorn) := goodIn_app (goodIn_of _ (by decide +kernel)) ggX1_counted_X1_isTorn
set_option maxRecDepth 20000 in
theorem ggX1_counted_X1_isVain : GoodIn wsX1_counted wsX1_isVain := goodIn_r _ [12, 13, 14, 7, 15, 16, 17, 18, 19, 20, 21, 22, 23, 24, 25, 2, 3, 26, 27, 28, 29, 30, 31, 32, 33, 34, 35, 36, 37, 38, 39, 40, 41] (by decide +kernel) (by decide +kernel)
set_option maxRecDepth 20000 in
theorem gX1_counted_X1_isVain : GoodIn wsX1_counted (wsV RX1 75 RX1 yX1_isVain wsX1_isVain) := goodIn_app (goodIn_of _ (by decide +kernel)) ggX1_counted_X1_isVain
set_option maxRecDepth 20000 in
theorem ggX1_counted_X1_spread : GoodIn wsX1_counted wsX1_spread := goodIn_r _ [24, 20, 25, 2, 3, 26, 27, 28, 29, 30, 7, 31, 13, 14, 15, 32, 33, 34, 35, 36, 37, 38, 39, 40, 41] (by decide +kernel) (by decide +kernel)
set_option maxRecDepth 20000 in
theorem gX1_counted_X1_spread : GoodIn wsX1_counted (wsV RX1 65 RX1 yX1_spread wsX1_spread) := goodIn_app (goodIn_of _ (by decide +kernel)) ggX1_counted_X1_spread
theorem dX1_counted_0 : decode cX1_counted 0 = .ok (.iconst 0, 1) := by decide +kernel
theorem dX1_counted_1 : decode cX1_counted 1 = .ok (.istore_n 2, 1) := by decide +kernel
theorem dX1_counted_2 : decode cX1_counted 2 = .ok (.iload_n 1, 1) := by decide +kernel
theorem dX1_counted_3 : decode cX1_counted 3 = .ok (.tableswitch 148 0 4 #[33, 38, 43, 78, 112], 33) := by decide +kernel
theorem dX1_counted_36 : decode cX1_counted 36 = .ok (.aload_n 0, 1) := by decide +kernel
theorem dX1_counted_37 : decode cX1_counted 37 = .ok (.getfield 36, 3) := by decide +kernel
theorem dX1_counted_40 : decode cX1_counted 40 = .ok (.ireturn, 1) := by decide +kernel
theorem dX1_counted_41 : decode cX1_counted 41 = .ok (.aload_n 0, 1) := by decide +kernel
theorem dX1_counted_42 : decode cX1_counted 42 = .ok (.getfield 51, 3) := by decide +kernel
theorem dX1_counted_45 : decode cX1_counted 45 = .ok (.ireturn, 1) := by decide +kernel
theorem dX1_counted_46 : decode cX1_counted 46 = .ok (.iconst 0, 1) := by decide +kernel
theorem dX1_counted_47 : decode cX1_counted 47 = .ok (.istore_n 3, 1) := by decide +kernel
theorem dX1_counted_48 : decode cX1_counted 48 = .ok (.iload_n 3, 1) := by decide +kernel
theorem dX1_counted_49 : decode cX1_counted 49 = .ok (.aload_n 0, 1) := by decide +kernel
theorem dX1_counted_50 : decode cX1_counted 50 = .ok (.getfield 51, 3) := by decide +kernel
theorem dX1_counted_53 : decode cX1_counted 53 = .ok (.if_icmp .ge 26, 3) := by decide +kernel
theorem dX1_counted_56 : decode cX1_counted 56 = .ok (.iload_n 2, 1) := by decide +kernel
theorem dX1_counted_57 : decode cX1_counted 57 = .ok (.aload_n 0, 1) := by decide +kernel
theorem dX1_counted_58 : decode cX1_counted 58 = .ok (.getfield 16, 3) := by decide +kernel
theorem dX1_counted_61 : decode cX1_counted 61 = .ok (.iload_n 3, 1) := by decide +kernel
theorem dX1_counted_62 : decode cX1_counted 62 = .ok (.baload, 1) := by decide +kernel
theorem dX1_counted_63 : decode cX1_counted 63 = .ok (.ifCond .eq 7, 3) := by decide +kernel
theorem dX1_counted_66 : decode cX1_counted 66 = .ok (.iconst 0, 1) := by decide +kernel
theorem dX1_counted_67 : decode cX1_counted 67 = .ok (.goto 4, 3) := by decide +kernel
theorem dX1_counted_70 : decode cX1_counted 70 = .ok (.iconst 1, 1) := by decide +kernel
theorem dX1_counted_71 : decode cX1_counted 71 = .ok (.iadd, 1) := by decide +kernel
theorem dX1_counted_72 : decode cX1_counted 72 = .ok (.istore_n 2, 1) := by decide +kernel
theorem dX1_counted_73 : decode cX1_counted 73 = .ok (.iinc 3 1, 3) := by decide +kernel
theorem dX1_counted_76 : decode cX1_counted 76 = .ok (.goto (-28), 3) := by decide +kernel
theorem dX1_counted_79 : decode cX1_counted 79 = .ok (.iload_n 2, 1) := by decide +kernel
theorem dX1_counted_80 : decode cX1_counted 80 = .ok (.ireturn, 1) := by decide +kernel
theorem dX1_counted_81 : decode cX1_counted 81 = .ok (.iconst 0, 1) := by decide +kernel
theorem dX1_counted_82 : decode cX1_counted 82 = .ok (.istore_n 3, 1) := by decide +kernel
theorem dX1_counted_83 : decode cX1_counted 83 = .ok (.iload_n 3, 1) := by decide +kernel
theorem dX1_counted_84 : decode cX1_counted 84 = .ok (.aload_n 0, 1) := by decide +kernel
theorem dX1_counted_85 : decode cX1_counted 85 = .ok (.getfield 36, 3) := by decide +kernel
theorem dX1_counted_88 : decode cX1_counted 88 = .ok (.if_icmp .ge 25, 3) := by decide +kernel
theorem dX1_counted_91 : decode cX1_counted 91 = .ok (.iload_n 2, 1) := by decide +kernel
theorem dX1_counted_92 : decode cX1_counted 92 = .ok (.aload_n 0, 1) := by decide +kernel
theorem dX1_counted_93 : decode cX1_counted 93 = .ok (.iload_n 3, 1) := by decide +kernel
theorem dX1_counted_94 : decode cX1_counted 94 = .ok (.invokevirtual 94, 3) := by decide +kernel
theorem dX1_counted_97 : decode cX1_counted 97 = .ok (.ifCond .eq 7, 3) := by decide +kernel
theorem dX1_counted_100 : decode cX1_counted 100 = .ok (.iconst 1, 1) := by decide +kernel
theorem dX1_counted_101 : decode cX1_counted 101 = .ok (.goto 4, 3) := by decide +kernel
theorem dX1_counted_104 : decode cX1_counted 104 = .ok (.iconst 0, 1) := by decide +kernel
theorem dX1_counted_105 : decode cX1_counted 105 = .ok (.iadd, 1) := by decide +kernel
theorem dX1_counted_106 : decode cX1_counted 106 = .ok (.istore_n 2, 1) := by decide +kernel
theorem dX1_counted_107 : decode cX1_counted 107 = .ok (.iinc 3 1, 3) := by decide +kernel
theorem dX1_counted_110 : decode cX1_counted 110 = .ok (.goto (-27), 3) := by decide +kernel
theorem dX1_counted_113 : decode cX1_counted 113 = .ok (.iload_n 2, 1) := by decide +kernel
theorem dX1_counted_114 : decode cX1_counted 114 = .ok (.ireturn, 1) := by decide +kernel
theorem dX1_counted_115 : decode cX1_counted 115 = .ok (.iconst 0, 1) := by decide +kernel
theorem dX1_counted_116 : decode cX1_counted 116 = .ok (.istore_n 3, 1) := by decide +kernel
theorem dX1_counted_117 : decode cX1_counted 117 = .ok (.iload_n 3, 1) := by decide +kernel
theorem dX1_counted_118 : decode cX1_counted 118 = .ok (.iconst 2, 1) := by decide +kernel
theorem dX1_counted_119 : decode cX1_counted 119 = .ok (.aload_n 0, 1) := by decide +kernel
theorem dX1_counted_120 : decode cX1_counted 120 = .ok (.getfield 36, 3) := by decide +kernel
theorem dX1_counted_123 : decode cX1_counted 123 = .ok (.imul, 1) := by decide +kernel
theorem dX1_counted_124 : decode cX1_counted 124 = .ok (.if_icmp .ge 25, 3) := by decide +kernel
theorem dX1_counted_127 : decode cX1_counted 127 = .ok (.iload_n 2, 1) := by decide +kernel
theorem dX1_counted_128 : decode cX1_counted 128 = .ok (.aload_n 0, 1) := by decide +kernel
theorem dX1_counted_129 : decode cX1_counted 129 = .ok (.iload_n 3, 1) := by decide +kernel
theorem dX1_counted_130 : decode cX1_counted 130 = .ok (.invokevirtual 75, 3) := by decide +kernel
theorem dX1_counted_133 : decode cX1_counted 133 = .ok (.ifCond .eq 7, 3) := by decide +kernel
theorem dX1_counted_136 : decode cX1_counted 136 = .ok (.iconst 1, 1) := by decide +kernel
theorem dX1_counted_137 : decode cX1_counted 137 = .ok (.goto 4, 3) := by decide +kernel
theorem dX1_counted_140 : decode cX1_counted 140 = .ok (.iconst 0, 1) := by decide +kernel
theorem dX1_counted_141 : decode cX1_counted 141 = .ok (.iadd, 1) := by decide +kernel
theorem dX1_counted_142 : decode cX1_counted 142 = .ok (.istore_n 2, 1) := by decide +kernel
theorem dX1_counted_143 : decode cX1_counted 143 = .ok (.iinc 3 1, 3) := by decide +kernel
theorem dX1_counted_146 : decode cX1_counted 146 = .ok (.goto (-29), 3) := by decide +kernel
theorem dX1_counted_149 : decode cX1_counted 149 = .ok (.iload_n 2, 1) := by decide +kernel
theorem dX1_counted_150 : decode cX1_counted 150 = .ok (.ireturn, 1) := by decide +kernel
theorem dX1_counted_151 : decode cX1_counted 151 = .ok (.iconst 0, 1) := by decide +kernel
theorem dX1_counted_152 : decode cX1_counted 152 = .ok (.istore_n 3, 1) := by decide +kernel
theorem dX1_counted_153 : decode cX1_counted 153 = .ok (.iload_n 3, 1) := by decide +kernel
theorem dX1_counted_154 : decode cX1_counted 154 = .ok (.iconst 2, 1) := by decide +kernel
theorem dX1_counted_155 : decode cX1_counted 155 = .ok (.aload_n 0, 1) := by decide +kernel
theorem dX1_counted_156 : decode cX1_counted 156 = .ok (.getfield 36, 3) := by decide +kernel
theorem dX1_counted_159 : decode cX1_counted 159 = .ok (.imul, 1) := by decide +kernel
theorem dX1_counted_160 : decode cX1_counted 160 = .ok (.if_icmp .ge 19, 3) := by decide +kernel
theorem dX1_counted_163 : decode cX1_counted 163 = .ok (.iload_n 2, 1) := by decide +kernel
theorem dX1_counted_164 : decode cX1_counted 164 = .ok (.aload_n 0, 1) := by decide +kernel
theorem dX1_counted_165 : decode cX1_counted 165 = .ok (.iload_n 3, 1) := by decide +kernel
theorem dX1_counted_166 : decode cX1_counted 166 = .ok (.invokevirtual 65, 3) := by decide +kernel
theorem dX1_counted_169 : decode cX1_counted 169 = .ok (.iconst 1, 1) := by decide +kernel
theorem dX1_counted_170 : decode cX1_counted 170 = .ok (.isub, 1) := by decide +kernel
theorem dX1_counted_171 : decode cX1_counted 171 = .ok (.iadd, 1) := by decide +kernel
theorem dX1_counted_172 : decode cX1_counted 172 = .ok (.istore_n 2, 1) := by decide +kernel
theorem dX1_counted_173 : decode cX1_counted 173 = .ok (.iinc 3 1, 3) := by decide +kernel
theorem dX1_counted_176 : decode cX1_counted 176 = .ok (.goto (-23), 3) := by decide +kernel
theorem dX1_counted_179 : decode cX1_counted 179 = .ok (.iload_n 2, 1) := by decide +kernel
theorem dX1_counted_180 : decode cX1_counted 180 = .ok (.ireturn, 1) := by decide +kernel
set_option maxRecDepth 20000 in
theorem ggX1_count_X1_isIn : GoodIn wsX1_count wsX1_isIn := goodIn_r _ [5] (by decide +kernel) (by decide +kernel)
set_option maxRecDepth 20000 in
theorem gX1_count_X1_isIn : GoodIn wsX1_count (va_wsS RX1 39 yX1_isIn wsX1_isIn) := goodIn_app (goodIn_of _ (by decide +kernel)) ggX1_count_X1_isIn
set_option maxRecDepth 20000 in
theorem ggX1_count_X1_counted : GoodIn wsX1_count wsX1_counted := goodIn_r _ [9, 10, 11, 12, 13, 14, 15, 4, 16, 17, 18, 19, 20, 21, 22, 23, 24, 25, 26, 27, 28, 29, 30, 31, 32, 33, 34, 35, 36, 37, 38, 39, 44, 45, 46, 47, 48, 49, 50, 51, 52, 53] (by decide +kernel) (by decide +kernel)
set_option maxRecDepth 20000 in
theorem gX1_count_X1_counted : GoodIn wsX1_count (wsV RX1 111 RX1 yX1_counted wsX1_counted) := goodIn_app (goodIn_of _ (by decide +kernel)) ggX1_count_X1_counted
set_option maxRecDepth 20000 in
theorem ggX1_count_X1_fail : GoodIn wsX1_count wsX1_fail := goodIn_r _ [43, 1, 44, 45, 46, 47, 48, 49, 50, 51, 52, 53] (by decide +kernel) (by decide +kernel)
set_option maxRecDepth 20000 in
theorem gX1_count_X1_fail : GoodIn wsX1_count (wsV RX1 43 RX1 yX1_fail wsX1_fail) := goodIn_app (goodIn_of _ (by decide +kernel)) ggX1_count_X1_fail
theorem dX1_count_0 : decode cX1_count 0 = .ok (.aload_n 0, 1) := by decide +kernel
theorem dX1_count_1 : decode cX1_count 1 = .ok (.iconst 0, 1) := by decide +kernel
theorem dX1_count_2 : decode cX1_count 2 = .ok (.putfield 33, 3) := by decide +kernel
theorem dX1_count_5 : decode cX1_count 5 = .ok (.iload_n 1, 1) := by decide +kernel
theorem dX1_count_6 : decode cX1_count 6 = .ok (.iconst 0, 1) := by decide +kernel
theorem dX1_count_7 : decode cX1_count 7 = .ok (.iconst 5, 1) := by decide +kernel
theorem dX1_count_8 : decode cX1_count 8 = .ok (.invokestatic 39, 3) := by decide +kernel
theorem dX1_count_11 : decode cX1_count 11 = .ok (.ifCond .eq 11, 3) := by decide +kernel
theorem dX1_count_14 : decode cX1_count 14 = .ok (.aload_n 0, 1) := by decide +kernel
theorem dX1_count_15 : decode cX1_count 15 = .ok (.iload_n 1, 1) := by decide +kernel
theorem dX1_count_16 : decode cX1_count 16 = .ok (.invokevirtual 111, 3) := by decide +kernel
theorem dX1_count_19 : decode cX1_count 19 = .ok (.goto 8, 3) := by decide +kernel
theorem dX1_count_22 : decode cX1_count 22 = .ok (.aload_n 0, 1) := by decide +kernel
theorem dX1_count_23 : decode cX1_count 23 = .ok (.iconst 1, 1) := by decide +kernel
theorem dX1_count_24 : decode cX1_count 24 = .ok (.invokevirtual 43, 3) := by decide +kernel
theorem dX1_count_27 : decode cX1_count 27 = .ok (.ireturn, 1) := by decide +kernel
set_option maxRecDepth 20000 in
theorem ggX1_mean_X1_brokenBy : GoodIn wsX1_mean wsX1_brokenBy := goodIn_r _ [7, 8, 9, 10, 11, 12, 13, 14, 15, 6, 16, 28, 29, 30, 31, 32, 33, 34, 35, 36, 37] (by decide +kernel) (by decide +kernel)
set_option maxRecDepth 20000 in
theorem gX1_mean_X1_brokenBy : GoodIn wsX1_mean (wsV RX1 81 RX1 yX1_brokenBy wsX1_brokenBy) := goodIn_app (goodIn_of _ (by decide +kernel)) ggX1_mean_X1_brokenBy
set_option maxRecDepth 20000 in
theorem ggX1_mean_X1_size : GoodIn wsX1_mean wsX1_size := goodIn_r _ [19] (by decide +kernel) (by decide +kernel)
set_option maxRecDepth 20000 in
theorem gX1_mean_X1_size : GoodIn wsX1_mean (va_wsS RX1 103 yX1_size wsX1_size) := goodIn_app (goodIn_of _ (by decide +kernel)) ggX1_mean_X1_size
set_option maxRecDepth 20000 in
theorem ggX1_mean_X1_all : GoodIn wsX1_mean wsX1_all := goodIn_r _ [23, 24, 25, 26, 6, 27, 2, 3, 4, 5, 7, 8, 9, 10, 11, 12, 13, 14, 15, 16, 28, 29, 30, 31, 32, 33, 34, 35, 36, 37] (by decide +kernel) (by decide +kernel)
set_option maxRecDepth 20000 in
theorem gX1_mean_X1_all : GoodIn wsX1_mean (wsV RX1 87 RX1 yX1_all wsX1_all) := goodIn_app (goodIn_of _ (by decide +kernel)) ggX1_mean_X1_all
theorem dX1_mean_0 : decode cX1_mean 0 = .ok (.aload_n 0, 1) := by decide +kernel
theorem dX1_mean_1 : decode cX1_mean 1 = .ok (.iconst 0, 1) := by decide +kernel
theorem dX1_mean_2 : decode cX1_mean 2 = .ok (.putfield 33, 3) := by decide +kernel
theorem dX1_mean_5 : decode cX1_mean 5 = .ok (.iconst 0, 1) := by decide +kernel
theorem dX1_mean_6 : decode cX1_mean 6 = .ok (.istore_n 1, 1) := by decide +kernel
theorem dX1_mean_7 : decode cX1_mean 7 = .ok (.iconst 0, 1) := by decide +kernel
theorem dX1_mean_8 : decode cX1_mean 8 = .ok (.istore_n 2, 1) := by decide +kernel
theorem dX1_mean_9 : decode cX1_mean 9 = .ok (.iload_n 2, 1) := by decide +kernel
theorem dX1_mean_10 : decode cX1_mean 10 = .ok (.iconst 1, 1) := by decide +kernel
theorem dX1_mean_11 : decode cX1_mean 11 = .ok (.aload_n 0, 1) := by decide +kernel
theorem dX1_mean_12 : decode cX1_mean 12 = .ok (.getfield 36, 3) := by decide +kernel
theorem dX1_mean_15 : decode cX1_mean 15 = .ok (.ishl, 1) := by decide +kernel
theorem dX1_mean_16 : decode cX1_mean 16 = .ok (.if_icmp .ge 29, 3) := by decide +kernel
theorem dX1_mean_19 : decode cX1_mean 19 = .ok (.iload_n 1, 1) := by decide +kernel
theorem dX1_mean_20 : decode cX1_mean 20 = .ok (.aload_n 0, 1) := by decide +kernel
theorem dX1_mean_21 : decode cX1_mean 21 = .ok (.iload_n 2, 1) := by decide +kernel
theorem dX1_mean_22 : decode cX1_mean 22 = .ok (.invokevirtual 81, 3) := by decide +kernel
theorem dX1_mean_25 : decode cX1_mean 25 = .ok (.iconst (-1), 1) := by decide +kernel
theorem dX1_mean_26 : decode cX1_mean 26 = .ok (.if_icmp .ne 10, 3) := by decide +kernel
theorem dX1_mean_29 : decode cX1_mean 29 = .ok (.iload_n 2, 1) := by decide +kernel
theorem dX1_mean_30 : decode cX1_mean 30 = .ok (.invokestatic 103, 3) := by decide +kernel
theorem dX1_mean_33 : decode cX1_mean 33 = .ok (.goto 4, 3) := by decide +kernel
theorem dX1_mean_36 : decode cX1_mean 36 = .ok (.iconst 0, 1) := by decide +kernel
theorem dX1_mean_37 : decode cX1_mean 37 = .ok (.iadd, 1) := by decide +kernel
theorem dX1_mean_38 : decode cX1_mean 38 = .ok (.istore_n 1, 1) := by decide +kernel
theorem dX1_mean_39 : decode cX1_mean 39 = .ok (.iinc 2 1, 3) := by decide +kernel
theorem dX1_mean_42 : decode cX1_mean 42 = .ok (.goto (-33), 3) := by decide +kernel
theorem dX1_mean_45 : decode cX1_mean 45 = .ok (.aload_n 0, 1) := by decide +kernel
theorem dX1_mean_46 : decode cX1_mean 46 = .ok (.invokevirtual 87, 3) := by decide +kernel
theorem dX1_mean_49 : decode cX1_mean 49 = .ok (.ifCond .ne 7, 3) := by decide +kernel
theorem dX1_mean_52 : decode cX1_mean 52 = .ok (.dconst 0, 1) := by decide +kernel
theorem dX1_mean_53 : decode cX1_mean 53 = .ok (.goto 11, 3) := by decide +kernel
theorem dX1_mean_56 : decode cX1_mean 56 = .ok (.iload_n 1, 1) := by decide +kernel
theorem dX1_mean_57 : decode cX1_mean 57 = .ok (.i2d, 1) := by decide +kernel
theorem dX1_mean_58 : decode cX1_mean 58 = .ok (.aload_n 0, 1) := by decide +kernel
theorem dX1_mean_59 : decode cX1_mean 59 = .ok (.invokevirtual 87, 3) := by decide +kernel
theorem dX1_mean_62 : decode cX1_mean 62 = .ok (.i2d, 1) := by decide +kernel
theorem dX1_mean_63 : decode cX1_mean 63 = .ok (.ddiv, 1) := by decide +kernel
theorem dX1_mean_64 : decode cX1_mean 64 = .ok (.dreturn, 1) := by decide +kernel
set_option maxRecDepth 20000 in
theorem ggX1_digest_X1_counted : GoodIn wsX1_digest wsX1_counted := goodIn_r _ [10, 5, 4, 11, 12, 13, 14, 9, 15, 16, 17, 18, 19, 20, 21, 22, 23, 24, 25, 26, 27, 28, 29, 30, 31, 32, 33, 34, 35, 36, 37, 38, 76, 77, 78, 79, 80, 81, 82, 83, 84, 85] (by decide +kernel) (by decide +kernel)
set_option maxRecDepth 20000 in
theorem gX1_digest_X1_counted : GoodIn wsX1_digest (wsV RX1 111 RX1 yX1_counted wsX1_counted) := goodIn_app (goodIn_of _ (by decide +kernel)) ggX1_digest_X1_counted
set_option maxRecDepth 20000 in
theorem ggX1_digest_X1_ruleTold : GoodIn wsX1_digest wsX1_ruleTold := goodIn_r _ [42, 33, 34, 11, 76, 77, 78, 79, 80, 81, 82, 83, 84, 85] (by decide +kernel) (by decide +kernel)
set_option maxRecDepth 20000 in
theorem gX1_digest_X1_ruleTold : GoodIn wsX1_digest (wsV RX1 54 RX1 yX1_ruleTold wsX1_ruleTold) := goodIn_app (goodIn_of _ (by decide +kernel)) ggX1_digest_X1_ruleTold
set_option maxRecDepth 20000 in
theorem ggX1_digest_X1_reachOf : GoodIn wsX1_digest wsX1_reachOf := goodIn_r _ [46, 5, 27, 28, 29, 30, 9, 31, 32, 4, 11, 33, 34, 35, 36, 37, 38, 20, 21, 22, 76, 77, 78, 79, 80, 81, 82, 83, 84, 85] (by decide +kernel) (by decide +kernel)
set_option maxRecDepth 20000 in
theorem gX1_digest_X1_reachOf : GoodIn wsX1_digest (wsV RX1 72 RX1 yX1_reachOf wsX1_reachOf) := goodIn_app (goodIn_of _ (by decide +kernel)) ggX1_digest_X1_reachOf
set_option maxRecDepth 20000 in
theorem ggX1_digest_X1_guestTold : GoodIn wsX1_digest wsX1_guestTold := goodIn_r _ [50, 5, 51, 52, 53, 9, 54, 55, 56, 57, 58, 59, 60, 61, 62, 63, 64, 65, 66, 4, 11, 33, 34, 67, 68, 69, 70, 71, 12, 13, 14, 15, 16, 17, 18, 19, 20, 21, 22, 23, 24, 25, 26, 27, 28, 29, 30, 31, 32, 35, 36, 37, 38, 76, 77, 78, 79, 80, 81, 82, 83, 84, 85] (by decide +kernel) (by decide +kernel)
set_option maxRecDepth 20000 in
theorem gX1_digest_X1_guestTold : GoodIn wsX1_digest (wsV RX1 97 RX1 yX1_guestTold wsX1_guestTold) := goodIn_app (goodIn_of _ (by decide +kernel)) ggX1_digest_X1_guestTold
set_option maxRecDepth 20000 in
theorem ggX1_digest_X1_seated : GoodIn wsX1_digest wsX1_seated := goodIn_r _ [75, 5, 55, 56, 57, 9, 58, 59, 60, 61, 62, 63, 64, 65, 66, 4, 11, 33, 34, 67, 68, 69, 70, 71, 76, 77, 78, 79, 80, 81, 82, 83, 84, 85] (by decide +kernel) (by decide +kernel)
set_option maxRecDepth 20000 in
theorem gX1_digest_X1_seated : GoodIn wsX1_digest (wsV RX1 100 RX1 yX1_seated wsX1_seated) := goodIn_app (goodIn_of _ (by decide +kernel)) ggX1_digest_X1_seated
set_option maxRecDepth 20000 in
theorem ggX1_digest_X1_all : GoodIn wsX1_digest wsX1_all := goodIn_r _ [58, 59, 60, 61, 9, 62, 5, 63, 64, 65, 66, 4, 11, 33, 34, 67, 68, 69, 70, 71, 76, 77, 78, 79, 80, 81, 82, 83, 84, 85] (by decide +kernel) (by decide +kernel)
set_option maxRecDepth 20000 in
theorem gX1_digest_X1_all : GoodIn wsX1_digest (wsV RX1 87 RX1 yX1_all wsX1_all) := goodIn_app (goodIn_of _ (by decide +kernel)) ggX1_digest_X1_all
theorem dX1_digest_0 : decode cX1_digest 0 = .ok (.aload_n 0, 1) := by decide +kernel
theorem dX1_digest_1 : decode cX1_digest 1 = .ok (.iconst 0, 1) := by decide +kernel
theorem dX1_digest_2 : decode cX1_digest 2 = .ok (.putfield 33, 3) := by decide +kernel
theorem dX1_digest_5 : decode cX1_digest 5 = .ok (.ldc2_w 114, 3) := by decide +kernel
theorem dX1_digest_8 : decode cX1_digest 8 = .ok (.lstore_n 1, 1) := by decide +kernel
theorem dX1_digest_9 : decode cX1_digest 9 = .ok (.iconst 0, 1) := by decide +kernel
theorem dX1_digest_10 : decode cX1_digest 10 = .ok (.istore_n 3, 1) := by decide +kernel
theorem dX1_digest_11 : decode cX1_digest 11 = .ok (.iload_n 3, 1) := by decide +kernel
theorem dX1_digest_12 : decode cX1_digest 12 = .ok (.bipush 6, 2) := by decide +kernel
theorem dX1_digest_14 : decode cX1_digest 14 = .ok (.if_icmp .ge 22, 3) := by decide +kernel
theorem dX1_digest_17 : decode cX1_digest 17 = .ok (.lload_n 1, 1) := by decide +kernel
theorem dX1_digest_18 : decode cX1_digest 18 = .ok (.ldc2_w 116, 3) := by decide +kernel
theorem dX1_digest_21 : decode cX1_digest 21 = .ok (.lmul, 1) := by decide +kernel
theorem dX1_digest_22 : decode cX1_digest 22 = .ok (.aload_n 0, 1) := by decide +kernel
theorem dX1_digest_23 : decode cX1_digest 23 = .ok (.iload_n 3, 1) := by decide +kernel
theorem dX1_digest_24 : decode cX1_digest 24 = .ok (.invokevirtual 111, 3) := by decide +kernel
theorem dX1_digest_27 : decode cX1_digest 27 = .ok (.i2l, 1) := by decide +kernel
theorem dX1_digest_28 : decode cX1_digest 28 = .ok (.ladd, 1) := by decide +kernel
theorem dX1_digest_29 : decode cX1_digest 29 = .ok (.lstore_n 1, 1) := by decide +kernel
theorem dX1_digest_30 : decode cX1_digest 30 = .ok (.iinc 3 1, 3) := by decide +kernel
theorem dX1_digest_33 : decode cX1_digest 33 = .ok (.goto (-22), 3) := by decide +kernel
theorem dX1_digest_36 : decode cX1_digest 36 = .ok (.iconst 0, 1) := by decide +kernel
theorem dX1_digest_37 : decode cX1_digest 37 = .ok (.istore_n 3, 1) := by decide +kernel
theorem dX1_digest_38 : decode cX1_digest 38 = .ok (.iload_n 3, 1) := by decide +kernel
theorem dX1_digest_39 : decode cX1_digest 39 = .ok (.aload_n 0, 1) := by decide +kernel
theorem dX1_digest_40 : decode cX1_digest 40 = .ok (.getfield 51, 3) := by decide +kernel
theorem dX1_digest_43 : decode cX1_digest 43 = .ok (.if_icmp .ge 39, 3) := by decide +kernel
theorem dX1_digest_46 : decode cX1_digest 46 = .ok (.iconst 0, 1) := by decide +kernel
theorem dX1_digest_47 : decode cX1_digest 47 = .ok (.istore 4, 2) := by decide +kernel
theorem dX1_digest_49 : decode cX1_digest 49 = .ok (.iload 4, 2) := by decide +kernel
theorem dX1_digest_51 : decode cX1_digest 51 = .ok (.iconst 3, 1) := by decide +kernel
theorem dX1_digest_52 : decode cX1_digest 52 = .ok (.if_icmp .ge 24, 3) := by decide +kernel
theorem dX1_digest_55 : decode cX1_digest 55 = .ok (.lload_n 1, 1) := by decide +kernel
theorem dX1_digest_56 : decode cX1_digest 56 = .ok (.ldc2_w 116, 3) := by decide +kernel
theorem dX1_digest_59 : decode cX1_digest 59 = .ok (.lmul, 1) := by decide +kernel
theorem dX1_digest_60 : decode cX1_digest 60 = .ok (.aload_n 0, 1) := by decide +kernel
theorem dX1_digest_61 : decode cX1_digest 61 = .ok (.iload_n 3, 1) := by decide +kernel
theorem dX1_digest_62 : decode cX1_digest 62 = .ok (.iload 4, 2) := by decide +kernel
theorem dX1_digest_64 : decode cX1_digest 64 = .ok (.invokevirtual 54, 3) := by decide +kernel
theorem dX1_digest_67 : decode cX1_digest 67 = .ok (.i2l, 1) := by decide +kernel
theorem dX1_digest_68 : decode cX1_digest 68 = .ok (.ladd, 1) := by decide +kernel
theorem dX1_digest_69 : decode cX1_digest 69 = .ok (.lstore_n 1, 1) := by decide +kernel
theorem dX1_digest_70 : decode cX1_digest 70 = .ok (.iinc 4 1, 3) := by decide +kernel
theorem dX1_digest_73 : decode cX1_digest 73 = .ok (.goto (-24), 3) := by decide +kernel
theorem dX1_digest_76 : decode cX1_digest 76 = .ok (.iinc 3 1, 3) := by decide +kernel
theorem dX1_digest_79 : decode cX1_digest 79 = .ok (.goto (-41), 3) := by decide +kernel
theorem dX1_digest_82 : decode cX1_digest 82 = .ok (.iconst 0, 1) := by decide +kernel
theorem dX1_digest_83 : decode cX1_digest 83 = .ok (.istore_n 3, 1) := by decide +kernel
theorem dX1_digest_84 : decode cX1_digest 84 = .ok (.iload_n 3, 1) := by decide +kernel
theorem dX1_digest_85 : decode cX1_digest 85 = .ok (.iconst 2, 1) := by decide +kernel
theorem dX1_digest_86 : decode cX1_digest 86 = .ok (.aload_n 0, 1) := by decide +kernel
theorem dX1_digest_87 : decode cX1_digest 87 = .ok (.getfield 36, 3) := by decide +kernel
theorem dX1_digest_90 : decode cX1_digest 90 = .ok (.imul, 1) := by decide +kernel
theorem dX1_digest_91 : decode cX1_digest 91 = .ok (.if_icmp .ge 22, 3) := by decide +kernel
theorem dX1_digest_94 : decode cX1_digest 94 = .ok (.lload_n 1, 1) := by decide +kernel
theorem dX1_digest_95 : decode cX1_digest 95 = .ok (.ldc2_w 116, 3) := by decide +kernel
theorem dX1_digest_98 : decode cX1_digest 98 = .ok (.lmul, 1) := by decide +kernel
theorem dX1_digest_99 : decode cX1_digest 99 = .ok (.aload_n 0, 1) := by decide +kernel
theorem dX1_digest_100 : decode cX1_digest 100 = .ok (.iload_n 3, 1) := by decide +kernel
theorem dX1_digest_101 : decode cX1_digest 101 = .ok (.invokevirtual 72, 3) := by decide +kernel
theorem dX1_digest_104 : decode cX1_digest 104 = .ok (.i2l, 1) := by decide +kernel
theorem dX1_digest_105 : decode cX1_digest 105 = .ok (.ladd, 1) := by decide +kernel
theorem dX1_digest_106 : decode cX1_digest 106 = .ok (.lstore_n 1, 1) := by decide +kernel
theorem dX1_digest_107 : decode cX1_digest 107 = .ok (.iinc 3 1, 3) := by decide +kernel
theorem dX1_digest_110 : decode cX1_digest 110 = .ok (.goto (-26), 3) := by decide +kernel
theorem dX1_digest_113 : decode cX1_digest 113 = .ok (.iconst 0, 1) := by decide +kernel
theorem dX1_digest_114 : decode cX1_digest 114 = .ok (.istore_n 3, 1) := by decide +kernel
theorem dX1_digest_115 : decode cX1_digest 115 = .ok (.iload_n 3, 1) := by decide +kernel
theorem dX1_digest_116 : decode cX1_digest 116 = .ok (.aload_n 0, 1) := by decide +kernel
theorem dX1_digest_117 : decode cX1_digest 117 = .ok (.getfield 36, 3) := by decide +kernel
theorem dX1_digest_120 : decode cX1_digest 120 = .ok (.if_icmp .ge 39, 3) := by decide +kernel
theorem dX1_digest_123 : decode cX1_digest 123 = .ok (.iconst 0, 1) := by decide +kernel
theorem dX1_digest_124 : decode cX1_digest 124 = .ok (.istore 4, 2) := by decide +kernel
theorem dX1_digest_126 : decode cX1_digest 126 = .ok (.iload 4, 2) := by decide +kernel
theorem dX1_digest_128 : decode cX1_digest 128 = .ok (.iconst 4, 1) := by decide +kernel
theorem dX1_digest_129 : decode cX1_digest 129 = .ok (.if_icmp .ge 24, 3) := by decide +kernel
theorem dX1_digest_132 : decode cX1_digest 132 = .ok (.lload_n 1, 1) := by decide +kernel
theorem dX1_digest_133 : decode cX1_digest 133 = .ok (.ldc2_w 116, 3) := by decide +kernel
theorem dX1_digest_136 : decode cX1_digest 136 = .ok (.lmul, 1) := by decide +kernel
theorem dX1_digest_137 : decode cX1_digest 137 = .ok (.aload_n 0, 1) := by decide +kernel
theorem dX1_digest_138 : decode cX1_digest 138 = .ok (.iload_n 3, 1) := by decide +kernel
theorem dX1_digest_139 : decode cX1_digest 139 = .ok (.iload 4, 2) := by decide +kernel
theorem dX1_digest_141 : decode cX1_digest 141 = .ok (.invokevirtual 97, 3) := by decide +kernel
theorem dX1_digest_144 : decode cX1_digest 144 = .ok (.i2l, 1) := by decide +kernel
theorem dX1_digest_145 : decode cX1_digest 145 = .ok (.ladd, 1) := by decide +kernel
theorem dX1_digest_146 : decode cX1_digest 146 = .ok (.lstore_n 1, 1) := by decide +kernel
theorem dX1_digest_147 : decode cX1_digest 147 = .ok (.iinc 4 1, 3) := by decide +kernel
theorem dX1_digest_150 : decode cX1_digest 150 = .ok (.goto (-24), 3) := by decide +kernel
theorem dX1_digest_153 : decode cX1_digest 153 = .ok (.iinc 3 1, 3) := by decide +kernel
theorem dX1_digest_156 : decode cX1_digest 156 = .ok (.goto (-41), 3) := by decide +kernel
theorem dX1_digest_159 : decode cX1_digest 159 = .ok (.lload_n 1, 1) := by decide +kernel
theorem dX1_digest_160 : decode cX1_digest 160 = .ok (.ldc2_w 116, 3) := by decide +kernel
theorem dX1_digest_163 : decode cX1_digest 163 = .ok (.lmul, 1) := by decide +kernel
theorem dX1_digest_164 : decode cX1_digest 164 = .ok (.aload_n 0, 1) := by decide +kernel
theorem dX1_digest_165 : decode cX1_digest 165 = .ok (.invokevirtual 100, 3) := by decide +kernel
theorem dX1_digest_168 : decode cX1_digest 168 = .ok (.i2l, 1) := by decide +kernel
theorem dX1_digest_169 : decode cX1_digest 169 = .ok (.ladd, 1) := by decide +kernel
theorem dX1_digest_170 : decode cX1_digest 170 = .ok (.lstore_n 1, 1) := by decide +kernel
theorem dX1_digest_171 : decode cX1_digest 171 = .ok (.lload_n 1, 1) := by decide +kernel
theorem dX1_digest_172 : decode cX1_digest 172 = .ok (.ldc2_w 116, 3) := by decide +kernel
theorem dX1_digest_175 : decode cX1_digest 175 = .ok (.lmul, 1) := by decide +kernel
theorem dX1_digest_176 : decode cX1_digest 176 = .ok (.aload_n 0, 1) := by decide +kernel
theorem dX1_digest_177 : decode cX1_digest 177 = .ok (.invokevirtual 87, 3) := by decide +kernel
theorem dX1_digest_180 : decode cX1_digest 180 = .ok (.i2l, 1) := by decide +kernel
theorem dX1_digest_181 : decode cX1_digest 181 = .ok (.ladd, 1) := by decide +kernel
theorem dX1_digest_182 : decode cX1_digest 182 = .ok (.lreturn, 1) := by decide +kernel
