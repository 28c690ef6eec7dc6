set_option maxRecDepth 20000 in
theorem ggX0_init_X0_refresh : GoodIn wsX0_init wsX0_refresh := goodIn_r _ [15, 7, 8, 16, 17, 18, 14, 19, 20, 21, 5, 6, 22, 23, 24, 25, 26, 27, 28, 29, 30, 31, 32, 33, 34, 35, 36, 37, 38, 39, 40, 41, 42, 43, 44, 10, 45, 46, 47, 48, 49, 50, 51, 52, 53, 54, 55, 56, 57, 58, 59, 60, 61, 62, 63, 64, 65, 66, 67, 68, 69, 70, 71, 72] (by decide +kernel) (by decide +kernel)
set_option maxRecDepth 20000 in
theorem gX0_init_X0_refresh : GoodIn wsX0_init (wsV RX0 28 RX0 yX0_refresh wsX0_refresh) := goodIn_app (goodIn_of _ (by decide +kernel)) ggX0_init_X0_refresh
theorem dX0_init_0 : decode cX0_init 0 = .ok (.aload_n 0, 1) := by decide +kernel
theorem dX0_init_1 : decode cX0_init 1 = .ok (.invokespecial 1, 3) := by decide +kernel
theorem dX0_init_4 : decode cX0_init 4 = .ok (.aload_n 0, 1) := by decide +kernel
theorem dX0_init_5 : decode cX0_init 5 = .ok (.bipush 30, 2) := by decide +kernel
theorem dX0_init_7 : decode cX0_init 7 = .ok (.newarray .int, 2) := by decide +kernel
theorem dX0_init_9 : decode cX0_init 9 = .ok (.putfield 9, 3) := by decide +kernel
theorem dX0_init_12 : decode cX0_init 12 = .ok (.aload_n 0, 1) := by decide +kernel
theorem dX0_init_13 : decode cX0_init 13 = .ok (.bipush 30, 2) := by decide +kernel
theorem dX0_init_15 : decode cX0_init 15 = .ok (.newarray .int, 2) := by decide +kernel
theorem dX0_init_17 : decode cX0_init 17 = .ok (.putfield 13, 3) := by decide +kernel
theorem dX0_init_20 : decode cX0_init 20 = .ok (.aload_n 0, 1) := by decide +kernel
theorem dX0_init_21 : decode cX0_init 21 = .ok (.bipush 20, 2) := by decide +kernel
theorem dX0_init_23 : decode cX0_init 23 = .ok (.newarray .int, 2) := by decide +kernel
theorem dX0_init_25 : decode cX0_init 25 = .ok (.putfield 16, 3) := by decide +kernel
theorem dX0_init_28 : decode cX0_init 28 = .ok (.aload_n 0, 1) := by decide +kernel
theorem dX0_init_29 : decode cX0_init 29 = .ok (.bipush 20, 2) := by decide +kernel
theorem dX0_init_31 : decode cX0_init 31 = .ok (.newarray .int, 2) := by decide +kernel
theorem dX0_init_33 : decode cX0_init 33 = .ok (.putfield 19, 3) := by decide +kernel
theorem dX0_init_36 : decode cX0_init 36 = .ok (.aload_n 0, 1) := by decide +kernel
theorem dX0_init_37 : decode cX0_init 37 = .ok (.bipush 20, 2) := by decide +kernel
theorem dX0_init_39 : decode cX0_init 39 = .ok (.newarray .int, 2) := by decide +kernel
theorem dX0_init_41 : decode cX0_init 41 = .ok (.putfield 22, 3) := by decide +kernel
theorem dX0_init_44 : decode cX0_init 44 = .ok (.aload_n 0, 1) := by decide +kernel
theorem dX0_init_45 : decode cX0_init 45 = .ok (.sipush 1024, 3) := by decide +kernel
theorem dX0_init_48 : decode cX0_init 48 = .ok (.newarray .int, 2) := by decide +kernel
theorem dX0_init_50 : decode cX0_init 50 = .ok (.putfield 25, 3) := by decide +kernel
theorem dX0_init_53 : decode cX0_init 53 = .ok (.aload_n 0, 1) := by decide +kernel
theorem dX0_init_54 : decode cX0_init 54 = .ok (.invokevirtual 28, 3) := by decide +kernel
theorem dX0_init_57 : decode cX0_init 57 = .ok (.return_, 1) := by decide +kernel
set_option maxRecDepth 20000 in
theorem ggX0_invite_X0_refresh : GoodIn wsX0_invite wsX0_refresh := goodIn_r _ [8, 9, 10, 11, 12, 13, 7, 14, 15, 16, 17, 18, 19, 20, 21, 22, 23, 24, 25, 26, 27, 28, 29, 30, 31, 32, 33, 34, 35, 36, 37, 38, 39, 40, 41, 42, 3, 43, 44, 45, 46, 47, 48, 49, 50, 51, 52, 53, 54, 55, 56, 57, 58, 59, 60, 61, 62, 63, 64, 65, 66, 67, 68, 69] (by decide +kernel) (by decide +kernel)
set_option maxRecDepth 20000 in
theorem gX0_invite_X0_refresh : GoodIn wsX0_invite (wsV RX0 28 RX0 yX0_refresh wsX0_refresh) := goodIn_app (goodIn_of _ (by decide +kernel)) ggX0_invite_X0_refresh
theorem dX0_invite_0 : decode cX0_invite 0 = .ok (.aload_n 0, 1) := by decide +kernel
theorem dX0_invite_1 : decode cX0_invite 1 = .ok (.getfield 31, 3) := by decide +kernel
theorem dX0_invite_4 : decode cX0_invite 4 = .ok (.bipush 10, 2) := by decide +kernel
theorem dX0_invite_6 : decode cX0_invite 6 = .ok (.if_icmp .lt 13, 3) := by decide +kernel
theorem dX0_invite_9 : decode cX0_invite 9 = .ok (.new 35, 3) := by decide +kernel
theorem dX0_invite_12 : decode cX0_invite 12 = .ok (.dup, 1) := by decide +kernel
theorem dX0_invite_13 : decode cX0_invite 13 = .ok (.ldc 37, 2) := by decide +kernel
theorem dX0_invite_15 : decode cX0_invite 15 = .ok (.invokespecial 39, 3) := by decide +kernel
theorem dX0_invite_18 : decode cX0_invite 18 = .ok (.athrow, 1) := by decide +kernel
theorem dX0_invite_19 : decode cX0_invite 19 = .ok (.aload_n 0, 1) := by decide +kernel
theorem dX0_invite_20 : decode cX0_invite 20 = .ok (.getfield 31, 3) := by decide +kernel
theorem dX0_invite_23 : decode cX0_invite 23 = .ok (.istore_n 1, 1) := by decide +kernel
theorem dX0_invite_24 : decode cX0_invite 24 = .ok (.aload_n 0, 1) := by decide +kernel
theorem dX0_invite_25 : decode cX0_invite 25 = .ok (.dup, 1) := by decide +kernel
theorem dX0_invite_26 : decode cX0_invite 26 = .ok (.getfield 31, 3) := by decide +kernel
theorem dX0_invite_29 : decode cX0_invite 29 = .ok (.iconst 1, 1) := by decide +kernel
theorem dX0_invite_30 : decode cX0_invite 30 = .ok (.iadd, 1) := by decide +kernel
theorem dX0_invite_31 : decode cX0_invite 31 = .ok (.putfield 31, 3) := by decide +kernel
theorem dX0_invite_34 : decode cX0_invite 34 = .ok (.aload_n 0, 1) := by decide +kernel
theorem dX0_invite_35 : decode cX0_invite 35 = .ok (.invokevirtual 28, 3) := by decide +kernel
theorem dX0_invite_38 : decode cX0_invite 38 = .ok (.iload_n 1, 1) := by decide +kernel
theorem dX0_invite_39 : decode cX0_invite 39 = .ok (.ireturn, 1) := by decide +kernel
set_option maxRecDepth 20000 in
theorem ggX0_rule_X0_requireWishes : GoodIn wsX0_rule wsX0_requireWishes := goodIn_ca (goodIn_r _ [13, 14, 15, 16, 17, 18, 12, 19, 20, 72, 73, 74, 75, 76, 77, 78, 79, 80, 81] (by decide +kernel) (by decide +kernel)) (goodIn_sub (fun _ h => List.mem_cons_of_mem _ (List.mem_append_right _ h)) (by decide +kernel))
set_option maxRecDepth 20000 in
theorem gX0_rule_X0_requireWishes : GoodIn wsX0_rule (wsV RX0 42 RX0 yX0_requireWishes wsX0_requireWishes) := goodIn_app (goodIn_of _ (by decide +kernel)) ggX0_rule_X0_requireWishes
set_option maxRecDepth 20000 in
theorem ggX0_rule_X0_put : GoodIn wsX0_rule wsX0_put := goodIn_r _ [23] (by decide +kernel) (by decide +kernel)
set_option maxRecDepth 20000 in
theorem gX0_rule_X0_put : GoodIn wsX0_rule (va_wsS RX0 56 yX0_put wsX0_put) := goodIn_app (goodIn_of _ (by decide +kernel)) ggX0_rule_X0_put
set_option maxRecDepth 20000 in
theorem ggX0_rule_X0_refresh : GoodIn wsX0_rule wsX0_refresh := goodIn_r _ [27, 28, 29, 30, 31, 32, 12, 33, 5, 8, 6, 7, 34, 35, 36, 37, 38, 39, 40, 41, 42, 21, 22, 23, 43, 44, 45, 46, 47, 48, 49, 50, 51, 52, 53, 54, 20, 55, 56, 57, 58, 59, 60, 61, 62, 63, 64, 65, 66, 67, 68, 69, 70, 71, 72, 73, 74, 75, 76, 77, 78, 79, 80, 81] (by decide +kernel) (by decide +kernel)
set_option maxRecDepth 20000 in
theorem gX0_rule_X0_refresh : GoodIn wsX0_rule (wsV RX0 28 RX0 yX0_refresh wsX0_refresh) := goodIn_app (goodIn_of _ (by decide +kernel)) ggX0_rule_X0_refresh
theorem dX0_rule_0 : decode cX0_rule 0 = .ok (.aload_n 0, 1) := by decide +kernel
theorem dX0_rule_1 : decode cX0_rule 1 = .ok (.iload_n 1, 1) := by decide +kernel
theorem dX0_rule_2 : decode cX0_rule 2 = .ok (.iload_n 2, 1) := by decide +kernel
theorem dX0_rule_3 : decode cX0_rule 3 = .ok (.invokevirtual 42, 3) := by decide +kernel
theorem dX0_rule_6 : decode cX0_rule 6 = .ok (.iload_n 1, 1) := by decide +kernel
theorem dX0_rule_7 : decode cX0_rule 7 = .ok (.iload_n 2, 1) := by decide +kernel
theorem dX0_rule_8 : decode cX0_rule 8 = .ok (.if_icmp .ne 13, 3) := by decide +kernel
theorem dX0_rule_11 : decode cX0_rule 11 = .ok (.new 46, 3) := by decide +kernel
theorem dX0_rule_14 : decode cX0_rule 14 = .ok (.dup, 1) := by decide +kernel
theorem dX0_rule_15 : decode cX0_rule 15 = .ok (.ldc 48, 2) := by decide +kernel
theorem dX0_rule_17 : decode cX0_rule 17 = .ok (.invokespecial 50, 3) := by decide +kernel
theorem dX0_rule_20 : decode cX0_rule 20 = .ok (.athrow, 1) := by decide +kernel
theorem dX0_rule_21 : decode cX0_rule 21 = .ok (.aload_n 0, 1) := by decide +kernel
theorem dX0_rule_22 : decode cX0_rule 22 = .ok (.getfield 51, 3) := by decide +kernel
theorem dX0_rule_25 : decode cX0_rule 25 = .ok (.bipush 30, 2) := by decide +kernel
theorem dX0_rule_27 : decode cX0_rule 27 = .ok (.if_icmp .lt 13, 3) := by decide +kernel
theorem dX0_rule_30 : decode cX0_rule 30 = .ok (.new 35, 3) := by decide +kernel
theorem dX0_rule_33 : decode cX0_rule 33 = .ok (.dup, 1) := by decide +kernel
theorem dX0_rule_34 : decode cX0_rule 34 = .ok (.ldc 54, 2) := by decide +kernel
theorem dX0_rule_36 : decode cX0_rule 36 = .ok (.invokespecial 39, 3) := by decide +kernel
theorem dX0_rule_39 : decode cX0_rule 39 = .ok (.athrow, 1) := by decide +kernel
theorem dX0_rule_40 : decode cX0_rule 40 = .ok (.aload_n 0, 1) := by decide +kernel
theorem dX0_rule_41 : decode cX0_rule 41 = .ok (.getfield 51, 3) := by decide +kernel
theorem dX0_rule_44 : decode cX0_rule 44 = .ok (.istore_n 3, 1) := by decide +kernel
theorem dX0_rule_45 : decode cX0_rule 45 = .ok (.aload_n 0, 1) := by decide +kernel
theorem dX0_rule_46 : decode cX0_rule 46 = .ok (.getfield 9, 3) := by decide +kernel
theorem dX0_rule_49 : decode cX0_rule 49 = .ok (.iload_n 3, 1) := by decide +kernel
theorem dX0_rule_50 : decode cX0_rule 50 = .ok (.iload_n 1, 1) := by decide +kernel
theorem dX0_rule_51 : decode cX0_rule 51 = .ok (.invokestatic 56, 3) := by decide +kernel
theorem dX0_rule_54 : decode cX0_rule 54 = .ok (.aload_n 0, 1) := by decide +kernel
theorem dX0_rule_55 : decode cX0_rule 55 = .ok (.getfield 13, 3) := by decide +kernel
theorem dX0_rule_58 : decode cX0_rule 58 = .ok (.iload_n 3, 1) := by decide +kernel
theorem dX0_rule_59 : decode cX0_rule 59 = .ok (.iload_n 2, 1) := by decide +kernel
theorem dX0_rule_60 : decode cX0_rule 60 = .ok (.invokestatic 56, 3) := by decide +kernel
theorem dX0_rule_63 : decode cX0_rule 63 = .ok (.aload_n 0, 1) := by decide +kernel
theorem dX0_rule_64 : decode cX0_rule 64 = .ok (.dup, 1) := by decide +kernel
theorem dX0_rule_65 : decode cX0_rule 65 = .ok (.getfield 60, 3) := by decide +kernel
theorem dX0_rule_68 : decode cX0_rule 68 = .ok (.iconst 1, 1) := by decide +kernel
theorem dX0_rule_69 : decode cX0_rule 69 = .ok (.iload_n 3, 1) := by decide +kernel
theorem dX0_rule_70 : decode cX0_rule 70 = .ok (.ishl, 1) := by decide +kernel
theorem dX0_rule_71 : decode cX0_rule 71 = .ok (.ior, 1) := by decide +kernel
theorem dX0_rule_72 : decode cX0_rule 72 = .ok (.putfield 60, 3) := by decide +kernel
theorem dX0_rule_75 : decode cX0_rule 75 = .ok (.aload_n 0, 1) := by decide +kernel
theorem dX0_rule_76 : decode cX0_rule 76 = .ok (.dup, 1) := by decide +kernel
theorem dX0_rule_77 : decode cX0_rule 77 = .ok (.getfield 51, 3) := by decide +kernel
theorem dX0_rule_80 : decode cX0_rule 80 = .ok (.iconst 1, 1) := by decide +kernel
theorem dX0_rule_81 : decode cX0_rule 81 = .ok (.iadd, 1) := by decide +kernel
theorem dX0_rule_82 : decode cX0_rule 82 = .ok (.putfield 51, 3) := by decide +kernel
theorem dX0_rule_85 : decode cX0_rule 85 = .ok (.aload_n 0, 1) := by decide +kernel
theorem dX0_rule_86 : decode cX0_rule 86 = .ok (.invokevirtual 28, 3) := by decide +kernel
theorem dX0_rule_89 : decode cX0_rule 89 = .ok (.iload_n 3, 1) := by decide +kernel
theorem dX0_rule_90 : decode cX0_rule 90 = .ok (.ireturn, 1) := by decide +kernel
set_option maxRecDepth 20000 in
theorem ggX0_turn_X0_requireRule : GoodIn wsX0_turn wsX0_requireRule := goodIn_ca (goodIn_r _ [6, 7, 8, 9, 64, 65, 66, 67, 68, 69, 70, 71, 72, 73] (by decide +kernel) (by decide +kernel)) (goodIn_sub (fun _ h => List.mem_cons_of_mem _ (List.mem_append_right _ h)) (by decide +kernel))
set_option maxRecDepth 20000 in
theorem gX0_turn_X0_requireRule : GoodIn wsX0_turn (wsV RX0 63 RX0 yX0_requireRule wsX0_requireRule) := goodIn_app (goodIn_of _ (by decide +kernel)) ggX0_turn_X0_requireRule
set_option maxRecDepth 20000 in
theorem ggX0_turn_X0_refresh : GoodIn wsX0_turn wsX0_refresh := goodIn_r _ [13, 14, 15, 16, 17, 18, 5, 19, 9, 1, 20, 21, 22, 23, 24, 25, 26, 27, 28, 29, 30, 31, 32, 33, 34, 35, 36, 37, 38, 39, 40, 41, 42, 43, 44, 45, 46, 47, 48, 49, 50, 51, 52, 53, 54, 55, 56, 57, 58, 59, 60, 61, 62, 63, 64, 65, 66, 67, 68, 69, 70, 71, 72, 73] (by decide +kernel) (by decide +kernel)
set_option maxRecDepth 20000 in
theorem gX0_turn_X0_refresh : GoodIn wsX0_turn (wsV RX0 28 RX0 yX0_refresh wsX0_refresh) := goodIn_app (goodIn_of _ (by decide +kernel)) ggX0_turn_X0_refresh
set_option maxRecDepth 20000 in
theorem ggX0_turn_X0_has : GoodIn wsX0_turn wsX0_has := goodIn_r _ [24] (by decide +kernel) (by decide +kernel)
set_option maxRecDepth 20000 in
theorem gX0_turn_X0_has : GoodIn wsX0_turn (va_wsS RX0 67 yX0_has wsX0_has) := goodIn_app (goodIn_of _ (by decide +kernel)) ggX0_turn_X0_has
theorem dX0_turn_0 : decode cX0_turn 0 = .ok (.aload_n 0, 1) := by decide +kernel
theorem dX0_turn_1 : decode cX0_turn 1 = .ok (.iload_n 1, 1) := by decide +kernel
theorem dX0_turn_2 : decode cX0_turn 2 = .ok (.invokevirtual 63, 3) := by decide +kernel
theorem dX0_turn_5 : decode cX0_turn 5 = .ok (.aload_n 0, 1) := by decide +kernel
theorem dX0_turn_6 : decode cX0_turn 6 = .ok (.dup, 1) := by decide +kernel
theorem dX0_turn_7 : decode cX0_turn 7 = .ok (.getfield 60, 3) := by decide +kernel
theorem dX0_turn_10 : decode cX0_turn 10 = .ok (.iconst 1, 1) := by decide +kernel
theorem dX0_turn_11 : decode cX0_turn 11 = .ok (.iload_n 1, 1) := by decide +kernel
theorem dX0_turn_12 : decode cX0_turn 12 = .ok (.ishl, 1) := by decide +kernel
theorem dX0_turn_13 : decode cX0_turn 13 = .ok (.ixor, 1) := by decide +kernel
theorem dX0_turn_14 : decode cX0_turn 14 = .ok (.putfield 60, 3) := by decide +kernel
theorem dX0_turn_17 : decode cX0_turn 17 = .ok (.aload_n 0, 1) := by decide +kernel
theorem dX0_turn_18 : decode cX0_turn 18 = .ok (.invokevirtual 28, 3) := by decide +kernel
theorem dX0_turn_21 : decode cX0_turn 21 = .ok (.aload_n 0, 1) := by decide +kernel
theorem dX0_turn_22 : decode cX0_turn 22 = .ok (.getfield 60, 3) := by decide +kernel
theorem dX0_turn_25 : decode cX0_turn 25 = .ok (.iload_n 1, 1) := by decide +kernel
theorem dX0_turn_26 : decode cX0_turn 26 = .ok (.invokestatic 67, 3) := by decide +kernel
theorem dX0_turn_29 : decode cX0_turn 29 = .ok (.ireturn, 1) := by decide +kernel
set_option maxRecDepth 20000 in
theorem ggX0_told_X0_requireRule : GoodIn wsX0_told wsX0_requireRule := goodIn_ca (goodIn_r _ [8, 9, 10, 11, 24, 25, 26, 27, 28, 29, 30, 31, 32, 33] (by decide +kernel) (by decide +kernel)) (goodIn_sub (fun _ h => List.mem_cons_of_mem _ (List.mem_append_right _ h)) (by decide +kernel))
set_option maxRecDepth 20000 in
theorem gX0_told_X0_requireRule : GoodIn wsX0_told (wsV RX0 63 RX0 yX0_requireRule wsX0_requireRule) := goodIn_app (goodIn_of _ (by decide +kernel)) ggX0_told_X0_requireRule
set_option maxRecDepth 20000 in
theorem ggX0_told_X0_requireFact : GoodIn wsX0_told wsX0_requireFact := goodIn_ca (goodIn_r _ [14, 9, 10] (by decide +kernel) (by decide +kernel)) (goodIn_sub (fun _ h => List.mem_cons_of_mem _ (List.mem_append_right _ h)) (by decide +kernel))
set_option maxRecDepth 20000 in
theorem gX0_told_X0_requireFact : GoodIn wsX0_told (va_wsS RX0 71 yX0_requireFact wsX0_requireFact) := goodIn_app (goodIn_of _ (by decide +kernel)) ggX0_told_X0_requireFact
set_option maxRecDepth 20000 in
theorem ggX0_told_X0_at : GoodIn wsX0_told wsX0_at := goodIn_r _ [17] (by decide +kernel) (by decide +kernel)
set_option maxRecDepth 20000 in
theorem gX0_told_X0_at : GoodIn wsX0_told (va_wsS RX0 74 yX0_at wsX0_at) := goodIn_app (goodIn_of _ (by decide +kernel)) ggX0_told_X0_at
set_option maxRecDepth 20000 in
theorem ggX0_told_X0_has : GoodIn wsX0_told wsX0_has := goodIn_r _ [20] (by decide +kernel) (by decide +kernel)
set_option maxRecDepth 20000 in
theorem gX0_told_X0_has : GoodIn wsX0_told (va_wsS RX0 67 yX0_has wsX0_has) := goodIn_app (goodIn_of _ (by decide +kernel)) ggX0_told_X0_has
set_option maxRecDepth 20000 in
theorem ggX0_told_X0_oneIf : GoodIn wsX0_told wsX0_oneIf := goodIn_r _ [23] (by decide +kernel) (by decide +kernel)
set_option maxRecDepth 20000 in
theorem gX0_told_X0_oneIf : GoodIn wsX0_told (va_wsS RX0 78 yX0_oneIf wsX0_oneIf) := goodIn_app (goodIn_of _ (by decide +kernel)) ggX0_told_X0_oneIf
theorem dX0_told_0 : decode cX0_told 0 = .ok (.aload_n 0, 1) := by decide +kernel
theorem dX0_told_1 : decode cX0_told 1 = .ok (.iload_n 1, 1) := by decide +kernel
theorem dX0_told_2 : decode cX0_told 2 = .ok (.invokevirtual 63, 3) := by decide +kernel
theorem dX0_told_5 : decode cX0_told 5 = .ok (.iload_n 2, 1) := by decide +kernel
theorem dX0_told_6 : decode cX0_told 6 = .ok (.iconst 3, 1) := by decide +kernel
theorem dX0_told_7 : decode cX0_told 7 = .ok (.invokestatic 71, 3) := by decide +kernel
theorem dX0_told_10 : decode cX0_told 10 = .ok (.iload_n 2, 1) := by decide +kernel
theorem dX0_told_11 : decode cX0_told 11 = .ok (.ifCond .ne 12, 3) := by decide +kernel
theorem dX0_told_14 : decode cX0_told 14 = .ok (.aload_n 0, 1) := by decide +kernel
theorem dX0_told_15 : decode cX0_told 15 = .ok (.getfield 9, 3) := by decide +kernel
theorem dX0_told_18 : decode cX0_told 18 = .ok (.iload_n 1, 1) := by decide +kernel
theorem dX0_told_19 : decode cX0_told 19 = .ok (.invokestatic 74, 3) := by decide +kernel
theorem dX0_told_22 : decode cX0_told 22 = .ok (.ireturn, 1) := by decide +kernel
theorem dX0_told_23 : decode cX0_told 23 = .ok (.iload_n 2, 1) := by decide +kernel
theorem dX0_told_24 : decode cX0_told 24 = .ok (.iconst 1, 1) := by decide +kernel
theorem dX0_told_25 : decode cX0_told 25 = .ok (.if_icmp .ne 12, 3) := by decide +kernel
theorem dX0_told_28 : decode cX0_told 28 = .ok (.aload_n 0, 1) := by decide +kernel
theorem dX0_told_29 : decode cX0_told 29 = .ok (.getfield 13, 3) := by decide +kernel
theorem dX0_told_32 : decode cX0_told 32 = .ok (.iload_n 1, 1) := by decide +kernel
theorem dX0_told_33 : decode cX0_told 33 = .ok (.invokestatic 74, 3) := by decide +kernel
theorem dX0_told_36 : decode cX0_told 36 = .ok (.ireturn, 1) := by decide +kernel
theorem dX0_told_37 : decode cX0_told 37 = .ok (.aload_n 0, 1) := by decide +kernel
theorem dX0_told_38 : decode cX0_told 38 = .ok (.getfield 60, 3) := by decide +kernel
theorem dX0_told_41 : decode cX0_told 41 = .ok (.iload_n 1, 1) := by decide +kernel
theorem dX0_told_42 : decode cX0_told 42 = .ok (.invokestatic 67, 3) := by decide +kernel
theorem dX0_told_45 : decode cX0_told 45 = .ok (.invokestatic 78, 3) := by decide +kernel
theorem dX0_told_48 : decode cX0_told 48 = .ok (.ireturn, 1) := by decide +kernel
set_option maxRecDepth 20000 in
theorem ggX0_follows_X0_requireWishes : GoodIn wsX0_follows wsX0_requireWishes := goodIn_ca (goodIn_r _ [6, 7, 8, 9, 10, 11, 5, 12, 13, 20, 21, 22, 23, 24, 25, 26, 27, 28, 29] (by decide +kernel) (by decide +kernel)) (goodIn_sub (fun _ h => List.mem_cons_of_mem _ (List.mem_append_right _ h)) (by decide +kernel))
set_option maxRecDepth 20000 in
theorem gX0_follows_X0_requireWishes : GoodIn wsX0_follows (wsV RX0 42 RX0 yX0_requireWishes wsX0_requireWishes) := goodIn_app (goodIn_of _ (by decide +kernel)) ggX0_follows_X0_requireWishes
set_option maxRecDepth 20000 in
theorem ggX0_follows_X0_at : GoodIn wsX0_follows wsX0_at := goodIn_r _ [16] (by decide +kernel) (by decide +kernel)
set_option maxRecDepth 20000 in
theorem gX0_follows_X0_at : GoodIn wsX0_follows (va_wsS RX0 74 yX0_at wsX0_at) := goodIn_app (goodIn_of _ (by decide +kernel)) ggX0_follows_X0_at
set_option maxRecDepth 20000 in
theorem ggX0_follows_X0_has : GoodIn wsX0_follows wsX0_has := goodIn_r _ [19] (by decide +kernel) (by decide +kernel)
set_option maxRecDepth 20000 in
theorem gX0_follows_X0_has : GoodIn wsX0_follows (va_wsS RX0 67 yX0_has wsX0_has) := goodIn_app (goodIn_of _ (by decide +kernel)) ggX0_follows_X0_has
theorem dX0_follows_0 : decode cX0_follows 0 = .ok (.aload_n 0, 1) := by decide +kernel
theorem dX0_follows_1 : decode cX0_follows 1 = .ok (.iload_n 1, 1) := by decide +kernel
theorem dX0_follows_2 : decode cX0_follows 2 = .ok (.iload_n 2, 1) := by decide +kernel
theorem dX0_follows_3 : decode cX0_follows 3 = .ok (.invokevirtual 42, 3) := by decide +kernel
theorem dX0_follows_6 : decode cX0_follows 6 = .ok (.aload_n 0, 1) := by decide +kernel
theorem dX0_follows_7 : decode cX0_follows 7 = .ok (.getfield 19, 3) := by decide +kernel
theorem dX0_follows_10 : decode cX0_follows 10 = .ok (.iload_n 1, 1) := by decide +kernel
theorem dX0_follows_11 : decode cX0_follows 11 = .ok (.invokestatic 74, 3) := by decide +kernel
theorem dX0_follows_14 : decode cX0_follows 14 = .ok (.iload_n 2, 1) := by decide +kernel
theorem dX0_follows_15 : decode cX0_follows 15 = .ok (.invokestatic 67, 3) := by decide +kernel
theorem dX0_follows_18 : decode cX0_follows 18 = .ok (.ireturn, 1) := by decide +kernel
set_option maxRecDepth 20000 in
theorem ggX0_reach_X0_requireWishes : GoodIn wsX0_reach wsX0_requireWishes := goodIn_ca (goodIn_r _ [6, 7, 8, 9, 10, 11, 5, 12, 13, 17, 18, 19, 20, 21, 22, 23, 24, 25, 26] (by decide +kernel) (by decide +kernel)) (goodIn_sub (fun _ h => List.mem_cons_of_mem _ (List.mem_append_right _ h)) (by decide +kernel))
set_option maxRecDepth 20000 in
theorem gX0_reach_X0_requireWishes : GoodIn wsX0_reach (wsV RX0 42 RX0 yX0_requireWishes wsX0_requireWishes) := goodIn_app (goodIn_of _ (by decide +kernel)) ggX0_reach_X0_requireWishes
set_option maxRecDepth 20000 in
theorem ggX0_reach_X0_at : GoodIn wsX0_reach wsX0_at := goodIn_r _ [16] (by decide +kernel) (by decide +kernel)
set_option maxRecDepth 20000 in
theorem gX0_reach_X0_at : GoodIn wsX0_reach (va_wsS RX0 74 yX0_at wsX0_at) := goodIn_app (goodIn_of _ (by decide +kernel)) ggX0_reach_X0_at
theorem dX0_reach_0 : decode cX0_reach 0 = .ok (.aload_n 0, 1) := by decide +kernel
theorem dX0_reach_1 : decode cX0_reach 1 = .ok (.iload_n 1, 1) := by decide +kernel
theorem dX0_reach_2 : decode cX0_reach 2 = .ok (.iload_n 1, 1) := by decide +kernel
theorem dX0_reach_3 : decode cX0_reach 3 = .ok (.invokevirtual 42, 3) := by decide +kernel
theorem dX0_reach_6 : decode cX0_reach 6 = .ok (.aload_n 0, 1) := by decide +kernel
theorem dX0_reach_7 : decode cX0_reach 7 = .ok (.getfield 19, 3) := by decide +kernel
theorem dX0_reach_10 : decode cX0_reach 10 = .ok (.iload_n 1, 1) := by decide +kernel
theorem dX0_reach_11 : decode cX0_reach 11 = .ok (.invokestatic 74, 3) := by decide +kernel
theorem dX0_reach_14 : decode cX0_reach 14 = .ok (.ireturn, 1) := by decide +kernel
set_option maxRecDepth 20000 in
theorem ggX0_steps_X0_requireWishes : GoodIn wsX0_steps wsX0_requireWishes := goodIn_ca (goodIn_r _ [5, 6, 7, 8, 9, 10, 4, 11, 12, 24, 25, 26, 27, 28, 29, 30, 31, 32, 33] (by decide +kernel) (by decide +kernel)) (goodIn_sub (fun _ h => List.mem_cons_of_mem _ (List.mem_append_right _ h)) (by decide +kernel))
set_option maxRecDepth 20000 in
theorem gX0_steps_X0_requireWishes : GoodIn wsX0_steps (wsV RX0 42 RX0 yX0_requireWishes wsX0_requireWishes) := goodIn_app (goodIn_of _ (by decide +kernel)) ggX0_steps_X0_requireWishes
set_option maxRecDepth 20000 in
theorem ggX0_steps_X0_has : GoodIn wsX0_steps wsX0_has := goodIn_r _ [15] (by decide +kernel) (by decide +kernel)
set_option maxRecDepth 20000 in
theorem gX0_steps_X0_has : GoodIn wsX0_steps (va_wsS RX0 67 yX0_has wsX0_has) := goodIn_app (goodIn_of _ (by decide +kernel)) ggX0_steps_X0_has
set_option maxRecDepth 20000 in
theorem ggX0_steps_X0_oneStepOn : GoodIn wsX0_steps wsX0_oneStepOn := goodIn_r _ [19, 20, 8, 9, 10, 4, 11, 12, 13, 14, 15, 21, 22, 23, 24, 25, 26, 27, 28, 29, 30, 31, 32, 33] (by decide +kernel) (by decide +kernel)
set_option maxRecDepth 20000 in
theorem gX0_steps_X0_oneStepOn : GoodIn wsX0_steps (wsV RX0 82 RX0 yX0_oneStepOn wsX0_oneStepOn) := goodIn_app (goodIn_of _ (by decide +kernel)) ggX0_steps_X0_oneStepOn
theorem dX0_steps_0 : decode cX0_steps 0 = .ok (.aload_n 0, 1) := by decide +kernel
theorem dX0_steps_1 : decode cX0_steps 1 = .ok (.iload_n 1, 1) := by decide +kernel
theorem dX0_steps_2 : decode cX0_steps 2 = .ok (.iload_n 2, 1) := by decide +kernel
theorem dX0_steps_3 : decode cX0_steps 3 = .ok (.invokevirtual 42, 3) := by decide +kernel
theorem dX0_steps_6 : decode cX0_steps 6 = .ok (.iconst 1, 1) := by decide +kernel
theorem dX0_steps_7 : decode cX0_steps 7 = .ok (.iload_n 1, 1) := by decide +kernel
theorem dX0_steps_8 : decode cX0_steps 8 = .ok (.ishl, 1) := by decide +kernel
theorem dX0_steps_9 : decode cX0_steps 9 = .ok (.istore_n 3, 1) := by decide +kernel
theorem dX0_steps_10 : decode cX0_steps 10 = .ok (.iconst 0, 1) := by decide +kernel
theorem dX0_steps_11 : decode cX0_steps 11 = .ok (.istore 4, 2) := by decide +kernel
theorem dX0_steps_13 : decode cX0_steps 13 = .ok (.iload 4, 2) := by decide +kernel
theorem dX0_steps_15 : decode cX0_steps 15 = .ok (.bipush 20, 2) := by decide +kernel
theorem dX0_steps_17 : decode cX0_steps 17 = .ok (.if_icmp .ge 26, 3) := by decide +kernel
theorem dX0_steps_20 : decode cX0_steps 20 = .ok (.iload_n 3, 1) := by decide +kernel
theorem dX0_steps_21 : decode cX0_steps 21 = .ok (.iload_n 2, 1) := by decide +kernel
theorem dX0_steps_22 : decode cX0_steps 22 = .ok (.invokestatic 67, 3) := by decide +kernel
theorem dX0_steps_25 : decode cX0_steps 25 = .ok (.ifCond .eq 6, 3) := by decide +kernel
theorem dX0_steps_28 : decode cX0_steps 28 = .ok (.iload 4, 2) := by decide +kernel
theorem dX0_steps_30 : decode cX0_steps 30 = .ok (.ireturn, 1) := by decide +kernel
theorem dX0_steps_31 : decode cX0_steps 31 = .ok (.aload_n 0, 1) := by decide +kernel
theorem dX0_steps_32 : decode cX0_steps 32 = .ok (.iload_n 3, 1) := by decide +kernel
theorem dX0_steps_33 : decode cX0_steps 33 = .ok (.invokevirtual 82, 3) := by decide +kernel
theorem dX0_steps_36 : decode cX0_steps 36 = .ok (.istore_n 3, 1) := by decide +kernel
theorem dX0_steps_37 : decode cX0_steps 37 = .ok (.iinc 4 1, 3) := by decide +kernel
theorem dX0_steps_40 : decode cX0_steps 40 = .ok (.goto (-27), 3) := by decide +kernel
theorem dX0_steps_43 : decode cX0_steps 43 = .ok (.iconst (-1), 1) := by decide +kernel
theorem dX0_steps_44 : decode cX0_steps 44 = .ok (.ireturn, 1) := by decide +kernel
set_option maxRecDepth 20000 in
theorem ggX0_guest_X0_requireGuest : GoodIn wsX0_guest wsX0_requireGuest := goodIn_ca (goodIn_r _ [6, 7, 8, 9, 51, 52, 53, 54, 55, 56, 57, 58, 59, 60] (by decide +kernel) (by decide +kernel)) (goodIn_sub (fun _ h => List.mem_cons_of_mem _ (List.mem_append_right _ h)) (by decide +kernel))
set_option maxRecDepth 20000 in
theorem gX0_guest_X0_requireGuest : GoodIn wsX0_guest (wsV RX0 86 RX0 yX0_requireGuest wsX0_requireGuest) := goodIn_app (goodIn_of _ (by decide +kernel)) ggX0_guest_X0_requireGuest
set_option maxRecDepth 20000 in
theorem ggX0_guest_X0_requireFact : GoodIn wsX0_guest wsX0_requireFact := goodIn_ca (goodIn_r _ [12, 7, 8] (by decide +kernel) (by decide +kernel)) (goodIn_sub (fun _ h => List.mem_cons_of_mem _ (List.mem_append_right _ h)) (by decide +kernel))
set_option maxRecDepth 20000 in
theorem gX0_guest_X0_requireFact : GoodIn wsX0_guest (va_wsS RX0 71 yX0_requireFact wsX0_requireFact) := goodIn_app (goodIn_of _ (by decide +kernel)) ggX0_guest_X0_requireFact
set_option maxRecDepth 20000 in
theorem ggX0_guest_X0_fits : GoodIn wsX0_guest wsX0_fits := goodIn_r _ [16, 17, 51, 52, 53, 54, 55, 56, 57, 58, 59, 60] (by decide +kernel) (by decide +kernel)
set_option maxRecDepth 20000 in
theorem gX0_guest_X0_fits : GoodIn wsX0_guest (wsV RX0 89 RX0 yX0_fits wsX0_fits) := goodIn_app (goodIn_of _ (by decide +kernel)) ggX0_guest_X0_fits
set_option maxRecDepth 20000 in
theorem ggX0_guest_X0_against : GoodIn wsX0_guest wsX0_against := goodIn_r _ [20] (by decide +kernel) (by decide +kernel)
set_option maxRecDepth 20000 in
theorem gX0_guest_X0_against : GoodIn wsX0_guest (va_wsS RX0 93 yX0_against wsX0_against) := goodIn_app (goodIn_of _ (by decide +kernel)) ggX0_guest_X0_against
set_option maxRecDepth 20000 in
theorem ggX0_guest_X0_isVain : GoodIn wsX0_guest wsX0_isVain := goodIn_r _ [23, 24, 25, 5, 26, 18, 19, 20, 27, 28, 29] (by decide +kernel) (by decide +kernel)
set_option maxRecDepth 20000 in
theorem gX0_guest_X0_isVain : GoodIn wsX0_guest (va_wsS RX0 96 yX0_isVain wsX0_isVain) := goodIn_app (goodIn_of _ (by decide +kernel)) ggX0_guest_X0_isVain
set_option maxRecDepth 20000 in
theorem ggX0_guest_X0_oneIf : GoodIn wsX0_guest wsX0_oneIf := goodIn_r _ [32] (by decide +kernel) (by decide +kernel)
set_option maxRecDepth 20000 in
theorem gX0_guest_X0_oneIf : GoodIn wsX0_guest (va_wsS RX0 78 yX0_oneIf wsX0_oneIf) := goodIn_app (goodIn_of _ (by decide +kernel)) ggX0_guest_X0_oneIf
set_option maxRecDepth 20000 in
theorem ggX0_guest_X0_isTorn : GoodIn wsX0_guest wsX0_isTorn := goodIn_r _ [35, 21, 22, 5, 23, 24, 25, 26, 18, 19, 20, 27, 28, 29] (by decide +kernel) (by decide +kernel)
set_option maxRecDepth 20000 in
theorem gX0_guest_X0_isTorn : GoodIn wsX0_guest (va_wsS RX0 100 yX0_isTorn wsX0_isTorn) := goodIn_app (goodIn_of _ (by decide +kernel)) ggX0_guest_X0_isTorn
set_option maxRecDepth 20000 in
theorem ggX0_guest_X0_guestsBoundTo : GoodIn wsX0_guest wsX0_guestsBoundTo := goodIn_r _ [39, 1, 40, 41, 42, 5, 43, 9, 24, 25, 26, 27, 28, 29, 51, 52, 53, 54, 55, 56, 57, 58, 59, 60] (by decide +kernel) (by decide +kernel)
set_option maxRecDepth 20000 in
theorem gX0_guest_X0_guestsBoundTo : GoodIn wsX0_guest (wsV RX0 103 RX0 yX0_guestsBoundTo wsX0_guestsBoundTo) := goodIn_app (goodIn_of _ (by decide +kernel)) ggX0_guest_X0_guestsBoundTo
set_option maxRecDepth 20000 in
theorem ggX0_guest_J6_bitCount_0f7a4 : GoodIn wsX0_guest wsJ6_bitCount_0f7a4 := goodIn_r _ [47, 48, 49, 50] (by decide +kernel) (by decide +kernel)
set_option maxRecDepth 20000 in
theorem gX0_guest_J6_bitCount_0f7a4 : GoodIn wsX0_guest (va_wsS RX0 106 yJ6_bitCount_0f7a4 wsJ6_bitCount_0f7a4) := goodIn_app (goodIn_of _ (by decide +kernel)) ggX0_guest_J6_bitCount_0f7a4
theorem dX0_guest_0 : decode cX0_guest 0 = .ok (.aload_n 0, 1) := by decide +kernel
theorem dX0_guest_1 : decode cX0_guest 1 = .ok (.iload_n 1, 1) := by decide +kernel
theorem dX0_guest_2 : decode cX0_guest 2 = .ok (.invokevirtual 86, 3) := by decide +kernel
theorem dX0_guest_5 : decode cX0_guest 5 = .ok (.iload_n 2, 1) := by decide +kernel
theorem dX0_guest_6 : decode cX0_guest 6 = .ok (.iconst 4, 1) := by decide +kernel
theorem dX0_guest_7 : decode cX0_guest 7 = .ok (.invokestatic 71, 3) := by decide +kernel
theorem dX0_guest_10 : decode cX0_guest 10 = .ok (.iconst 2, 1) := by decide +kernel
theorem dX0_guest_11 : decode cX0_guest 11 = .ok (.iload_n 1, 1) := by decide +kernel
theorem dX0_guest_12 : decode cX0_guest 12 = .ok (.imul, 1) := by decide +kernel
theorem dX0_guest_13 : decode cX0_guest 13 = .ok (.istore_n 3, 1) := by decide +kernel
theorem dX0_guest_14 : decode cX0_guest 14 = .ok (.iload_n 2, 1) := by decide +kernel
theorem dX0_guest_15 : decode cX0_guest 15 = .ok (.tableswitch 94 0 2 #[25, 55, 82], 25) := by decide +kernel
theorem dX0_guest_40 : decode cX0_guest 40 = .ok (.aload_n 0, 1) := by decide +kernel
theorem dX0_guest_41 : decode cX0_guest 41 = .ok (.invokevirtual 89, 3) := by decide +kernel
theorem dX0_guest_44 : decode cX0_guest 44 = .ok (.ifCond .eq 21, 3) := by decide +kernel
theorem dX0_guest_47 : decode cX0_guest 47 = .ok (.aload_n 0, 1) := by decide +kernel
theorem dX0_guest_48 : decode cX0_guest 48 = .ok (.getfield 19, 3) := by decide +kernel
theorem dX0_guest_51 : decode cX0_guest 51 = .ok (.iload_n 3, 1) := by decide +kernel
theorem dX0_guest_52 : decode cX0_guest 52 = .ok (.invokestatic 93, 3) := by decide +kernel
theorem dX0_guest_55 : decode cX0_guest 55 = .ok (.invokestatic 96, 3) := by decide +kernel
theorem dX0_guest_58 : decode cX0_guest 58 = .ok (.ifCond .eq 7, 3) := by decide +kernel
theorem dX0_guest_61 : decode cX0_guest 61 = .ok (.iconst 1, 1) := by decide +kernel
theorem dX0_guest_62 : decode cX0_guest 62 = .ok (.goto 4, 3) := by decide +kernel
theorem dX0_guest_65 : decode cX0_guest 65 = .ok (.iconst 0, 1) := by decide +kernel
theorem dX0_guest_66 : decode cX0_guest 66 = .ok (.invokestatic 78, 3) := by decide +kernel
theorem dX0_guest_69 : decode cX0_guest 69 = .ok (.ireturn, 1) := by decide +kernel
theorem dX0_guest_70 : decode cX0_guest 70 = .ok (.aload_n 0, 1) := by decide +kernel
theorem dX0_guest_71 : decode cX0_guest 71 = .ok (.invokevirtual 89, 3) := by decide +kernel
theorem dX0_guest_74 : decode cX0_guest 74 = .ok (.ifCond .eq 18, 3) := by decide +kernel
theorem dX0_guest_77 : decode cX0_guest 77 = .ok (.aload_n 0, 1) := by decide +kernel
theorem dX0_guest_78 : decode cX0_guest 78 = .ok (.getfield 19, 3) := by decide +kernel
theorem dX0_guest_81 : decode cX0_guest 81 = .ok (.iload_n 3, 1) := by decide +kernel
theorem dX0_guest_82 : decode cX0_guest 82 = .ok (.invokestatic 96, 3) := by decide +kernel
theorem dX0_guest_85 : decode cX0_guest 85 = .ok (.ifCond .eq 7, 3) := by decide +kernel
theorem dX0_guest_88 : decode cX0_guest 88 = .ok (.iconst 1, 1) := by decide +kernel
theorem dX0_guest_89 : decode cX0_guest 89 = .ok (.goto 4, 3) := by decide +kernel
theorem dX0_guest_92 : decode cX0_guest 92 = .ok (.iconst 0, 1) := by decide +kernel
theorem dX0_guest_93 : decode cX0_guest 93 = .ok (.invokestatic 78, 3) := by decide +kernel
theorem dX0_guest_96 : decode cX0_guest 96 = .ok (.ireturn, 1) := by decide +kernel
theorem dX0_guest_97 : decode cX0_guest 97 = .ok (.aload_n 0, 1) := by decide +kernel
theorem dX0_guest_98 : decode cX0_guest 98 = .ok (.getfield 19, 3) := by decide +kernel
theorem dX0_guest_101 : decode cX0_guest 101 = .ok (.iload_n 1, 1) := by decide +kernel
theorem dX0_guest_102 : decode cX0_guest 102 = .ok (.invokestatic 100, 3) := by decide +kernel
theorem dX0_guest_105 : decode cX0_guest 105 = .ok (.invokestatic 78, 3) := by decide +kernel
theorem dX0_guest_108 : decode cX0_guest 108 = .ok (.ireturn, 1) := by decide +kernel
theorem dX0_guest_109 : decode cX0_guest 109 = .ok (.aload_n 0, 1) := by decide +kernel
theorem dX0_guest_110 : decode cX0_guest 110 = .ok (.iload_n 3, 1) := by decide +kernel
theorem dX0_guest_111 : decode cX0_guest 111 = .ok (.invokevirtual 103, 3) := by decide +kernel
theorem dX0_guest_114 : decode cX0_guest 114 = .ok (.invokestatic 106, 3) := by decide +kernel
theorem dX0_guest_117 : decode cX0_guest 117 = .ok (.ireturn, 1) := by decide +kernel
theorem dX0_fits_0 : decode cX0_fits 0 = .ok (.aload_n 0, 1) := by decide +kernel
theorem dX0_fits_1 : decode cX0_fits 1 = .ok (.getfield 111, 3) := by decide +kernel
theorem dX0_fits_4 : decode cX0_fits 4 = .ok (.ifCond .le 7, 3) := by decide +kernel
theorem dX0_fits_7 : decode cX0_fits 7 = .ok (.iconst 1, 1) := by decide +kernel
theorem dX0_fits_8 : decode cX0_fits 8 = .ok (.goto 4, 3) := by decide +kernel
theorem dX0_fits_11 : decode cX0_fits 11 = .ok (.iconst 0, 1) := by decide +kernel
theorem dX0_fits_12 : decode cX0_fits 12 = .ok (.ireturn, 1) := by decide +kernel
set_option maxRecDepth 20000 in
theorem ggX0_seat_X0_fits : GoodIn wsX0_seat wsX0_fits := goodIn_r _ [6, 7, 19, 20, 21, 22, 23, 24, 25, 26, 27, 28] (by decide +kernel) (by decide +kernel)
set_option maxRecDepth 20000 in
theorem gX0_seat_X0_fits : GoodIn wsX0_seat (wsV RX0 89 RX0 yX0_fits wsX0_fits) := goodIn_app (goodIn_of _ (by decide +kernel)) ggX0_seat_X0_fits
set_option maxRecDepth 20000 in
theorem ggX0_seat_X0_at : GoodIn wsX0_seat wsX0_at := goodIn_r _ [10] (by decide +kernel) (by decide +kernel)
set_option maxRecDepth 20000 in
theorem gX0_seat_X0_at : GoodIn wsX0_seat (va_wsS RX0 74 yX0_at wsX0_at) := goodIn_app (goodIn_of _ (by decide +kernel)) ggX0_seat_X0_at
set_option maxRecDepth 20000 in
theorem ggX0_seat_X0_guestsComing : GoodIn wsX0_seat wsX0_guestsComing := goodIn_r _ [14, 15, 16, 17, 5, 18, 19, 20, 21, 22, 23, 24, 25, 26, 27, 28] (by decide +kernel) (by decide +kernel)
set_option maxRecDepth 20000 in
theorem gX0_seat_X0_guestsComing : GoodIn wsX0_seat (wsV RX0 114 RX0 yX0_guestsComing wsX0_guestsComing) := goodIn_app (goodIn_of _ (by decide +kernel)) ggX0_seat_X0_guestsComing
theorem dX0_seat_0 : decode cX0_seat 0 = .ok (.aload_n 0, 1) := by decide +kernel
theorem dX0_seat_1 : decode cX0_seat 1 = .ok (.invokevirtual 89, 3) := by decide +kernel
theorem dX0_seat_4 : decode cX0_seat 4 = .ok (.ifCond .eq 18, 3) := by decide +kernel
theorem dX0_seat_7 : decode cX0_seat 7 = .ok (.aload_n 0, 1) := by decide +kernel
theorem dX0_seat_8 : decode cX0_seat 8 = .ok (.aload_n 0, 1) := by decide +kernel
theorem dX0_seat_9 : decode cX0_seat 9 = .ok (.getfield 25, 3) := by decide +kernel
theorem dX0_seat_12 : decode cX0_seat 12 = .ok (.iconst 0, 1) := by decide +kernel
theorem dX0_seat_13 : decode cX0_seat 13 = .ok (.invokestatic 74, 3) := by decide +kernel
theorem dX0_seat_16 : decode cX0_seat 16 = .ok (.invokevirtual 114, 3) := by decide +kernel
theorem dX0_seat_19 : decode cX0_seat 19 = .ok (.goto 4, 3) := by decide +kernel
theorem dX0_seat_22 : decode cX0_seat 22 = .ok (.iconst (-1), 1) := by decide +kernel
theorem dX0_seat_23 : decode cX0_seat 23 = .ok (.ireturn, 1) := by decide +kernel
theorem dX0_seatings_0 : decode cX0_seatings 0 = .ok (.aload_n 0, 1) := by decide +kernel
theorem dX0_seatings_1 : decode cX0_seatings 1 = .ok (.getfield 111, 3) := by decide +kernel
theorem dX0_seatings_4 : decode cX0_seatings 4 = .ok (.ireturn, 1) := by decide +kernel
set_option maxRecDepth 20000 in
theorem ggX0_fewest_X0_at : GoodIn wsX0_fewest wsX0_at := goodIn_r _ [6] (by decide +kernel) (by decide +kernel)
set_option maxRecDepth 20000 in
theorem gX0_fewest_X0_at : GoodIn wsX0_fewest (va_wsS RX0 74 yX0_at wsX0_at) := goodIn_app (goodIn_of _ (by decide +kernel)) ggX0_fewest_X0_at
set_option maxRecDepth 20000 in
theorem ggX0_fewest_X0_countComing : GoodIn wsX0_fewest wsX0_countComing := goodIn_r _ [9, 10, 11, 12, 13, 14, 15, 16, 17] (by decide +kernel) (by decide +kernel)
set_option maxRecDepth 20000 in
theorem gX0_fewest_X0_countComing : GoodIn wsX0_fewest (va_wsS RX0 117 yX0_countComing wsX0_countComing) := goodIn_app (goodIn_of _ (by decide +kernel)) ggX0_fewest_X0_countComing
theorem dX0_fewest_0 : decode cX0_fewest 0 = .ok (.iconst (-1), 1) := by decide +kernel
theorem dX0_fewest_1 : decode cX0_fewest 1 = .ok (.istore_n 1, 1) := by decide +kernel
theorem dX0_fewest_2 : decode cX0_fewest 2 = .ok (.iconst 0, 1) := by decide +kernel
theorem dX0_fewest_3 : decode cX0_fewest 3 = .ok (.istore_n 2, 1) := by decide +kernel
theorem dX0_fewest_4 : decode cX0_fewest 4 = .ok (.iload_n 2, 1) := by decide +kernel
theorem dX0_fewest_5 : decode cX0_fewest 5 = .ok (.aload_n 0, 1) := by decide +kernel
theorem dX0_fewest_6 : decode cX0_fewest 6 = .ok (.getfield 111, 3) := by decide +kernel
theorem dX0_fewest_9 : decode cX0_fewest 9 = .ok (.if_icmp .ge 32, 3) := by decide +kernel
theorem dX0_fewest_12 : decode cX0_fewest 12 = .ok (.aload_n 0, 1) := by decide +kernel
theorem dX0_fewest_13 : decode cX0_fewest 13 = .ok (.getfield 25, 3) := by decide +kernel
theorem dX0_fewest_16 : decode cX0_fewest 16 = .ok (.iload_n 2, 1) := by decide +kernel
theorem dX0_fewest_17 : decode cX0_fewest 17 = .ok (.invokestatic 74, 3) := by decide +kernel
theorem dX0_fewest_20 : decode cX0_fewest 20 = .ok (.invokestatic 117, 3) := by decide +kernel
theorem dX0_fewest_23 : decode cX0_fewest 23 = .ok (.istore_n 3, 1) := by decide +kernel
theorem dX0_fewest_24 : decode cX0_fewest 24 = .ok (.iload_n 2, 1) := by decide +kernel
theorem dX0_fewest_25 : decode cX0_fewest 25 = .ok (.ifCond .eq 8, 3) := by decide +kernel
theorem dX0_fewest_28 : decode cX0_fewest 28 = .ok (.iload_n 3, 1) := by decide +kernel
theorem dX0_fewest_29 : decode cX0_fewest 29 = .ok (.iload_n 1, 1) := by decide +kernel
theorem dX0_fewest_30 : decode cX0_fewest 30 = .ok (.if_icmp .ge 5, 3) := by decide +kernel
theorem dX0_fewest_33 : decode cX0_fewest 33 = .ok (.iload_n 3, 1) := by decide +kernel
theorem dX0_fewest_34 : decode cX0_fewest 34 = .ok (.istore_n 1, 1) := by decide +kernel
theorem dX0_fewest_35 : decode cX0_fewest 35 = .ok (.iinc 2 1, 3) := by decide +kernel
theorem dX0_fewest_38 : decode cX0_fewest 38 = .ok (.goto (-34), 3) := by decide +kernel
theorem dX0_fewest_41 : decode cX0_fewest 41 = .ok (.iload_n 1, 1) := by decide +kernel
theorem dX0_fewest_42 : decode cX0_fewest 42 = .ok (.ireturn, 1) := by decide +kernel
set_option maxRecDepth 20000 in
theorem ggX0_most_X0_at : GoodIn wsX0_most wsX0_at := goodIn_r _ [10] (by decide +kernel) (by decide +kernel)
set_option maxRecDepth 20000 in
theorem gX0_most_X0_at : GoodIn wsX0_most (va_wsS RX0 74 yX0_at wsX0_at) := goodIn_app (goodIn_of _ (by decide +kernel)) ggX0_most_X0_at
set_option maxRecDepth 20000 in
theorem ggX0_most_X0_countComing : GoodIn wsX0_most wsX0_countComing := goodIn_r _ [13, 14, 15, 16, 17, 18, 19, 20, 21] (by decide +kernel) (by decide +kernel)
set_option maxRecDepth 20000 in
theorem gX0_most_X0_countComing : GoodIn wsX0_most (va_wsS RX0 117 yX0_countComing wsX0_countComing) := goodIn_app (goodIn_of _ (by decide +kernel)) ggX0_most_X0_countComing
theorem dX0_most_0 : decode cX0_most 0 = .ok (.iconst (-1), 1) := by decide +kernel
theorem dX0_most_1 : decode cX0_most 1 = .ok (.istore_n 1, 1) := by decide +kernel
theorem dX0_most_2 : decode cX0_most 2 = .ok (.iconst 0, 1) := by decide +kernel
theorem dX0_most_3 : decode cX0_most 3 = .ok (.istore_n 2, 1) := by decide +kernel
theorem dX0_most_4 : decode cX0_most 4 = .ok (.iload_n 2, 1) := by decide +kernel
theorem dX0_most_5 : decode cX0_most 5 = .ok (.aload_n 0, 1) := by decide +kernel
theorem dX0_most_6 : decode cX0_most 6 = .ok (.getfield 111, 3) := by decide +kernel
theorem dX0_most_9 : decode cX0_most 9 = .ok (.if_icmp .ge 25, 3) := by decide +kernel
theorem dX0_most_12 : decode cX0_most 12 = .ok (.iload_n 1, 1) := by decide +kernel
theorem dX0_most_13 : decode cX0_most 13 = .ok (.aload_n 0, 1) := by decide +kernel
theorem dX0_most_14 : decode cX0_most 14 = .ok (.getfield 25, 3) := by decide +kernel
theorem dX0_most_17 : decode cX0_most 17 = .ok (.iload_n 2, 1) := by decide +kernel
theorem dX0_most_18 : decode cX0_most 18 = .ok (.invokestatic 74, 3) := by decide +kernel
theorem dX0_most_21 : decode cX0_most 21 = .ok (.invokestatic 117, 3) := by decide +kernel
theorem dX0_most_24 : decode cX0_most 24 = .ok (.invokestatic 120, 3) := by decide +kernel
theorem dX0_most_27 : decode cX0_most 27 = .ok (.istore_n 1, 1) := by decide +kernel
theorem dX0_most_28 : decode cX0_most 28 = .ok (.iinc 2 1, 3) := by decide +kernel
theorem dX0_most_31 : decode cX0_most 31 = .ok (.goto (-27), 3) := by decide +kernel
theorem dX0_most_34 : decode cX0_most 34 = .ok (.iload_n 1, 1) := by decide +kernel
theorem dX0_most_35 : decode cX0_most 35 = .ok (.ireturn, 1) := by decide +kernel
set_option maxRecDepth 20000 in
theorem ggX0_broken_X0_has : GoodIn wsX0_broken wsX0_has := goodIn_r _ [11] (by decide +kernel) (by decide +kernel)
set_option maxRecDepth 20000 in
theorem gX0_broken_X0_has : GoodIn wsX0_broken (va_wsS RX0 67 yX0_has wsX0_has) := goodIn_app (goodIn_of _ (by decide +kernel)) ggX0_broken_X0_has
set_option maxRecDepth 20000 in
theorem ggX0_broken_X0_at : GoodIn wsX0_broken wsX0_at := goodIn_r _ [14] (by decide +kernel) (by decide +kernel)
set_option maxRecDepth 20000 in
theorem gX0_broken_X0_at : GoodIn wsX0_broken (va_wsS RX0 74 yX0_at wsX0_at) := goodIn_app (goodIn_of _ (by decide +kernel)) ggX0_broken_X0_at
set_option maxRecDepth 20000 in
theorem ggX0_broken_X0_holds : GoodIn wsX0_broken wsX0_holds := goodIn_r _ [17, 8, 9, 10, 11] (by decide +kernel) (by decide +kernel)
set_option maxRecDepth 20000 in
theorem gX0_broken_X0_holds : GoodIn wsX0_broken (va_wsS RX0 128 yX0_holds wsX0_holds) := goodIn_app (goodIn_of _ (by decide +kernel)) ggX0_broken_X0_holds
theorem dX0_broken_0 : decode cX0_broken 0 = .ok (.iload_n 1, 1) := by decide +kernel
theorem dX0_broken_1 : decode cX0_broken 1 = .ok (.ifCond .lt 13, 3) := by decide +kernel
theorem dX0_broken_4 : decode cX0_broken 4 = .ok (.iload_n 1, 1) := by decide +kernel
theorem dX0_broken_5 : decode cX0_broken 5 = .ok (.iconst 1, 1) := by decide +kernel
theorem dX0_broken_6 : decode cX0_broken 6 = .ok (.aload_n 0, 1) := by decide +kernel
theorem dX0_broken_7 : decode cX0_broken 7 = .ok (.getfield 31, 3) := by decide +kernel
theorem dX0_broken_10 : decode cX0_broken 10 = .ok (.ishl, 1) := by decide +kernel
theorem dX0_broken_11 : decode cX0_broken 11 = .ok (.if_icmp .lt 13, 3) := by decide +kernel
theorem dX0_broken_14 : decode cX0_broken 14 = .ok (.new 46, 3) := by decide +kernel
theorem dX0_broken_17 : decode cX0_broken 17 = .ok (.dup, 1) := by decide +kernel
theorem dX0_broken_18 : decode cX0_broken 18 = .ok (.ldc 126, 2) := by decide +kernel
theorem dX0_broken_20 : decode cX0_broken 20 = .ok (.invokespecial 50, 3) := by decide +kernel
theorem dX0_broken_23 : decode cX0_broken 23 = .ok (.athrow, 1) := by decide +kernel
theorem dX0_broken_24 : decode cX0_broken 24 = .ok (.iconst 0, 1) := by decide +kernel
theorem dX0_broken_25 : decode cX0_broken 25 = .ok (.istore_n 2, 1) := by decide +kernel
theorem dX0_broken_26 : decode cX0_broken 26 = .ok (.iload_n 2, 1) := by decide +kernel
theorem dX0_broken_27 : decode cX0_broken 27 = .ok (.aload_n 0, 1) := by decide +kernel
theorem dX0_broken_28 : decode cX0_broken 28 = .ok (.getfield 51, 3) := by decide +kernel
theorem dX0_broken_31 : decode cX0_broken 31 = .ok (.if_icmp .ge 52, 3) := by decide +kernel
theorem dX0_broken_34 : decode cX0_broken 34 = .ok (.aload_n 0, 1) := by decide +kernel
theorem dX0_broken_35 : decode cX0_broken 35 = .ok (.getfield 60, 3) := by decide +kernel
theorem dX0_broken_38 : decode cX0_broken 38 = .ok (.iload_n 2, 1) := by decide +kernel
theorem dX0_broken_39 : decode cX0_broken 39 = .ok (.invokestatic 67, 3) := by decide +kernel
theorem dX0_broken_42 : decode cX0_broken 42 = .ok (.ifCond .eq 35, 3) := by decide +kernel
theorem dX0_broken_45 : decode cX0_broken 45 = .ok (.aload_n 0, 1) := by decide +kernel
theorem dX0_broken_46 : decode cX0_broken 46 = .ok (.getfield 9, 3) := by decide +kernel
theorem dX0_broken_49 : decode cX0_broken 49 = .ok (.iload_n 2, 1) := by decide +kernel
theorem dX0_broken_50 : decode cX0_broken 50 = .ok (.invokestatic 74, 3) := by decide +kernel
theorem dX0_broken_53 : decode cX0_broken 53 = .ok (.iload_n 1, 1) := by decide +kernel
theorem dX0_broken_54 : decode cX0_broken 54 = .ok (.invokestatic 128, 3) := by decide +kernel
theorem dX0_broken_57 : decode cX0_broken 57 = .ok (.ifCond .eq 20, 3) := by decide +kernel
theorem dX0_broken_60 : decode cX0_broken 60 = .ok (.aload_n 0, 1) := by decide +kernel
theorem dX0_broken_61 : decode cX0_broken 61 = .ok (.getfield 13, 3) := by decide +kernel
theorem dX0_broken_64 : decode cX0_broken 64 = .ok (.iload_n 2, 1) := by decide +kernel
theorem dX0_broken_65 : decode cX0_broken 65 = .ok (.invokestatic 74, 3) := by decide +kernel
theorem dX0_broken_68 : decode cX0_broken 68 = .ok (.iload_n 1, 1) := by decide +kernel
theorem dX0_broken_69 : decode cX0_broken 69 = .ok (.invokestatic 128, 3) := by decide +kernel
theorem dX0_broken_72 : decode cX0_broken 72 = .ok (.ifCond .ne 5, 3) := by decide +kernel
theorem dX0_broken_75 : decode cX0_broken 75 = .ok (.iload_n 2, 1) := by decide +kernel
theorem dX0_broken_76 : decode cX0_broken 76 = .ok (.ireturn, 1) := by decide +kernel
theorem dX0_broken_77 : decode cX0_broken 77 = .ok (.iinc 2 1, 3) := by decide +kernel
theorem dX0_broken_80 : decode cX0_broken 80 = .ok (.goto (-54), 3) := by decide +kernel
theorem dX0_broken_83 : decode cX0_broken 83 = .ok (.iconst (-1), 1) := by decide +kernel
theorem dX0_broken_84 : decode cX0_broken 84 = .ok (.ireturn, 1) := by decide +kernel
set_option maxRecDepth 20000 in
theorem ggX0_blame_X0_fits : GoodIn wsX0_blame wsX0_fits := goodIn_r _ [7, 8, 52, 53, 54, 55, 56, 57, 58, 59, 60, 61] (by decide +kernel) (by decide +kernel)
set_option maxRecDepth 20000 in
theorem gX0_blame_X0_fits : GoodIn wsX0_blame (wsV RX0 89 RX0 yX0_fits wsX0_fits) := goodIn_app (goodIn_of _ (by decide +kernel)) ggX0_blame_X0_fits
set_option maxRecDepth 20000 in
theorem ggX0_blame_X0_has : GoodIn wsX0_blame wsX0_has := goodIn_r _ [11] (by decide +kernel) (by decide +kernel)
set_option maxRecDepth 20000 in
theorem gX0_blame_X0_has : GoodIn wsX0_blame (va_wsS RX0 67 yX0_has wsX0_has) := goodIn_app (goodIn_of _ (by decide +kernel)) ggX0_blame_X0_has
set_option maxRecDepth 20000 in
theorem ggX0_blame_X0_fitsWithout : GoodIn wsX0_blame wsX0_fitsWithout := goodIn_r _ [15, 16, 17, 18, 19, 6, 20, 1, 2, 21, 22, 9, 10, 11, 23, 24, 25, 26, 27, 28, 29, 30, 31, 32, 33, 34, 35, 36, 37, 38, 39, 40, 41, 42, 43, 44, 45, 46, 47, 48, 49, 50, 51, 52, 53, 54, 55, 56, 57, 58, 59, 60, 61] (by decide +kernel) (by decide +kernel)
set_option maxRecDepth 20000 in
theorem gX0_blame_X0_fitsWithout : GoodIn wsX0_blame (wsV RX0 131 RX0 yX0_fitsWithout wsX0_fitsWithout) := goodIn_app (goodIn_of _ (by decide +kernel)) ggX0_blame_X0_fitsWithout
theorem dX0_blame_0 : decode cX0_blame 0 = .ok (.aload_n 0, 1) := by decide +kernel
theorem dX0_blame_1 : decode cX0_blame 1 = .ok (.invokevirtual 89, 3) := by decide +kernel
theorem dX0_blame_4 : decode cX0_blame 4 = .ok (.ifCond .eq 5, 3) := by decide +kernel
theorem dX0_blame_7 : decode cX0_blame 7 = .ok (.iconst (-1), 1) := by decide +kernel
theorem dX0_blame_8 : decode cX0_blame 8 = .ok (.ireturn, 1) := by decide +kernel
theorem dX0_blame_9 : decode cX0_blame 9 = .ok (.iconst 0, 1) := by decide +kernel
theorem dX0_blame_10 : decode cX0_blame 10 = .ok (.istore_n 1, 1) := by decide +kernel
theorem dX0_blame_11 : decode cX0_blame 11 = .ok (.iload_n 1, 1) := by decide +kernel
theorem dX0_blame_12 : decode cX0_blame 12 = .ok (.aload_n 0, 1) := by decide +kernel
theorem dX0_blame_13 : decode cX0_blame 13 = .ok (.getfield 51, 3) := by decide +kernel
theorem dX0_blame_16 : decode cX0_blame 16 = .ok (.if_icmp .ge 30, 3) := by decide +kernel
theorem dX0_blame_19 : decode cX0_blame 19 = .ok (.aload_n 0, 1) := by decide +kernel
theorem dX0_blame_20 : decode cX0_blame 20 = .ok (.getfield 60, 3) := by decide +kernel
theorem dX0_blame_23 : decode cX0_blame 23 = .ok (.iload_n 1, 1) := by decide +kernel
theorem dX0_blame_24 : decode cX0_blame 24 = .ok (.invokestatic 67, 3) := by decide +kernel
theorem dX0_blame_27 : decode cX0_blame 27 = .ok (.ifCond .eq 13, 3) := by decide +kernel
theorem dX0_blame_30 : decode cX0_blame 30 = .ok (.aload_n 0, 1) := by decide +kernel
theorem dX0_blame_31 : decode cX0_blame 31 = .ok (.iload_n 1, 1) := by decide +kernel
theorem dX0_blame_32 : decode cX0_blame 32 = .ok (.invokevirtual 131, 3) := by decide +kernel
theorem dX0_blame_35 : decode cX0_blame 35 = .ok (.ifCond .eq 5, 3) := by decide +kernel
theorem dX0_blame_38 : decode cX0_blame 38 = .ok (.iload_n 1, 1) := by decide +kernel
theorem dX0_blame_39 : decode cX0_blame 39 = .ok (.ireturn, 1) := by decide +kernel
theorem dX0_blame_40 : decode cX0_blame 40 = .ok (.iinc 1 1, 3) := by decide +kernel
theorem dX0_blame_43 : decode cX0_blame 43 = .ok (.goto (-32), 3) := by decide +kernel
theorem dX0_blame_46 : decode cX0_blame 46 = .ok (.iconst (-1), 1) := by decide +kernel
theorem dX0_blame_47 : decode cX0_blame 47 = .ok (.ireturn, 1) := by decide +kernel
set_option maxRecDepth 20000 in
theorem ggX0_tightens_X0_requireWishes : GoodIn wsX0_tightens wsX0_requireWishes := goodIn_ca (goodIn_r _ [7, 8, 9, 10, 11, 12, 6, 13, 14, 21, 22, 23, 24, 25, 26, 27, 28, 29, 30] (by decide +kernel) (by decide +kernel)) (goodIn_sub (fun _ h => List.mem_cons_of_mem _ (List.mem_append_right _ h)) (by decide +kernel))
set_option maxRecDepth 20000 in
theorem gX0_tightens_X0_requireWishes : GoodIn wsX0_tightens (wsV RX0 42 RX0 yX0_requireWishes wsX0_requireWishes) := goodIn_app (goodIn_of _ (by decide +kernel)) ggX0_tightens_X0_requireWishes
set_option maxRecDepth 20000 in
theorem ggX0_tightens_X0_at : GoodIn wsX0_tightens wsX0_at := goodIn_r _ [17] (by decide +kernel) (by decide +kernel)
set_option maxRecDepth 20000 in
theorem gX0_tightens_X0_at : GoodIn wsX0_tightens (va_wsS RX0 74 yX0_at wsX0_at) := goodIn_app (goodIn_of _ (by decide +kernel)) ggX0_tightens_X0_at
set_option maxRecDepth 20000 in
theorem ggX0_tightens_X0_has : GoodIn wsX0_tightens wsX0_has := goodIn_r _ [20] (by decide +kernel) (by decide +kernel)
set_option maxRecDepth 20000 in
theorem gX0_tightens_X0_has : GoodIn wsX0_tightens (va_wsS RX0 67 yX0_has wsX0_has) := goodIn_app (goodIn_of _ (by decide +kernel)) ggX0_tightens_X0_has
theorem dX0_tightens_0 : decode cX0_tightens 0 = .ok (.aload_n 0, 1) := by decide +kernel
theorem dX0_tightens_1 : decode cX0_tightens 1 = .ok (.iload_n 1, 1) := by decide +kernel
theorem dX0_tightens_2 : decode cX0_tightens 2 = .ok (.iload_n 2, 1) := by decide +kernel
theorem dX0_tightens_3 : decode cX0_tightens 3 = .ok (.invokevirtual 42, 3) := by decide +kernel
theorem dX0_tightens_6 : decode cX0_tightens 6 = .ok (.iconst 0, 1) := by decide +kernel
theorem dX0_tightens_7 : decode cX0_tightens 7 = .ok (.istore_n 3, 1) := by decide +kernel
theorem dX0_tightens_8 : decode cX0_tightens 8 = .ok (.iconst 0, 1) := by decide +kernel
theorem dX0_tightens_9 : decode cX0_tightens 9 = .ok (.istore 4, 2) := by decide +kernel
theorem dX0_tightens_11 : decode cX0_tightens 11 = .ok (.iload 4, 2) := by decide +kernel
theorem dX0_tightens_13 : decode cX0_tightens 13 = .ok (.aload_n 0, 1) := by decide +kernel
theorem dX0_tightens_14 : decode cX0_tightens 14 = .ok (.getfield 111, 3) := by decide +kernel
theorem dX0_tightens_17 : decode cX0_tightens 17 = .ok (.if_icmp .ge 41, 3) := by decide +kernel
theorem dX0_tightens_20 : decode cX0_tightens 20 = .ok (.aload_n 0, 1) := by decide +kernel
theorem dX0_tightens_21 : decode cX0_tightens 21 = .ok (.getfield 25, 3) := by decide +kernel
theorem dX0_tightens_24 : decode cX0_tightens 24 = .ok (.iload 4, 2) := by decide +kernel
theorem dX0_tightens_26 : decode cX0_tightens 26 = .ok (.invokestatic 74, 3) := by decide +kernel
theorem dX0_tightens_29 : decode cX0_tightens 29 = .ok (.istore 5, 2) := by decide +kernel
theorem dX0_tightens_31 : decode cX0_tightens 31 = .ok (.iload 5, 2) := by decide +kernel
theorem dX0_tightens_33 : decode cX0_tightens 33 = .ok (.iload_n 1, 1) := by decide +kernel
theorem dX0_tightens_34 : decode cX0_tightens 34 = .ok (.invokestatic 67, 3) := by decide +kernel
theorem dX0_tightens_37 : decode cX0_tightens 37 = .ok (.ifCond .eq 15, 3) := by decide +kernel
theorem dX0_tightens_40 : decode cX0_tightens 40 = .ok (.iload 5, 2) := by decide +kernel
theorem dX0_tightens_42 : decode cX0_tightens 42 = .ok (.iload_n 2, 1) := by decide +kernel
theorem dX0_tightens_43 : decode cX0_tightens 43 = .ok (.invokestatic 67, 3) := by decide +kernel
theorem dX0_tightens_46 : decode cX0_tightens 46 = .ok (.ifCond .ne 6, 3) := by decide +kernel
theorem dX0_tightens_49 : decode cX0_tightens 49 = .ok (.iinc 3 1, 3) := by decide +kernel
theorem dX0_tightens_52 : decode cX0_tightens 52 = .ok (.iinc 4 1, 3) := by decide +kernel
theorem dX0_tightens_55 : decode cX0_tightens 55 = .ok (.goto (-44), 3) := by decide +kernel
theorem dX0_tightens_58 : decode cX0_tightens 58 = .ok (.iload_n 3, 1) := by decide +kernel
theorem dX0_tightens_59 : decode cX0_tightens 59 = .ok (.ireturn, 1) := by decide +kernel
set_option maxRecDepth 20000 in
theorem ggX0_count_X0_requireFact : GoodIn wsX0_count wsX0_requireFact := goodIn_ca (goodIn_r _ [8, 9, 10] (by decide +kernel) (by decide +kernel)) (goodIn_sub (fun _ h => List.mem_cons_of_mem _ (List.mem_append_right _ h)) (by decide +kernel))
set_option maxRecDepth 20000 in
theorem gX0_count_X0_requireFact : GoodIn wsX0_count (va_wsS RX0 71 yX0_requireFact wsX0_requireFact) := goodIn_app (goodIn_of _ (by decide +kernel)) ggX0_count_X0_requireFact
set_option maxRecDepth 20000 in
theorem ggX0_count_J6_bitCount_0f7a4 : GoodIn wsX0_count wsJ6_bitCount_0f7a4 := goodIn_r _ [14, 15, 16, 17] (by decide +kernel) (by decide +kernel)
set_option maxRecDepth 20000 in
theorem gX0_count_J6_bitCount_0f7a4 : GoodIn wsX0_count (va_wsS RX0 106 yJ6_bitCount_0f7a4 wsJ6_bitCount_0f7a4) := goodIn_app (goodIn_of _ (by decide +kernel)) ggX0_count_J6_bitCount_0f7a4
set_option maxRecDepth 20000 in
theorem ggX0_count_X0_countTorn : GoodIn wsX0_count wsX0_countTorn := goodIn_r _ [21, 1, 22, 23, 7, 24, 25, 26, 27, 28, 29, 30, 31, 32, 33, 34, 35, 36, 37, 38, 39, 52, 53, 54, 55, 56, 57, 58, 59, 60, 61] (by decide +kernel) (by decide +kernel)
set_option maxRecDepth 20000 in
theorem gX0_count_X0_countTorn : GoodIn wsX0_count (wsV RX0 135 RX0 yX0_countTorn wsX0_countTorn) := goodIn_app (goodIn_of _ (by decide +kernel)) ggX0_count_X0_countTorn
set_option maxRecDepth 20000 in
theorem ggX0_count_X0_countVain : GoodIn wsX0_count wsX0_countVain := goodIn_r _ [43, 4, 44, 45, 46, 7, 47, 1, 25, 26, 27, 28, 29, 30, 31, 32, 33, 34, 35, 36, 37, 38, 39, 52, 53, 54, 55, 56, 57, 58, 59, 60, 61] (by decide +kernel) (by decide +kernel)
set_option maxRecDepth 20000 in
theorem gX0_count_X0_countVain : GoodIn wsX0_count (wsV RX0 139 RX0 yX0_countVain wsX0_countVain) := goodIn_app (goodIn_of _ (by decide +kernel)) ggX0_count_X0_countVain
set_option maxRecDepth 20000 in
theorem ggX0_count_X0_countPairs : GoodIn wsX0_count wsX0_countPairs := goodIn_r _ [51, 4, 44, 45, 46, 7, 47, 1, 28, 29, 30, 11, 12, 13, 14, 15, 16, 17, 52, 53, 54, 55, 56, 57, 58, 59, 60, 61] (by decide +kernel) (by decide +kernel)
set_option maxRecDepth 20000 in
theorem gX0_count_X0_countPairs : GoodIn wsX0_count (wsV RX0 143 RX0 yX0_countPairs wsX0_countPairs) := goodIn_app (goodIn_of _ (by decide +kernel)) ggX0_count_X0_countPairs
theorem dX0_count_0 : decode cX0_count 0 = .ok (.iload_n 1, 1) := by decide +kernel
theorem dX0_count_1 : decode cX0_count 1 = .ok (.bipush 6, 2) := by decide +kernel
theorem dX0_count_3 : decode cX0_count 3 = .ok (.invokestatic 71, 3) := by decide +kernel
theorem dX0_count_6 : decode cX0_count 6 = .ok (.iload_n 1, 1) := by decide +kernel
theorem dX0_count_7 : decode cX0_count 7 = .ok (.tableswitch 65 0 4 #[33, 38, 43, 51, 60], 33) := by decide +kernel
theorem dX0_count_40 : decode cX0_count 40 = .ok (.aload_n 0, 1) := by decide +kernel
theorem dX0_count_41 : decode cX0_count 41 = .ok (.getfield 31, 3) := by decide +kernel
theorem dX0_count_44 : decode cX0_count 44 = .ok (.ireturn, 1) := by decide +kernel
theorem dX0_count_45 : decode cX0_count 45 = .ok (.aload_n 0, 1) := by decide +kernel
theorem dX0_count_46 : decode cX0_count 46 = .ok (.getfield 51, 3) := by decide +kernel
theorem dX0_count_49 : decode cX0_count 49 = .ok (.ireturn, 1) := by decide +kernel
theorem dX0_count_50 : decode cX0_count 50 = .ok (.aload_n 0, 1) := by decide +kernel
theorem dX0_count_51 : decode cX0_count 51 = .ok (.getfield 60, 3) := by decide +kernel
theorem dX0_count_54 : decode cX0_count 54 = .ok (.invokestatic 106, 3) := by decide +kernel
theorem dX0_count_57 : decode cX0_count 57 = .ok (.ireturn, 1) := by decide +kernel
theorem dX0_count_58 : decode cX0_count 58 = .ok (.aload_n 0, 1) := by decide +kernel
theorem dX0_count_59 : decode cX0_count 59 = .ok (.aload_n 0, 1) := by decide +kernel
theorem dX0_count_60 : decode cX0_count 60 = .ok (.getfield 19, 3) := by decide +kernel
theorem dX0_count_63 : decode cX0_count 63 = .ok (.invokevirtual 135, 3) := by decide +kernel
theorem dX0_count_66 : decode cX0_count 66 = .ok (.ireturn, 1) := by decide +kernel
theorem dX0_count_67 : decode cX0_count 67 = .ok (.aload_n 0, 1) := by decide +kernel
theorem dX0_count_68 : decode cX0_count 68 = .ok (.invokevirtual 139, 3) := by decide +kernel
theorem dX0_count_71 : decode cX0_count 71 = .ok (.ireturn, 1) := by decide +kernel
theorem dX0_count_72 : decode cX0_count 72 = .ok (.aload_n 0, 1) := by decide +kernel
theorem dX0_count_73 : decode cX0_count 73 = .ok (.invokevirtual 143, 3) := by decide +kernel
theorem dX0_count_76 : decode cX0_count 76 = .ok (.ireturn, 1) := by decide +kernel
set_option maxRecDepth 20000 in
theorem ggX0_mean_X0_at : GoodIn wsX0_mean wsX0_at := goodIn_r _ [6] (by decide +kernel) (by decide +kernel)
set_option maxRecDepth 20000 in
theorem gX0_mean_X0_at : GoodIn wsX0_mean (va_wsS RX0 74 yX0_at wsX0_at) := goodIn_app (goodIn_of _ (by decide +kernel)) ggX0_mean_X0_at
set_option maxRecDepth 20000 in
theorem ggX0_mean_X0_countComing : GoodIn wsX0_mean wsX0_countComing := goodIn_r _ [9, 10, 11, 12, 13, 14, 15, 16, 17] (by decide +kernel) (by decide +kernel)
set_option maxRecDepth 20000 in
theorem gX0_mean_X0_countComing : GoodIn wsX0_mean (va_wsS RX0 117 yX0_countComing wsX0_countComing) := goodIn_app (goodIn_of _ (by decide +kernel)) ggX0_mean_X0_countComing
theorem dX0_mean_0 : decode cX0_mean 0 = .ok (.aload_n 0, 1) := by decide +kernel
theorem dX0_mean_1 : decode cX0_mean 1 = .ok (.getfield 111, 3) := by decide +kernel
theorem dX0_mean_4 : decode cX0_mean 4 = .ok (.ifCond .ne 5, 3) := by decide +kernel
theorem dX0_mean_7 : decode cX0_mean 7 = .ok (.dconst 0, 1) := by decide +kernel
theorem dX0_mean_8 : decode cX0_mean 8 = .ok (.dreturn, 1) := by decide +kernel
theorem dX0_mean_9 : decode cX0_mean 9 = .ok (.iconst 0, 1) := by decide +kernel
theorem dX0_mean_10 : decode cX0_mean 10 = .ok (.istore_n 1, 1) := by decide +kernel
theorem dX0_mean_11 : decode cX0_mean 11 = .ok (.iconst 0, 1) := by decide +kernel
theorem dX0_mean_12 : decode cX0_mean 12 = .ok (.istore_n 2, 1) := by decide +kernel
theorem dX0_mean_13 : decode cX0_mean 13 = .ok (.iload_n 2, 1) := by decide +kernel
theorem dX0_mean_14 : decode cX0_mean 14 = .ok (.aload_n 0, 1) := by decide +kernel
theorem dX0_mean_15 : decode cX0_mean 15 = .ok (.getfield 111, 3) := by decide +kernel
theorem dX0_mean_18 : decode cX0_mean 18 = .ok (.if_icmp .ge 23, 3) := by decide +kernel
theorem dX0_mean_21 : decode cX0_mean 21 = .ok (.iload_n 1, 1) := by decide +kernel
theorem dX0_mean_22 : decode cX0_mean 22 = .ok (.aload_n 0, 1) := by decide +kernel
theorem dX0_mean_23 : decode cX0_mean 23 = .ok (.getfield 25, 3) := by decide +kernel
theorem dX0_mean_26 : decode cX0_mean 26 = .ok (.iload_n 2, 1) := by decide +kernel
theorem dX0_mean_27 : decode cX0_mean 27 = .ok (.invokestatic 74, 3) := by decide +kernel
theorem dX0_mean_30 : decode cX0_mean 30 = .ok (.invokestatic 117, 3) := by decide +kernel
theorem dX0_mean_33 : decode cX0_mean 33 = .ok (.iadd, 1) := by decide +kernel
theorem dX0_mean_34 : decode cX0_mean 34 = .ok (.istore_n 1, 1) := by decide +kernel
theorem dX0_mean_35 : decode cX0_mean 35 = .ok (.iinc 2 1, 3) := by decide +kernel
theorem dX0_mean_38 : decode cX0_mean 38 = .ok (.goto (-25), 3) := by decide +kernel
theorem dX0_mean_41 : decode cX0_mean 41 = .ok (.iload_n 1, 1) := by decide +kernel
theorem dX0_mean_42 : decode cX0_mean 42 = .ok (.i2d, 1) := by decide +kernel
theorem dX0_mean_43 : decode cX0_mean 43 = .ok (.aload_n 0, 1) := by decide +kernel
theorem dX0_mean_44 : decode cX0_mean 44 = .ok (.getfield 111, 3) := by decide +kernel
theorem dX0_mean_47 : decode cX0_mean 47 = .ok (.i2d, 1) := by decide +kernel
theorem dX0_mean_48 : decode cX0_mean 48 = .ok (.ddiv, 1) := by decide +kernel
theorem dX0_mean_49 : decode cX0_mean 49 = .ok (.dreturn, 1) := by decide +kernel
set_option maxRecDepth 20000 in
theorem ggX0_requireWishes_X0_wishCount : GoodIn wsX0_requireWishes wsX0_wishCount := goodIn_r _ [7, 8, 9, 10, 11, 12, 13, 14, 15, 16, 17, 18] (by decide +kernel) (by decide +kernel)
set_option maxRecDepth 20000 in
theorem gX0_requireWishes_X0_wishCount : GoodIn wsX0_requireWishes (wsV RX0 158 RX0 yX0_wishCount wsX0_wishCount) := goodIn_app (goodIn_of _ (by decide +kernel)) ggX0_requireWishes_X0_wishCount
theorem dX0_requireWishes_0 : decode cX0_requireWishes 0 = .ok (.iload_n 1, 1) := by decide +kernel
theorem dX0_requireWishes_1 : decode cX0_requireWishes 1 = .ok (.ifCond .lt 23, 3) := by decide +kernel
theorem dX0_requireWishes_4 : decode cX0_requireWishes 4 = .ok (.iload_n 1, 1) := by decide +kernel
theorem dX0_requireWishes_5 : decode cX0_requireWishes 5 = .ok (.aload_n 0, 1) := by decide +kernel
theorem dX0_requireWishes_6 : decode cX0_requireWishes 6 = .ok (.invokevirtual 158, 3) := by decide +kernel
theorem dX0_requireWishes_9 : decode cX0_requireWishes 9 = .ok (.if_icmp .ge 15, 3) := by decide +kernel
theorem dX0_requireWishes_12 : decode cX0_requireWishes 12 = .ok (.iload_n 2, 1) := by decide +kernel
theorem dX0_requireWishes_13 : decode cX0_requireWishes 13 = .ok (.ifCond .lt 11, 3) := by decide +kernel
theorem dX0_requireWishes_16 : decode cX0_requireWishes 16 = .ok (.iload_n 2, 1) := by decide +kernel
theorem dX0_requireWishes_17 : decode cX0_requireWishes 17 = .ok (.aload_n 0, 1) := by decide +kernel
theorem dX0_requireWishes_18 : decode cX0_requireWishes 18 = .ok (.invokevirtual 158, 3) := by decide +kernel
theorem dX0_requireWishes_21 : decode cX0_requireWishes 21 = .ok (.if_icmp .lt 13, 3) := by decide +kernel
theorem dX0_requireWishes_24 : decode cX0_requireWishes 24 = .ok (.new 167, 3) := by decide +kernel
theorem dX0_requireWishes_27 : decode cX0_requireWishes 27 = .ok (.dup, 1) := by decide +kernel
theorem dX0_requireWishes_28 : decode cX0_requireWishes 28 = .ok (.ldc 169, 2) := by decide +kernel
theorem dX0_requireWishes_30 : decode cX0_requireWishes 30 = .ok (.invokespecial 171, 3) := by decide +kernel
theorem dX0_requireWishes_33 : decode cX0_requireWishes 33 = .ok (.athrow, 1) := by decide +kernel
theorem dX0_requireWishes_34 : decode cX0_requireWishes 34 = .ok (.return_, 1) := by decide +kernel
theorem dX0_requireGuest_0 : decode cX0_requireGuest 0 = .ok (.iload_n 1, 1) := by decide +kernel
theorem dX0_requireGuest_1 : decode cX0_requireGuest 1 = .ok (.ifCond .lt 11, 3) := by decide +kernel
theorem dX0_requireGuest_4 : decode cX0_requireGuest 4 = .ok (.iload_n 1, 1) := by decide +kernel
theorem dX0_requireGuest_5 : decode cX0_requireGuest 5 = .ok (.aload_n 0, 1) := by decide +kernel
theorem dX0_requireGuest_6 : decode cX0_requireGuest 6 = .ok (.getfield 31, 3) := by decide +kernel
theorem dX0_requireGuest_9 : decode cX0_requireGuest 9 = .ok (.if_icmp .lt 13, 3) := by decide +kernel
theorem dX0_requireGuest_12 : decode cX0_requireGuest 12 = .ok (.new 167, 3) := by decide +kernel
theorem dX0_requireGuest_15 : decode cX0_requireGuest 15 = .ok (.dup, 1) := by decide +kernel
theorem dX0_requireGuest_16 : decode cX0_requireGuest 16 = .ok (.ldc 172, 2) := by decide +kernel
theorem dX0_requireGuest_18 : decode cX0_requireGuest 18 = .ok (.invokespecial 171, 3) := by decide +kernel
theorem dX0_requireGuest_21 : decode cX0_requireGuest 21 = .ok (.athrow, 1) := by decide +kernel
theorem dX0_requireGuest_22 : decode cX0_requireGuest 22 = .ok (.return_, 1) := by decide +kernel
theorem dX0_requireRule_0 : decode cX0_requireRule 0 = .ok (.iload_n 1, 1) := by decide +kernel
theorem dX0_requireRule_1 : decode cX0_requireRule 1 = .ok (.ifCond .lt 11, 3) := by decide +kernel
theorem dX0_requireRule_4 : decode cX0_requireRule 4 = .ok (.iload_n 1, 1) := by decide +kernel
theorem dX0_requireRule_5 : decode cX0_requireRule 5 = .ok (.aload_n 0, 1) := by decide +kernel
theorem dX0_requireRule_6 : decode cX0_requireRule 6 = .ok (.getfield 51, 3) := by decide +kernel
theorem dX0_requireRule_9 : decode cX0_requireRule 9 = .ok (.if_icmp .lt 13, 3) := by decide +kernel
theorem dX0_requireRule_12 : decode cX0_requireRule 12 = .ok (.new 167, 3) := by decide +kernel
theorem dX0_requireRule_15 : decode cX0_requireRule 15 = .ok (.dup, 1) := by decide +kernel
theorem dX0_requireRule_16 : decode cX0_requireRule 16 = .ok (.ldc 174, 2) := by decide +kernel
theorem dX0_requireRule_18 : decode cX0_requireRule 18 = .ok (.invokespecial 171, 3) := by decide +kernel
theorem dX0_requireRule_21 : decode cX0_requireRule 21 = .ok (.athrow, 1) := by decide +kernel
theorem dX0_requireRule_22 : decode cX0_requireRule 22 = .ok (.return_, 1) := by decide +kernel
theorem dX0_requireFact_0 : decode cX0_requireFact 0 = .ok (.iload_n 0, 1) := by decide +kernel
theorem dX0_requireFact_1 : decode cX0_requireFact 1 = .ok (.ifCond .lt 8, 3) := by decide +kernel
theorem dX0_requireFact_4 : decode cX0_requireFact 4 = .ok (.iload_n 0, 1) := by decide +kernel
theorem dX0_requireFact_5 : decode cX0_requireFact 5 = .ok (.iload_n 1, 1) := by decide +kernel
theorem dX0_requireFact_6 : decode cX0_requireFact 6 = .ok (.if_icmp .lt 13, 3) := by decide +kernel
theorem dX0_requireFact_9 : decode cX0_requireFact 9 = .ok (.new 167, 3) := by decide +kernel
theorem dX0_requireFact_12 : decode cX0_requireFact 12 = .ok (.dup, 1) := by decide +kernel
theorem dX0_requireFact_13 : decode cX0_requireFact 13 = .ok (.ldc 176, 2) := by decide +kernel
theorem dX0_requireFact_15 : decode cX0_requireFact 15 = .ok (.invokespecial 171, 3) := by decide +kernel
theorem dX0_requireFact_18 : decode cX0_requireFact 18 = .ok (.athrow, 1) := by decide +kernel
theorem dX0_requireFact_19 : decode cX0_requireFact 19 = .ok (.return_, 1) := by decide +kernel
set_option maxRecDepth 20000 in
theorem ggX0_refresh_X0_linkAllBut : GoodIn wsX0_refresh wsX0_linkAllBut := goodIn_r _ [7, 8, 9, 10, 11, 12, 13, 6, 14, 15, 16, 17, 18, 19, 20, 21, 22, 23, 24, 25, 26, 54, 55, 56, 57, 58, 59, 60, 61, 62, 63] (by decide +kernel) (by decide +kernel)
set_option maxRecDepth 20000 in
theorem gX0_refresh_X0_linkAllBut : GoodIn wsX0_refresh (wsV RX0 178 RX0 yX0_linkAllBut wsX0_linkAllBut) := goodIn_app (goodIn_of _ (by decide +kernel)) ggX0_refresh_X0_linkAllBut
set_option maxRecDepth 20000 in
theorem ggX0_refresh_X0_close : GoodIn wsX0_refresh wsX0_close := goodIn_r _ [29, 12, 13, 6, 14] (by decide +kernel) (by decide +kernel)
set_option maxRecDepth 20000 in
theorem gX0_refresh_X0_close : GoodIn wsX0_refresh (va_wsS RX0 182 yX0_close wsX0_close) := goodIn_app (goodIn_of _ (by decide +kernel)) ggX0_refresh_X0_close
set_option maxRecDepth 20000 in
theorem ggX0_refresh_X0_listSeatings : GoodIn wsX0_refresh wsX0_listSeatings := goodIn_r _ [33, 2, 34, 35, 36, 37, 38, 39, 6, 40, 41, 42, 43, 44, 45, 46, 15, 16, 17, 24, 25, 26, 12, 13, 14, 47, 48, 49, 21, 22, 23, 50, 51, 52, 53, 54, 55, 56, 57, 58, 59, 60, 61, 62, 63] (by decide +kernel) (by decide +kernel)
set_option maxRecDepth 20000 in
theorem gX0_refresh_X0_listSeatings : GoodIn wsX0_refresh (wsV RX0 186 RX0 yX0_listSeatings wsX0_listSeatings) := goodIn_app (goodIn_of _ (by decide +kernel)) ggX0_refresh_X0_listSeatings
theorem dX0_refresh_0 : decode cX0_refresh 0 = .ok (.aload_n 0, 1) := by decide +kernel
theorem dX0_refresh_1 : decode cX0_refresh 1 = .ok (.iconst (-1), 1) := by decide +kernel
theorem dX0_refresh_2 : decode cX0_refresh 2 = .ok (.aload_n 0, 1) := by decide +kernel
theorem dX0_refresh_3 : decode cX0_refresh 3 = .ok (.getfield 16, 3) := by decide +kernel
theorem dX0_refresh_6 : decode cX0_refresh 6 = .ok (.invokevirtual 178, 3) := by decide +kernel
theorem dX0_refresh_9 : decode cX0_refresh 9 = .ok (.aload_n 0, 1) := by decide +kernel
theorem dX0_refresh_10 : decode cX0_refresh 10 = .ok (.iconst (-1), 1) := by decide +kernel
theorem dX0_refresh_11 : decode cX0_refresh 11 = .ok (.aload_n 0, 1) := by decide +kernel
theorem dX0_refresh_12 : decode cX0_refresh 12 = .ok (.getfield 19, 3) := by decide +kernel
theorem dX0_refresh_15 : decode cX0_refresh 15 = .ok (.invokevirtual 178, 3) := by decide +kernel
theorem dX0_refresh_18 : decode cX0_refresh 18 = .ok (.aload_n 0, 1) := by decide +kernel
theorem dX0_refresh_19 : decode cX0_refresh 19 = .ok (.getfield 19, 3) := by decide +kernel
theorem dX0_refresh_22 : decode cX0_refresh 22 = .ok (.invokestatic 182, 3) := by decide +kernel
theorem dX0_refresh_25 : decode cX0_refresh 25 = .ok (.aload_n 0, 1) := by decide +kernel
theorem dX0_refresh_26 : decode cX0_refresh 26 = .ok (.invokevirtual 186, 3) := by decide +kernel
theorem dX0_refresh_29 : decode cX0_refresh 29 = .ok (.return_, 1) := by decide +kernel
set_option maxRecDepth 20000 in
theorem ggX0_linkAllBut_X0_has : GoodIn wsX0_linkAllBut wsX0_has := goodIn_r _ [8] (by decide +kernel) (by decide +kernel)
set_option maxRecDepth 20000 in
theorem gX0_linkAllBut_X0_has : GoodIn wsX0_linkAllBut (va_wsS RX0 67 yX0_has wsX0_has) := goodIn_app (goodIn_of _ (by decide +kernel)) ggX0_linkAllBut_X0_has
set_option maxRecDepth 20000 in
theorem ggX0_linkAllBut_X0_at : GoodIn wsX0_linkAllBut wsX0_at := goodIn_r _ [11] (by decide +kernel) (by decide +kernel)
set_option maxRecDepth 20000 in
theorem gX0_linkAllBut_X0_at : GoodIn wsX0_linkAllBut (va_wsS RX0 74 yX0_at wsX0_at) := goodIn_app (goodIn_of _ (by decide +kernel)) ggX0_linkAllBut_X0_at
set_option maxRecDepth 20000 in
theorem ggX0_linkAllBut_X0_link : GoodIn wsX0_linkAllBut wsX0_link := goodIn_r _ [14, 9, 10, 7, 11, 15, 16, 17] (by decide +kernel) (by decide +kernel)
set_option maxRecDepth 20000 in
theorem gX0_linkAllBut_X0_link : GoodIn wsX0_linkAllBut (va_wsS RX0 189 yX0_link wsX0_link) := goodIn_app (goodIn_of _ (by decide +kernel)) ggX0_linkAllBut_X0_link
set_option maxRecDepth 20000 in
theorem ggX0_linkAllBut_X0_against : GoodIn wsX0_linkAllBut wsX0_against := goodIn_r _ [20] (by decide +kernel) (by decide +kernel)
set_option maxRecDepth 20000 in
theorem gX0_linkAllBut_X0_against : GoodIn wsX0_linkAllBut (va_wsS RX0 93 yX0_against wsX0_against) := goodIn_app (goodIn_of _ (by decide +kernel)) ggX0_linkAllBut_X0_against
theorem dX0_linkAllBut_0 : decode cX0_linkAllBut 0 = .ok (.iconst 0, 1) := by decide +kernel
theorem dX0_linkAllBut_1 : decode cX0_linkAllBut 1 = .ok (.istore_n 3, 1) := by decide +kernel
theorem dX0_linkAllBut_2 : decode cX0_linkAllBut 2 = .ok (.iload_n 3, 1) := by decide +kernel
theorem dX0_linkAllBut_3 : decode cX0_linkAllBut 3 = .ok (.aload_n 2, 1) := by decide +kernel
theorem dX0_linkAllBut_4 : decode cX0_linkAllBut 4 = .ok (.arraylength, 1) := by decide +kernel
theorem dX0_linkAllBut_5 : decode cX0_linkAllBut 5 = .ok (.if_icmp .ge 15, 3) := by decide +kernel
theorem dX0_linkAllBut_8 : decode cX0_linkAllBut 8 = .ok (.aload_n 2, 1) := by decide +kernel
theorem dX0_linkAllBut_9 : decode cX0_linkAllBut 9 = .ok (.iload_n 3, 1) := by decide +kernel
theorem dX0_linkAllBut_10 : decode cX0_linkAllBut 10 = .ok (.iconst 1, 1) := by decide +kernel
theorem dX0_linkAllBut_11 : decode cX0_linkAllBut 11 = .ok (.iload_n 3, 1) := by decide +kernel
theorem dX0_linkAllBut_12 : decode cX0_linkAllBut 12 = .ok (.ishl, 1) := by decide +kernel
theorem dX0_linkAllBut_13 : decode cX0_linkAllBut 13 = .ok (.iastore, 1) := by decide +kernel
theorem dX0_linkAllBut_14 : decode cX0_linkAllBut 14 = .ok (.iinc 3 1, 3) := by decide +kernel
theorem dX0_linkAllBut_17 : decode cX0_linkAllBut 17 = .ok (.goto (-15), 3) := by decide +kernel
theorem dX0_linkAllBut_20 : decode cX0_linkAllBut 20 = .ok (.iconst 0, 1) := by decide +kernel
theorem dX0_linkAllBut_21 : decode cX0_linkAllBut 21 = .ok (.istore_n 3, 1) := by decide +kernel
theorem dX0_linkAllBut_22 : decode cX0_linkAllBut 22 = .ok (.iload_n 3, 1) := by decide +kernel
theorem dX0_linkAllBut_23 : decode cX0_linkAllBut 23 = .ok (.aload_n 0, 1) := by decide +kernel
theorem dX0_linkAllBut_24 : decode cX0_linkAllBut 24 = .ok (.getfield 51, 3) := by decide +kernel
theorem dX0_linkAllBut_27 : decode cX0_linkAllBut 27 = .ok (.if_icmp .ge 67, 3) := by decide +kernel
theorem dX0_linkAllBut_30 : decode cX0_linkAllBut 30 = .ok (.iload_n 3, 1) := by decide +kernel
theorem dX0_linkAllBut_31 : decode cX0_linkAllBut 31 = .ok (.iload_n 1, 1) := by decide +kernel
theorem dX0_linkAllBut_32 : decode cX0_linkAllBut 32 = .ok (.if_icmp .eq 56, 3) := by decide +kernel
theorem dX0_linkAllBut_35 : decode cX0_linkAllBut 35 = .ok (.aload_n 0, 1) := by decide +kernel
theorem dX0_linkAllBut_36 : decode cX0_linkAllBut 36 = .ok (.getfield 60, 3) := by decide +kernel
theorem dX0_linkAllBut_39 : decode cX0_linkAllBut 39 = .ok (.iload_n 3, 1) := by decide +kernel
theorem dX0_linkAllBut_40 : decode cX0_linkAllBut 40 = .ok (.invokestatic 67, 3) := by decide +kernel
theorem dX0_linkAllBut_43 : decode cX0_linkAllBut 43 = .ok (.ifCond .eq 45, 3) := by decide +kernel
theorem dX0_linkAllBut_46 : decode cX0_linkAllBut 46 = .ok (.aload_n 0, 1) := by decide +kernel
theorem dX0_linkAllBut_47 : decode cX0_linkAllBut 47 = .ok (.getfield 9, 3) := by decide +kernel
theorem dX0_linkAllBut_50 : decode cX0_linkAllBut 50 = .ok (.iload_n 3, 1) := by decide +kernel
theorem dX0_linkAllBut_51 : decode cX0_linkAllBut 51 = .ok (.invokestatic 74, 3) := by decide +kernel
theorem dX0_linkAllBut_54 : decode cX0_linkAllBut 54 = .ok (.istore 4, 2) := by decide +kernel
theorem dX0_linkAllBut_56 : decode cX0_linkAllBut 56 = .ok (.aload_n 0, 1) := by decide +kernel
theorem dX0_linkAllBut_57 : decode cX0_linkAllBut 57 = .ok (.getfield 13, 3) := by decide +kernel
theorem dX0_linkAllBut_60 : decode cX0_linkAllBut 60 = .ok (.iload_n 3, 1) := by decide +kernel
theorem dX0_linkAllBut_61 : decode cX0_linkAllBut 61 = .ok (.invokestatic 74, 3) := by decide +kernel
theorem dX0_linkAllBut_64 : decode cX0_linkAllBut 64 = .ok (.istore 5, 2) := by decide +kernel
theorem dX0_linkAllBut_66 : decode cX0_linkAllBut 66 = .ok (.aload_n 2, 1) := by decide +kernel
theorem dX0_linkAllBut_67 : decode cX0_linkAllBut 67 = .ok (.iload 4, 2) := by decide +kernel
theorem dX0_linkAllBut_69 : decode cX0_linkAllBut 69 = .ok (.iload 5, 2) := by decide +kernel
theorem dX0_linkAllBut_71 : decode cX0_linkAllBut 71 = .ok (.invokestatic 189, 3) := by decide +kernel
theorem dX0_linkAllBut_74 : decode cX0_linkAllBut 74 = .ok (.aload_n 2, 1) := by decide +kernel
theorem dX0_linkAllBut_75 : decode cX0_linkAllBut 75 = .ok (.iload 5, 2) := by decide +kernel
theorem dX0_linkAllBut_77 : decode cX0_linkAllBut 77 = .ok (.invokestatic 93, 3) := by decide +kernel
theorem dX0_linkAllBut_80 : decode cX0_linkAllBut 80 = .ok (.iload 4, 2) := by decide +kernel
theorem dX0_linkAllBut_82 : decode cX0_linkAllBut 82 = .ok (.invokestatic 93, 3) := by decide +kernel
theorem dX0_linkAllBut_85 : decode cX0_linkAllBut 85 = .ok (.invokestatic 189, 3) := by decide +kernel
theorem dX0_linkAllBut_88 : decode cX0_linkAllBut 88 = .ok (.iinc 3 1, 3) := by decide +kernel
theorem dX0_linkAllBut_91 : decode cX0_linkAllBut 91 = .ok (.goto (-69), 3) := by decide +kernel
theorem dX0_linkAllBut_94 : decode cX0_linkAllBut 94 = .ok (.return_, 1) := by decide +kernel
set_option maxRecDepth 20000 in
theorem ggX0_link_X0_at : GoodIn wsX0_link wsX0_at := goodIn_r _ [4] (by decide +kernel) (by decide +kernel)
set_option maxRecDepth 20000 in
theorem gX0_link_X0_at : GoodIn wsX0_link (va_wsS RX0 74 yX0_at wsX0_at) := goodIn_app (goodIn_of _ (by decide +kernel)) ggX0_link_X0_at
set_option maxRecDepth 20000 in
theorem ggX0_link_X0_put : GoodIn wsX0_link wsX0_put := goodIn_r _ [7] (by decide +kernel) (by decide +kernel)
set_option maxRecDepth 20000 in
theorem gX0_link_X0_put : GoodIn wsX0_link (va_wsS RX0 56 yX0_put wsX0_put) := goodIn_app (goodIn_of _ (by decide +kernel)) ggX0_link_X0_put
theorem dX0_link_0 : decode cX0_link 0 = .ok (.aload_n 0, 1) := by decide +kernel
theorem dX0_link_1 : decode cX0_link 1 = .ok (.iload_n 1, 1) := by decide +kernel
theorem dX0_link_2 : decode cX0_link 2 = .ok (.aload_n 0, 1) := by decide +kernel
theorem dX0_link_3 : decode cX0_link 3 = .ok (.iload_n 1, 1) := by decide +kernel
theorem dX0_link_4 : decode cX0_link 4 = .ok (.invokestatic 74, 3) := by decide +kernel
theorem dX0_link_7 : decode cX0_link 7 = .ok (.iconst 1, 1) := by decide +kernel
theorem dX0_link_8 : decode cX0_link 8 = .ok (.iload_n 2, 1) := by decide +kernel
theorem dX0_link_9 : decode cX0_link 9 = .ok (.ishl, 1) := by decide +kernel
theorem dX0_link_10 : decode cX0_link 10 = .ok (.ior, 1) := by decide +kernel
theorem dX0_link_11 : decode cX0_link 11 = .ok (.invokestatic 56, 3) := by decide +kernel
theorem dX0_link_14 : decode cX0_link 14 = .ok (.return_, 1) := by decide +kernel
set_option maxRecDepth 20000 in
theorem ggX0_close_X0_has : GoodIn wsX0_close wsX0_has := goodIn_r _ [4] (by decide +kernel) (by decide +kernel)
set_option maxRecDepth 20000 in
theorem gX0_close_X0_has : GoodIn wsX0_close (va_wsS RX0 67 yX0_has wsX0_has) := goodIn_app (goodIn_of _ (by decide +kernel)) ggX0_close_X0_has
theorem dX0_close_0 : decode cX0_close 0 = .ok (.iconst 0, 1) := by decide +kernel
theorem dX0_close_1 : decode cX0_close 1 = .ok (.istore_n 1, 1) := by decide +kernel
theorem dX0_close_2 : decode cX0_close 2 = .ok (.iload_n 1, 1) := by decide +kernel
theorem dX0_close_3 : decode cX0_close 3 = .ok (.aload_n 0, 1) := by decide +kernel
theorem dX0_close_4 : decode cX0_close 4 = .ok (.arraylength, 1) := by decide +kernel
theorem dX0_close_5 : decode cX0_close 5 = .ok (.if_icmp .ge 42, 3) := by decide +kernel
theorem dX0_close_8 : decode cX0_close 8 = .ok (.iconst 0, 1) := by decide +kernel
theorem dX0_close_9 : decode cX0_close 9 = .ok (.istore_n 2, 1) := by decide +kernel
theorem dX0_close_10 : decode cX0_close 10 = .ok (.iload_n 2, 1) := by decide +kernel
theorem dX0_close_11 : decode cX0_close 11 = .ok (.aload_n 0, 1) := by decide +kernel
theorem dX0_close_12 : decode cX0_close 12 = .ok (.arraylength, 1) := by decide +kernel
theorem dX0_close_13 : decode cX0_close 13 = .ok (.if_icmp .ge 28, 3) := by decide +kernel
theorem dX0_close_16 : decode cX0_close 16 = .ok (.aload_n 0, 1) := by decide +kernel
theorem dX0_close_17 : decode cX0_close 17 = .ok (.iload_n 2, 1) := by decide +kernel
theorem dX0_close_18 : decode cX0_close 18 = .ok (.iaload, 1) := by decide +kernel
theorem dX0_close_19 : decode cX0_close 19 = .ok (.iload_n 1, 1) := by decide +kernel
theorem dX0_close_20 : decode cX0_close 20 = .ok (.invokestatic 67, 3) := by decide +kernel
theorem dX0_close_23 : decode cX0_close 23 = .ok (.ifCond .eq 12, 3) := by decide +kernel
theorem dX0_close_26 : decode cX0_close 26 = .ok (.aload_n 0, 1) := by decide +kernel
theorem dX0_close_27 : decode cX0_close 27 = .ok (.iload_n 2, 1) := by decide +kernel
theorem dX0_close_28 : decode cX0_close 28 = .ok (.dup2, 1) := by decide +kernel
theorem dX0_close_29 : decode cX0_close 29 = .ok (.iaload, 1) := by decide +kernel
theorem dX0_close_30 : decode cX0_close 30 = .ok (.aload_n 0, 1) := by decide +kernel
theorem dX0_close_31 : decode cX0_close 31 = .ok (.iload_n 1, 1) := by decide +kernel
theorem dX0_close_32 : decode cX0_close 32 = .ok (.iaload, 1) := by decide +kernel
theorem dX0_close_33 : decode cX0_close 33 = .ok (.ior, 1) := by decide +kernel
theorem dX0_close_34 : decode cX0_close 34 = .ok (.iastore, 1) := by decide +kernel
theorem dX0_close_35 : decode cX0_close 35 = .ok (.iinc 2 1, 3) := by decide +kernel
theorem dX0_close_38 : decode cX0_close 38 = .ok (.goto (-28), 3) := by decide +kernel
theorem dX0_close_41 : decode cX0_close 41 = .ok (.iinc 1 1, 3) := by decide +kernel
theorem dX0_close_44 : decode cX0_close 44 = .ok (.goto (-42), 3) := by decide +kernel
theorem dX0_close_47 : decode cX0_close 47 = .ok (.return_, 1) := by decide +kernel
set_option maxRecDepth 20000 in
theorem ggX0_listSeatings_X0_countTorn : GoodIn wsX0_listSeatings wsX0_countTorn := goodIn_r _ [9, 4, 10, 11, 8, 12, 13, 14, 15, 16, 17, 18, 19, 20, 21, 22, 23, 24, 25, 26, 27, 35, 36, 37, 38, 39, 40, 41, 42, 43, 44] (by decide +kernel) (by decide +kernel)
set_option maxRecDepth 20000 in
theorem gX0_listSeatings_X0_countTorn : GoodIn wsX0_listSeatings (wsV RX0 135 RX0 yX0_countTorn wsX0_countTorn) := goodIn_app (goodIn_of _ (by decide +kernel)) ggX0_listSeatings_X0_countTorn
set_option maxRecDepth 20000 in
theorem ggX0_listSeatings_X0_oneIf : GoodIn wsX0_listSeatings wsX0_oneIf := goodIn_r _ [27] (by decide +kernel) (by decide +kernel)
set_option maxRecDepth 20000 in
theorem gX0_listSeatings_X0_oneIf : GoodIn wsX0_listSeatings (va_wsS RX0 78 yX0_oneIf wsX0_oneIf) := goodIn_app (goodIn_of _ (by decide +kernel)) ggX0_listSeatings_X0_oneIf
set_option maxRecDepth 20000 in
theorem ggX0_listSeatings_X0_put : GoodIn wsX0_listSeatings wsX0_put := goodIn_r _ [30] (by decide +kernel) (by decide +kernel)
set_option maxRecDepth 20000 in
theorem gX0_listSeatings_X0_put : GoodIn wsX0_listSeatings (va_wsS RX0 56 yX0_put wsX0_put) := goodIn_app (goodIn_of _ (by decide +kernel)) ggX0_listSeatings_X0_put
set_option maxRecDepth 20000 in
theorem ggX0_listSeatings_X0_settle : GoodIn wsX0_listSeatings wsX0_settle := goodIn_r _ [34, 2, 3, 1, 19, 20, 8, 21, 16, 17, 18, 22, 23, 24, 13, 14, 15, 28, 29, 30, 35, 36, 37, 38, 39, 40, 41, 42, 43, 44] (by decide +kernel) (by decide +kernel)
set_option maxRecDepth 20000 in
theorem gX0_listSeatings_X0_settle : GoodIn wsX0_listSeatings (wsV RX0 192 RX0 yX0_settle wsX0_settle) := goodIn_app (goodIn_of _ (by decide +kernel)) ggX0_listSeatings_X0_settle
theorem dX0_listSeatings_0 : decode cX0_listSeatings 0 = .ok (.aload_n 0, 1) := by decide +kernel
theorem dX0_listSeatings_1 : decode cX0_listSeatings 1 = .ok (.aload_n 0, 1) := by decide +kernel
theorem dX0_listSeatings_2 : decode cX0_listSeatings 2 = .ok (.aload_n 0, 1) := by decide +kernel
theorem dX0_listSeatings_3 : decode cX0_listSeatings 3 = .ok (.getfield 19, 3) := by decide +kernel
theorem dX0_listSeatings_6 : decode cX0_listSeatings 6 = .ok (.invokevirtual 135, 3) := by decide +kernel
theorem dX0_listSeatings_9 : decode cX0_listSeatings 9 = .ok (.ifCond .ne 7, 3) := by decide +kernel
theorem dX0_listSeatings_12 : decode cX0_listSeatings 12 = .ok (.iconst 1, 1) := by decide +kernel
theorem dX0_listSeatings_13 : decode cX0_listSeatings 13 = .ok (.goto 4, 3) := by decide +kernel
theorem dX0_listSeatings_16 : decode cX0_listSeatings 16 = .ok (.iconst 0, 1) := by decide +kernel
theorem dX0_listSeatings_17 : decode cX0_listSeatings 17 = .ok (.invokestatic 78, 3) := by decide +kernel
theorem dX0_listSeatings_20 : decode cX0_listSeatings 20 = .ok (.putfield 111, 3) := by decide +kernel
theorem dX0_listSeatings_23 : decode cX0_listSeatings 23 = .ok (.aload_n 0, 1) := by decide +kernel
theorem dX0_listSeatings_24 : decode cX0_listSeatings 24 = .ok (.getfield 25, 3) := by decide +kernel
theorem dX0_listSeatings_27 : decode cX0_listSeatings 27 = .ok (.iconst 0, 1) := by decide +kernel
theorem dX0_listSeatings_28 : decode cX0_listSeatings 28 = .ok (.iconst 0, 1) := by decide +kernel
theorem dX0_listSeatings_29 : decode cX0_listSeatings 29 = .ok (.invokestatic 56, 3) := by decide +kernel
theorem dX0_listSeatings_32 : decode cX0_listSeatings 32 = .ok (.iconst 0, 1) := by decide +kernel
theorem dX0_listSeatings_33 : decode cX0_listSeatings 33 = .ok (.istore_n 1, 1) := by decide +kernel
theorem dX0_listSeatings_34 : decode cX0_listSeatings 34 = .ok (.iload_n 1, 1) := by decide +kernel
theorem dX0_listSeatings_35 : decode cX0_listSeatings 35 = .ok (.aload_n 0, 1) := by decide +kernel
theorem dX0_listSeatings_36 : decode cX0_listSeatings 36 = .ok (.getfield 31, 3) := by decide +kernel
theorem dX0_listSeatings_39 : decode cX0_listSeatings 39 = .ok (.if_icmp .ge 16, 3) := by decide +kernel
theorem dX0_listSeatings_42 : decode cX0_listSeatings 42 = .ok (.aload_n 0, 1) := by decide +kernel
theorem dX0_listSeatings_43 : decode cX0_listSeatings 43 = .ok (.iconst 2, 1) := by decide +kernel
theorem dX0_listSeatings_44 : decode cX0_listSeatings 44 = .ok (.iload_n 1, 1) := by decide +kernel
theorem dX0_listSeatings_45 : decode cX0_listSeatings 45 = .ok (.imul, 1) := by decide +kernel
theorem dX0_listSeatings_46 : decode cX0_listSeatings 46 = .ok (.invokevirtual 192, 3) := by decide +kernel
theorem dX0_listSeatings_49 : decode cX0_listSeatings 49 = .ok (.iinc 1 1, 3) := by decide +kernel
theorem dX0_listSeatings_52 : decode cX0_listSeatings 52 = .ok (.goto (-18), 3) := by decide +kernel
theorem dX0_listSeatings_55 : decode cX0_listSeatings 55 = .ok (.return_, 1) := by decide +kernel
set_option maxRecDepth 20000 in
theorem ggX0_settle_X0_against : GoodIn wsX0_settle wsX0_against := goodIn_r _ [7] (by decide +kernel) (by decide +kernel)
set_option maxRecDepth 20000 in
theorem gX0_settle_X0_against : GoodIn wsX0_settle (va_wsS RX0 93 yX0_against wsX0_against) := goodIn_app (goodIn_of _ (by decide +kernel)) ggX0_settle_X0_against
set_option maxRecDepth 20000 in
theorem ggX0_settle_X0_at : GoodIn wsX0_settle wsX0_at := goodIn_r _ [10] (by decide +kernel) (by decide +kernel)
set_option maxRecDepth 20000 in
theorem gX0_settle_X0_at : GoodIn wsX0_settle (va_wsS RX0 74 yX0_at wsX0_at) := goodIn_app (goodIn_of _ (by decide +kernel)) ggX0_settle_X0_at
set_option maxRecDepth 20000 in
theorem ggX0_settle_X0_has : GoodIn wsX0_settle wsX0_has := goodIn_r _ [13] (by decide +kernel) (by decide +kernel)
set_option maxRecDepth 20000 in
theorem gX0_settle_X0_has : GoodIn wsX0_settle (va_wsS RX0 67 yX0_has wsX0_has) := goodIn_app (goodIn_of _ (by decide +kernel)) ggX0_settle_X0_has
set_option maxRecDepth 20000 in
theorem ggX0_settle_X0_isVain : GoodIn wsX0_settle wsX0_isVain := goodIn_r _ [16, 8, 9, 6, 10, 4, 5, 7, 11, 12, 13] (by decide +kernel) (by decide +kernel)
set_option maxRecDepth 20000 in
theorem gX0_settle_X0_isVain : GoodIn wsX0_settle (va_wsS RX0 96 yX0_isVain wsX0_isVain) := goodIn_app (goodIn_of _ (by decide +kernel)) ggX0_settle_X0_isVain
set_option maxRecDepth 20000 in
theorem ggX0_settle_X0_put : GoodIn wsX0_settle wsX0_put := goodIn_r _ [19] (by decide +kernel) (by decide +kernel)
set_option maxRecDepth 20000 in
theorem gX0_settle_X0_put : GoodIn wsX0_settle (va_wsS RX0 56 yX0_put wsX0_put) := goodIn_app (goodIn_of _ (by decide +kernel)) ggX0_settle_X0_put
theorem dX0_settle_0 : decode cX0_settle 0 = .ok (.iload_n 1, 1) := by decide +kernel
theorem dX0_settle_1 : decode cX0_settle 1 = .ok (.invokestatic 93, 3) := by decide +kernel
theorem dX0_settle_4 : decode cX0_settle 4 = .ok (.istore_n 2, 1) := by decide +kernel
theorem dX0_settle_5 : decode cX0_settle 5 = .ok (.aload_n 0, 1) := by decide +kernel
theorem dX0_settle_6 : decode cX0_settle 6 = .ok (.getfield 111, 3) := by decide +kernel
theorem dX0_settle_9 : decode cX0_settle 9 = .ok (.istore_n 3, 1) := by decide +kernel
theorem dX0_settle_10 : decode cX0_settle 10 = .ok (.iconst 0, 1) := by decide +kernel
theorem dX0_settle_11 : decode cX0_settle 11 = .ok (.istore 4, 2) := by decide +kernel
theorem dX0_settle_13 : decode cX0_settle 13 = .ok (.iload 4, 2) := by decide +kernel
theorem dX0_settle_15 : decode cX0_settle 15 = .ok (.iload_n 3, 1) := by decide +kernel
theorem dX0_settle_16 : decode cX0_settle 16 = .ok (.if_icmp .ge 138, 3) := by decide +kernel
theorem dX0_settle_19 : decode cX0_settle 19 = .ok (.aload_n 0, 1) := by decide +kernel
theorem dX0_settle_20 : decode cX0_settle 20 = .ok (.getfield 25, 3) := by decide +kernel
theorem dX0_settle_23 : decode cX0_settle 23 = .ok (.iload 4, 2) := by decide +kernel
theorem dX0_settle_25 : decode cX0_settle 25 = .ok (.invokestatic 74, 3) := by decide +kernel
theorem dX0_settle_28 : decode cX0_settle 28 = .ok (.istore 5, 2) := by decide +kernel
theorem dX0_settle_30 : decode cX0_settle 30 = .ok (.iload 5, 2) := by decide +kernel
theorem dX0_settle_32 : decode cX0_settle 32 = .ok (.iload_n 1, 1) := by decide +kernel
theorem dX0_settle_33 : decode cX0_settle 33 = .ok (.invokestatic 67, 3) := by decide +kernel
theorem dX0_settle_36 : decode cX0_settle 36 = .ok (.ifCond .ne 112, 3) := by decide +kernel
theorem dX0_settle_39 : decode cX0_settle 39 = .ok (.iload 5, 2) := by decide +kernel
theorem dX0_settle_41 : decode cX0_settle 41 = .ok (.iload_n 2, 1) := by decide +kernel
theorem dX0_settle_42 : decode cX0_settle 42 = .ok (.invokestatic 67, 3) := by decide +kernel
theorem dX0_settle_45 : decode cX0_settle 45 = .ok (.ifCond .eq 6, 3) := by decide +kernel
theorem dX0_settle_48 : decode cX0_settle 48 = .ok (.goto 100, 3) := by decide +kernel
theorem dX0_settle_51 : decode cX0_settle 51 = .ok (.aload_n 0, 1) := by decide +kernel
theorem dX0_settle_52 : decode cX0_settle 52 = .ok (.getfield 19, 3) := by decide +kernel
theorem dX0_settle_55 : decode cX0_settle 55 = .ok (.iload_n 1, 1) := by decide +kernel
theorem dX0_settle_56 : decode cX0_settle 56 = .ok (.invokestatic 96, 3) := by decide +kernel
theorem dX0_settle_59 : decode cX0_settle 59 = .ok (.ifCond .eq 26, 3) := by decide +kernel
theorem dX0_settle_62 : decode cX0_settle 62 = .ok (.aload_n 0, 1) := by decide +kernel
theorem dX0_settle_63 : decode cX0_settle 63 = .ok (.getfield 25, 3) := by decide +kernel
theorem dX0_settle_66 : decode cX0_settle 66 = .ok (.iload 4, 2) := by decide +kernel
theorem dX0_settle_68 : decode cX0_settle 68 = .ok (.iload 5, 2) := by decide +kernel
theorem dX0_settle_70 : decode cX0_settle 70 = .ok (.aload_n 0, 1) := by decide +kernel
theorem dX0_settle_71 : decode cX0_settle 71 = .ok (.getfield 19, 3) := by decide +kernel
theorem dX0_settle_74 : decode cX0_settle 74 = .ok (.iload_n 2, 1) := by decide +kernel
theorem dX0_settle_75 : decode cX0_settle 75 = .ok (.invokestatic 74, 3) := by decide +kernel
theorem dX0_settle_78 : decode cX0_settle 78 = .ok (.ior, 1) := by decide +kernel
theorem dX0_settle_79 : decode cX0_settle 79 = .ok (.invokestatic 56, 3) := by decide +kernel
theorem dX0_settle_82 : decode cX0_settle 82 = .ok (.goto 66, 3) := by decide +kernel
theorem dX0_settle_85 : decode cX0_settle 85 = .ok (.aload_n 0, 1) := by decide +kernel
theorem dX0_settle_86 : decode cX0_settle 86 = .ok (.getfield 25, 3) := by decide +kernel
theorem dX0_settle_89 : decode cX0_settle 89 = .ok (.iload 4, 2) := by decide +kernel
theorem dX0_settle_91 : decode cX0_settle 91 = .ok (.iload 5, 2) := by decide +kernel
theorem dX0_settle_93 : decode cX0_settle 93 = .ok (.aload_n 0, 1) := by decide +kernel
theorem dX0_settle_94 : decode cX0_settle 94 = .ok (.getfield 19, 3) := by decide +kernel
theorem dX0_settle_97 : decode cX0_settle 97 = .ok (.iload_n 1, 1) := by decide +kernel
theorem dX0_settle_98 : decode cX0_settle 98 = .ok (.invokestatic 74, 3) := by decide +kernel
theorem dX0_settle_101 : decode cX0_settle 101 = .ok (.ior, 1) := by decide +kernel
theorem dX0_settle_102 : decode cX0_settle 102 = .ok (.invokestatic 56, 3) := by decide +kernel
theorem dX0_settle_105 : decode cX0_settle 105 = .ok (.aload_n 0, 1) := by decide +kernel
theorem dX0_settle_106 : decode cX0_settle 106 = .ok (.getfield 19, 3) := by decide +kernel
theorem dX0_settle_109 : decode cX0_settle 109 = .ok (.iload_n 2, 1) := by decide +kernel
theorem dX0_settle_110 : decode cX0_settle 110 = .ok (.invokestatic 96, 3) := by decide +kernel
theorem dX0_settle_113 : decode cX0_settle 113 = .ok (.ifCond .ne 35, 3) := by decide +kernel
theorem dX0_settle_116 : decode cX0_settle 116 = .ok (.aload_n 0, 1) := by decide +kernel
theorem dX0_settle_117 : decode cX0_settle 117 = .ok (.getfield 25, 3) := by decide +kernel
theorem dX0_settle_120 : decode cX0_settle 120 = .ok (.aload_n 0, 1) := by decide +kernel
theorem dX0_settle_121 : decode cX0_settle 121 = .ok (.getfield 111, 3) := by decide +kernel
theorem dX0_settle_124 : decode cX0_settle 124 = .ok (.iload 5, 2) := by decide +kernel
theorem dX0_settle_126 : decode cX0_settle 126 = .ok (.aload_n 0, 1) := by decide +kernel
theorem dX0_settle_127 : decode cX0_settle 127 = .ok (.getfield 19, 3) := by decide +kernel
theorem dX0_settle_130 : decode cX0_settle 130 = .ok (.iload_n 2, 1) := by decide +kernel
theorem dX0_settle_131 : decode cX0_settle 131 = .ok (.invokestatic 74, 3) := by decide +kernel
theorem dX0_settle_134 : decode cX0_settle 134 = .ok (.ior, 1) := by decide +kernel
theorem dX0_settle_135 : decode cX0_settle 135 = .ok (.invokestatic 56, 3) := by decide +kernel
theorem dX0_settle_138 : decode cX0_settle 138 = .ok (.aload_n 0, 1) := by decide +kernel
theorem dX0_settle_139 : decode cX0_settle 139 = .ok (.dup, 1) := by decide +kernel
theorem dX0_settle_140 : decode cX0_settle 140 = .ok (.getfield 111, 3) := by decide +kernel
theorem dX0_settle_143 : decode cX0_settle 143 = .ok (.iconst 1, 1) := by decide +kernel
theorem dX0_settle_144 : decode cX0_settle 144 = .ok (.iadd, 1) := by decide +kernel
theorem dX0_settle_145 : decode cX0_settle 145 = .ok (.putfield 111, 3) := by decide +kernel
theorem dX0_settle_148 : decode cX0_settle 148 = .ok (.iinc 4 1, 3) := by decide +kernel
theorem dX0_settle_151 : decode cX0_settle 151 = .ok (.goto (-138), 3) := by decide +kernel
theorem dX0_settle_154 : decode cX0_settle 154 = .ok (.return_, 1) := by decide +kernel
set_option maxRecDepth 20000 in
theorem ggX0_fitsWithout_X0_linkAllBut : GoodIn wsX0_fitsWithout wsX0_linkAllBut := goodIn_r _ [6, 7, 8, 9, 10, 11, 12, 5, 13, 14, 15, 16, 17, 18, 19, 20, 21, 22, 23, 24, 25, 43, 44, 45, 46, 47, 48, 49, 50, 51, 52] (by decide +kernel) (by decide +kernel)
set_option maxRecDepth 20000 in
theorem gX0_fitsWithout_X0_linkAllBut : GoodIn wsX0_fitsWithout (wsV RX0 178 RX0 yX0_linkAllBut wsX0_linkAllBut) := goodIn_app (goodIn_of _ (by decide +kernel)) ggX0_fitsWithout_X0_linkAllBut
set_option maxRecDepth 20000 in
theorem ggX0_fitsWithout_X0_close : GoodIn wsX0_fitsWithout wsX0_close := goodIn_r _ [28, 11, 12, 5, 13] (by decide +kernel) (by decide +kernel)
set_option maxRecDepth 20000 in
theorem gX0_fitsWithout_X0_close : GoodIn wsX0_fitsWithout (va_wsS RX0 182 yX0_close wsX0_close) := goodIn_app (goodIn_of _ (by decide +kernel)) ggX0_fitsWithout_X0_close
set_option maxRecDepth 20000 in
theorem ggX0_fitsWithout_X0_countTorn : GoodIn wsX0_fitsWithout wsX0_countTorn := goodIn_r _ [32, 33, 34, 35, 5, 36, 37, 38, 39, 14, 15, 16, 23, 24, 25, 11, 12, 13, 40, 41, 42, 43, 44, 45, 46, 47, 48, 49, 50, 51, 52] (by decide +kernel) (by decide +kernel)
set_option maxRecDepth 20000 in
theorem gX0_fitsWithout_X0_countTorn : GoodIn wsX0_fitsWithout (wsV RX0 135 RX0 yX0_countTorn wsX0_countTorn) := goodIn_app (goodIn_of _ (by decide +kernel)) ggX0_fitsWithout_X0_countTorn
theorem dX0_fitsWithout_0 : decode cX0_fitsWithout 0 = .ok (.aload_n 0, 1) := by decide +kernel
theorem dX0_fitsWithout_1 : decode cX0_fitsWithout 1 = .ok (.iload_n 1, 1) := by decide +kernel
theorem dX0_fitsWithout_2 : decode cX0_fitsWithout 2 = .ok (.aload_n 0, 1) := by decide +kernel
theorem dX0_fitsWithout_3 : decode cX0_fitsWithout 3 = .ok (.getfield 22, 3) := by decide +kernel
theorem dX0_fitsWithout_6 : decode cX0_fitsWithout 6 = .ok (.invokevirtual 178, 3) := by decide +kernel
theorem dX0_fitsWithout_9 : decode cX0_fitsWithout 9 = .ok (.aload_n 0, 1) := by decide +kernel
theorem dX0_fitsWithout_10 : decode cX0_fitsWithout 10 = .ok (.getfield 22, 3) := by decide +kernel
theorem dX0_fitsWithout_13 : decode cX0_fitsWithout 13 = .ok (.invokestatic 182, 3) := by decide +kernel
theorem dX0_fitsWithout_16 : decode cX0_fitsWithout 16 = .ok (.aload_n 0, 1) := by decide +kernel
theorem dX0_fitsWithout_17 : decode cX0_fitsWithout 17 = .ok (.aload_n 0, 1) := by decide +kernel
theorem dX0_fitsWithout_18 : decode cX0_fitsWithout 18 = .ok (.getfield 22, 3) := by decide +kernel
theorem dX0_fitsWithout_21 : decode cX0_fitsWithout 21 = .ok (.invokevirtual 135, 3) := by decide +kernel
theorem dX0_fitsWithout_24 : decode cX0_fitsWithout 24 = .ok (.ifCond .ne 7, 3) := by decide +kernel
theorem dX0_fitsWithout_27 : decode cX0_fitsWithout 27 = .ok (.iconst 1, 1) := by decide +kernel
theorem dX0_fitsWithout_28 : decode cX0_fitsWithout 28 = .ok (.goto 4, 3) := by decide +kernel
theorem dX0_fitsWithout_31 : decode cX0_fitsWithout 31 = .ok (.iconst 0, 1) := by decide +kernel
theorem dX0_fitsWithout_32 : decode cX0_fitsWithout 32 = .ok (.ireturn, 1) := by decide +kernel
theorem dX0_wishCount_0 : decode cX0_wishCount 0 = .ok (.iconst 2, 1) := by decide +kernel
theorem dX0_wishCount_1 : decode cX0_wishCount 1 = .ok (.aload_n 0, 1) := by decide +kernel
theorem dX0_wishCount_2 : decode cX0_wishCount 2 = .ok (.getfield 31, 3) := by decide +kernel
theorem dX0_wishCount_5 : decode cX0_wishCount 5 = .ok (.imul, 1) := by decide +kernel
theorem dX0_wishCount_6 : decode cX0_wishCount 6 = .ok (.ireturn, 1) := by decide +kernel
theorem dX0_against_0 : decode cX0_against 0 = .ok (.iload_n 0, 1) := by decide +kernel
theorem dX0_against_1 : decode cX0_against 1 = .ok (.iconst 1, 1) := by decide +kernel
theorem dX0_against_2 : decode cX0_against 2 = .ok (.ixor, 1) := by decide +kernel
theorem dX0_against_3 : decode cX0_against 3 = .ok (.ireturn, 1) := by decide +kernel
set_option maxRecDepth 20000 in
theorem ggX0_holds_X0_has : GoodIn wsX0_holds wsX0_has := goodIn_r _ [4] (by decide +kernel) (by decide +kernel)
set_option maxRecDepth 20000 in
theorem gX0_holds_X0_has : GoodIn wsX0_holds (va_wsS RX0 67 yX0_has wsX0_has) := goodIn_app (goodIn_of _ (by decide +kernel)) ggX0_holds_X0_has
theorem dX0_holds_0 : decode cX0_holds 0 = .ok (.iload_n 1, 1) := by decide +kernel
theorem dX0_holds_1 : decode cX0_holds 1 = .ok (.iload_n 0, 1) := by decide +kernel
theorem dX0_holds_2 : decode cX0_holds 2 = .ok (.iconst 1, 1) := by decide +kernel
theorem dX0_holds_3 : decode cX0_holds 3 = .ok (.ishr, 1) := by decide +kernel
theorem dX0_holds_4 : decode cX0_holds 4 = .ok (.invokestatic 67, 3) := by decide +kernel
theorem dX0_holds_7 : decode cX0_holds 7 = .ok (.istore_n 2, 1) := by decide +kernel
theorem dX0_holds_8 : decode cX0_holds 8 = .ok (.iload_n 0, 1) := by decide +kernel
theorem dX0_holds_9 : decode cX0_holds 9 = .ok (.iconst 1, 1) := by decide +kernel
theorem dX0_holds_10 : decode cX0_holds 10 = .ok (.iand, 1) := by decide +kernel
theorem dX0_holds_11 : decode cX0_holds 11 = .ok (.ifCond .ne 7, 3) := by decide +kernel
theorem dX0_holds_14 : decode cX0_holds 14 = .ok (.iload_n 2, 1) := by decide +kernel
theorem dX0_holds_15 : decode cX0_holds 15 = .ok (.goto 12, 3) := by decide +kernel
theorem dX0_holds_18 : decode cX0_holds 18 = .ok (.iload_n 2, 1) := by decide +kernel
theorem dX0_holds_19 : decode cX0_holds 19 = .ok (.ifCond .ne 7, 3) := by decide +kernel
theorem dX0_holds_22 : decode cX0_holds 22 = .ok (.iconst 1, 1) := by decide +kernel
theorem dX0_holds_23 : decode cX0_holds 23 = .ok (.goto 4, 3) := by decide +kernel
theorem dX0_holds_26 : decode cX0_holds 26 = .ok (.iconst 0, 1) := by decide +kernel
theorem dX0_holds_27 : decode cX0_holds 27 = .ok (.ireturn, 1) := by decide +kernel
set_option maxRecDepth 20000 in
theorem ggX0_isVain_X0_at : GoodIn wsX0_isVain wsX0_at := goodIn_r _ [4] (by decide +kernel) (by decide +kernel)
set_option maxRecDepth 20000 in
theorem gX0_isVain_X0_at : GoodIn wsX0_isVain (va_wsS RX0 74 yX0_at wsX0_at) := goodIn_app (goodIn_of _ (by decide +kernel)) ggX0_isVain_X0_at
set_option maxRecDepth 20000 in
theorem ggX0_isVain_X0_against : GoodIn wsX0_isVain wsX0_against := goodIn_r _ [7] (by decide +kernel) (by decide +kernel)
set_option maxRecDepth 20000 in
theorem gX0_isVain_X0_against : GoodIn wsX0_isVain (va_wsS RX0 93 yX0_against wsX0_against) := goodIn_app (goodIn_of _ (by decide +kernel)) ggX0_isVain_X0_against
set_option maxRecDepth 20000 in
theorem ggX0_isVain_X0_has : GoodIn wsX0_isVain wsX0_has := goodIn_r _ [10] (by decide +kernel) (by decide +kernel)
set_option maxRecDepth 20000 in
theorem gX0_isVain_X0_has : GoodIn wsX0_isVain (va_wsS RX0 67 yX0_has wsX0_has) := goodIn_app (goodIn_of _ (by decide +kernel)) ggX0_isVain_X0_has
theorem dX0_isVain_0 : decode cX0_isVain 0 = .ok (.aload_n 0, 1) := by decide +kernel
theorem dX0_isVain_1 : decode cX0_isVain 1 = .ok (.iload_n 1, 1) := by decide +kernel
theorem dX0_isVain_2 : decode cX0_isVain 2 = .ok (.invokestatic 74, 3) := by decide +kernel
theorem dX0_isVain_5 : decode cX0_isVain 5 = .ok (.iload_n 1, 1) := by decide +kernel
theorem dX0_isVain_6 : decode cX0_isVain 6 = .ok (.invokestatic 93, 3) := by decide +kernel
theorem dX0_isVain_9 : decode cX0_isVain 9 = .ok (.invokestatic 67, 3) := by decide +kernel
theorem dX0_isVain_12 : decode cX0_isVain 12 = .ok (.ireturn, 1) := by decide +kernel
set_option maxRecDepth 20000 in
theorem ggX0_isTorn_X0_isVain : GoodIn wsX0_isTorn wsX0_isVain := goodIn_r _ [4, 5, 6, 3, 7, 8, 9, 10, 11, 12, 13] (by decide +kernel) (by decide +kernel)
set_option maxRecDepth 20000 in
theorem gX0_isTorn_X0_isVain : GoodIn wsX0_isTorn (va_wsS RX0 96 yX0_isVain wsX0_isVain) := goodIn_app (goodIn_of _ (by decide +kernel)) ggX0_isTorn_X0_isVain
theorem dX0_isTorn_0 : decode cX0_isTorn 0 = .ok (.aload_n 0, 1) := by decide +kernel
theorem dX0_isTorn_1 : decode cX0_isTorn 1 = .ok (.iconst 2, 1) := by decide +kernel
theorem dX0_isTorn_2 : decode cX0_isTorn 2 = .ok (.iload_n 1, 1) := by decide +kernel
theorem dX0_isTorn_3 : decode cX0_isTorn 3 = .ok (.imul, 1) := by decide +kernel
theorem dX0_isTorn_4 : decode cX0_isTorn 4 = .ok (.invokestatic 96, 3) := by decide +kernel
theorem dX0_isTorn_7 : decode cX0_isTorn 7 = .ok (.ifCond .eq 19, 3) := by decide +kernel
theorem dX0_isTorn_10 : decode cX0_isTorn 10 = .ok (.aload_n 0, 1) := by decide +kernel
theorem dX0_isTorn_11 : decode cX0_isTorn 11 = .ok (.iconst 2, 1) := by decide +kernel
theorem dX0_isTorn_12 : decode cX0_isTorn 12 = .ok (.iload_n 1, 1) := by decide +kernel
theorem dX0_isTorn_13 : decode cX0_isTorn 13 = .ok (.imul, 1) := by decide +kernel
theorem dX0_isTorn_14 : decode cX0_isTorn 14 = .ok (.iconst 1, 1) := by decide +kernel
theorem dX0_isTorn_15 : decode cX0_isTorn 15 = .ok (.iadd, 1) := by decide +kernel
theorem dX0_isTorn_16 : decode cX0_isTorn 16 = .ok (.invokestatic 96, 3) := by decide +kernel
theorem dX0_isTorn_19 : decode cX0_isTorn 19 = .ok (.ifCond .eq 7, 3) := by decide +kernel
theorem dX0_isTorn_22 : decode cX0_isTorn 22 = .ok (.iconst 1, 1) := by decide +kernel
theorem dX0_isTorn_23 : decode cX0_isTorn 23 = .ok (.goto 4, 3) := by decide +kernel
theorem dX0_isTorn_26 : decode cX0_isTorn 26 = .ok (.iconst 0, 1) := by decide +kernel
theorem dX0_isTorn_27 : decode cX0_isTorn 27 = .ok (.ireturn, 1) := by decide +kernel
set_option maxRecDepth 20000 in
theorem ggX0_countTorn_X0_isTorn : GoodIn wsX0_countTorn wsX0_isTorn := goodIn_r _ [5, 6, 7, 4, 8, 9, 10, 11, 12, 13, 14, 15, 16, 17] (by decide +kernel) (by decide +kernel)
set_option maxRecDepth 20000 in
theorem gX0_countTorn_X0_isTorn : GoodIn wsX0_countTorn (va_wsS RX0 100 yX0_isTorn wsX0_isTorn) := goodIn_app (goodIn_of _ (by decide +kernel)) ggX0_countTorn_X0_isTorn
set_option maxRecDepth 20000 in
theorem ggX0_countTorn_X0_oneIf : GoodIn wsX0_countTorn wsX0_oneIf := goodIn_r _ [20] (by decide +kernel) (by decide +kernel)
set_option maxRecDepth 20000 in
theorem gX0_countTorn_X0_oneIf : GoodIn wsX0_countTorn (va_wsS RX0 78 yX0_oneIf wsX0_oneIf) := goodIn_app (goodIn_of _ (by decide +kernel)) ggX0_countTorn_X0_oneIf
theorem dX0_countTorn_0 : decode cX0_countTorn 0 = .ok (.iconst 0, 1) := by decide +kernel
theorem dX0_countTorn_1 : decode cX0_countTorn 1 = .ok (.istore_n 2, 1) := by decide +kernel
theorem dX0_countTorn_2 : decode cX0_countTorn 2 = .ok (.iconst 0, 1) := by decide +kernel
theorem dX0_countTorn_3 : decode cX0_countTorn 3 = .ok (.istore_n 3, 1) := by decide +kernel
theorem dX0_countTorn_4 : decode cX0_countTorn 4 = .ok (.iload_n 3, 1) := by decide +kernel
theorem dX0_countTorn_5 : decode cX0_countTorn 5 = .ok (.aload_n 0, 1) := by decide +kernel
theorem dX0_countTorn_6 : decode cX0_countTorn 6 = .ok (.getfield 31, 3) := by decide +kernel
theorem dX0_countTorn_9 : decode cX0_countTorn 9 = .ok (.if_icmp .ge 20, 3) := by decide +kernel
theorem dX0_countTorn_12 : decode cX0_countTorn 12 = .ok (.iload_n 2, 1) := by decide +kernel
theorem dX0_countTorn_13 : decode cX0_countTorn 13 = .ok (.aload_n 1, 1) := by decide +kernel
theorem dX0_countTorn_14 : decode cX0_countTorn 14 = .ok (.iload_n 3, 1) := by decide +kernel
theorem dX0_countTorn_15 : decode cX0_countTorn 15 = .ok (.invokestatic 100, 3) := by decide +kernel
theorem dX0_countTorn_18 : decode cX0_countTorn 18 = .ok (.invokestatic 78, 3) := by decide +kernel
theorem dX0_countTorn_21 : decode cX0_countTorn 21 = .ok (.iadd, 1) := by decide +kernel
theorem dX0_countTorn_22 : decode cX0_countTorn 22 = .ok (.istore_n 2, 1) := by decide +kernel
theorem dX0_countTorn_23 : decode cX0_countTorn 23 = .ok (.iinc 3 1, 3) := by decide +kernel
theorem dX0_countTorn_26 : decode cX0_countTorn 26 = .ok (.goto (-22), 3) := by decide +kernel
theorem dX0_countTorn_29 : decode cX0_countTorn 29 = .ok (.iload_n 2, 1) := by decide +kernel
theorem dX0_countTorn_30 : decode cX0_countTorn 30 = .ok (.ireturn, 1) := by decide +kernel
set_option maxRecDepth 20000 in
theorem ggX0_countVain_X0_wishCount : GoodIn wsX0_countVain wsX0_wishCount := goodIn_r _ [6, 7, 23, 24, 25, 26, 27, 28, 29, 30, 31, 32] (by decide +kernel) (by decide +kernel)
set_option maxRecDepth 20000 in
theorem gX0_countVain_X0_wishCount : GoodIn wsX0_countVain (wsV RX0 158 RX0 yX0_wishCount wsX0_wishCount) := goodIn_app (goodIn_of _ (by decide +kernel)) ggX0_countVain_X0_wishCount
set_option maxRecDepth 20000 in
theorem ggX0_countVain_X0_isVain : GoodIn wsX0_countVain wsX0_isVain := goodIn_r _ [10, 11, 12, 5, 13, 14, 15, 16, 17, 18, 19] (by decide +kernel) (by decide +kernel)
set_option maxRecDepth 20000 in
theorem gX0_countVain_X0_isVain : GoodIn wsX0_countVain (va_wsS RX0 96 yX0_isVain wsX0_isVain) := goodIn_app (goodIn_of _ (by decide +kernel)) ggX0_countVain_X0_isVain
set_option maxRecDepth 20000 in
theorem ggX0_countVain_X0_oneIf : GoodIn wsX0_countVain wsX0_oneIf := goodIn_r _ [22] (by decide +kernel) (by decide +kernel)
set_option maxRecDepth 20000 in
theorem gX0_countVain_X0_oneIf : GoodIn wsX0_countVain (va_wsS RX0 78 yX0_oneIf wsX0_oneIf) := goodIn_app (goodIn_of _ (by decide +kernel)) ggX0_countVain_X0_oneIf
theorem dX0_countVain_0 : decode cX0_countVain 0 = .ok (.iconst 0, 1) := by decide +kernel
theorem dX0_countVain_1 : decode cX0_countVain 1 = .ok (.istore_n 1, 1) := by decide +kernel
theorem dX0_countVain_2 : decode cX0_countVain 2 = .ok (.iconst 0, 1) := by decide +kernel
theorem dX0_countVain_3 : decode cX0_countVain 3 = .ok (.istore_n 2, 1) := by decide +kernel
theorem dX0_countVain_4 : decode cX0_countVain 4 = .ok (.iload_n 2, 1) := by decide +kernel
theorem dX0_countVain_5 : decode cX0_countVain 5 = .ok (.aload_n 0, 1) := by decide +kernel
theorem dX0_countVain_6 : decode cX0_countVain 6 = .ok (.invokevirtual 158, 3) := by decide +kernel
theorem dX0_countVain_9 : decode cX0_countVain 9 = .ok (.if_icmp .ge 23, 3) := by decide +kernel
theorem dX0_countVain_12 : decode cX0_countVain 12 = .ok (.iload_n 1, 1) := by decide +kernel
theorem dX0_countVain_13 : decode cX0_countVain 13 = .ok (.aload_n 0, 1) := by decide +kernel
theorem dX0_countVain_14 : decode cX0_countVain 14 = .ok (.getfield 19, 3) := by decide +kernel
theorem dX0_countVain_17 : decode cX0_countVain 17 = .ok (.iload_n 2, 1) := by decide +kernel
theorem dX0_countVain_18 : decode cX0_countVain 18 = .ok (.invokestatic 96, 3) := by decide +kernel
theorem dX0_countVain_21 : decode cX0_countVain 21 = .ok (.invokestatic 78, 3) := by decide +kernel
theorem dX0_countVain_24 : decode cX0_countVain 24 = .ok (.iadd, 1) := by decide +kernel
theorem dX0_countVain_25 : decode cX0_countVain 25 = .ok (.istore_n 1, 1) := by decide +kernel
theorem dX0_countVain_26 : decode cX0_countVain 26 = .ok (.iinc 2 1, 3) := by decide +kernel
theorem dX0_countVain_29 : decode cX0_countVain 29 = .ok (.goto (-25), 3) := by decide +kernel
theorem dX0_countVain_32 : decode cX0_countVain 32 = .ok (.iload_n 1, 1) := by decide +kernel
theorem dX0_countVain_33 : decode cX0_countVain 33 = .ok (.ireturn, 1) := by decide +kernel
set_option maxRecDepth 20000 in
theorem ggX0_countPairs_X0_wishCount : GoodIn wsX0_countPairs wsX0_wishCount := goodIn_r _ [6, 7, 18, 19, 20, 21, 22, 23, 24, 25, 26, 27] (by decide +kernel) (by decide +kernel)
set_option maxRecDepth 20000 in
theorem gX0_countPairs_X0_wishCount : GoodIn wsX0_countPairs (wsV RX0 158 RX0 yX0_wishCount wsX0_wishCount) := goodIn_app (goodIn_of _ (by decide +kernel)) ggX0_countPairs_X0_wishCount
set_option maxRecDepth 20000 in
theorem ggX0_countPairs_X0_at : GoodIn wsX0_countPairs wsX0_at := goodIn_r _ [10] (by decide +kernel) (by decide +kernel)
set_option maxRecDepth 20000 in
theorem gX0_countPairs_X0_at : GoodIn wsX0_countPairs (va_wsS RX0 74 yX0_at wsX0_at) := goodIn_app (goodIn_of _ (by decide +kernel)) ggX0_countPairs_X0_at
set_option maxRecDepth 20000 in
theorem ggX0_countPairs_J6_bitCount_0f7a4 : GoodIn wsX0_countPairs wsJ6_bitCount_0f7a4 := goodIn_r _ [14, 15, 16, 17] (by decide +kernel) (by decide +kernel)
set_option maxRecDepth 20000 in
theorem gX0_countPairs_J6_bitCount_0f7a4 : GoodIn wsX0_countPairs (va_wsS RX0 106 yJ6_bitCount_0f7a4 wsJ6_bitCount_0f7a4) := goodIn_app (goodIn_of _ (by decide +kernel)) ggX0_countPairs_J6_bitCount_0f7a4
theorem dX0_countPairs_0 : decode cX0_countPairs 0 = .ok (.iconst 0, 1) := by decide +kernel
theorem dX0_countPairs_1 : decode cX0_countPairs 1 = .ok (.istore_n 1, 1) := by decide +kernel
theorem dX0_countPairs_2 : decode cX0_countPairs 2 = .ok (.iconst 0, 1) := by decide +kernel
theorem dX0_countPairs_3 : decode cX0_countPairs 3 = .ok (.istore_n 2, 1) := by decide +kernel
theorem dX0_countPairs_4 : decode cX0_countPairs 4 = .ok (.iload_n 2, 1) := by decide +kernel
theorem dX0_countPairs_5 : decode cX0_countPairs 5 = .ok (.aload_n 0, 1) := by decide +kernel
theorem dX0_countPairs_6 : decode cX0_countPairs 6 = .ok (.invokevirtual 158, 3) := by decide +kernel
theorem dX0_countPairs_9 : decode cX0_countPairs 9 = .ok (.if_icmp .ge 25, 3) := by decide +kernel
theorem dX0_countPairs_12 : decode cX0_countPairs 12 = .ok (.iload_n 1, 1) := by decide +kernel
theorem dX0_countPairs_13 : decode cX0_countPairs 13 = .ok (.aload_n 0, 1) := by decide +kernel
theorem dX0_countPairs_14 : decode cX0_countPairs 14 = .ok (.getfield 19, 3) := by decide +kernel
theorem dX0_countPairs_17 : decode cX0_countPairs 17 = .ok (.iload_n 2, 1) := by decide +kernel
theorem dX0_countPairs_18 : decode cX0_countPairs 18 = .ok (.invokestatic 74, 3) := by decide +kernel
theorem dX0_countPairs_21 : decode cX0_countPairs 21 = .ok (.invokestatic 106, 3) := by decide +kernel
theorem dX0_countPairs_24 : decode cX0_countPairs 24 = .ok (.iconst 1, 1) := by decide +kernel
theorem dX0_countPairs_25 : decode cX0_countPairs 25 = .ok (.isub, 1) := by decide +kernel
theorem dX0_countPairs_26 : decode cX0_countPairs 26 = .ok (.iadd, 1) := by decide +kernel
theorem dX0_countPairs_27 : decode cX0_countPairs 27 = .ok (.istore_n 1, 1) := by decide +kernel
theorem dX0_countPairs_28 : decode cX0_countPairs 28 = .ok (.iinc 2 1, 3) := by decide +kernel
theorem dX0_countPairs_31 : decode cX0_countPairs 31 = .ok (.goto (-27), 3) := by decide +kernel
theorem dX0_countPairs_34 : decode cX0_countPairs 34 = .ok (.iload_n 1, 1) := by decide +kernel
theorem dX0_countPairs_35 : decode cX0_countPairs 35 = .ok (.ireturn, 1) := by decide +kernel
set_option maxRecDepth 20000 in
theorem ggX0_oneStepOn_X0_wishCount : GoodIn wsX0_oneStepOn wsX0_wishCount := goodIn_r _ [6, 7, 14, 15, 16, 17, 18, 19, 20, 21, 22, 23] (by decide +kernel) (by decide +kernel)
set_option maxRecDepth 20000 in
theorem gX0_oneStepOn_X0_wishCount : GoodIn wsX0_oneStepOn (wsV RX0 158 RX0 yX0_wishCount wsX0_wishCount) := goodIn_app (goodIn_of _ (by decide +kernel)) ggX0_oneStepOn_X0_wishCount
set_option maxRecDepth 20000 in
theorem ggX0_oneStepOn_X0_has : GoodIn wsX0_oneStepOn wsX0_has := goodIn_r _ [10] (by decide +kernel) (by decide +kernel)
set_option maxRecDepth 20000 in
theorem gX0_oneStepOn_X0_has : GoodIn wsX0_oneStepOn (va_wsS RX0 67 yX0_has wsX0_has) := goodIn_app (goodIn_of _ (by decide +kernel)) ggX0_oneStepOn_X0_has
set_option maxRecDepth 20000 in
theorem ggX0_oneStepOn_X0_at : GoodIn wsX0_oneStepOn wsX0_at := goodIn_r _ [13] (by decide +kernel) (by decide +kernel)
set_option maxRecDepth 20000 in
theorem gX0_oneStepOn_X0_at : GoodIn wsX0_oneStepOn (va_wsS RX0 74 yX0_at wsX0_at) := goodIn_app (goodIn_of _ (by decide +kernel)) ggX0_oneStepOn_X0_at
theorem dX0_oneStepOn_0 : decode cX0_oneStepOn 0 = .ok (.iload_n 1, 1) := by decide +kernel
theorem dX0_oneStepOn_1 : decode cX0_oneStepOn 1 = .ok (.istore_n 2, 1) := by decide +kernel
theorem dX0_oneStepOn_2 : decode cX0_oneStepOn 2 = .ok (.iconst 0, 1) := by decide +kernel
theorem dX0_oneStepOn_3 : decode cX0_oneStepOn 3 = .ok (.istore_n 3, 1) := by decide +kernel
theorem dX0_oneStepOn_4 : decode cX0_oneStepOn 4 = .ok (.iload_n 3, 1) := by decide +kernel
theorem dX0_oneStepOn_5 : decode cX0_oneStepOn 5 = .ok (.aload_n 0, 1) := by decide +kernel
theorem dX0_oneStepOn_6 : decode cX0_oneStepOn 6 = .ok (.invokevirtual 158, 3) := by decide +kernel
theorem dX0_oneStepOn_9 : decode cX0_oneStepOn 9 = .ok (.if_icmp .ge 28, 3) := by decide +kernel
theorem dX0_oneStepOn_12 : decode cX0_oneStepOn 12 = .ok (.iload_n 1, 1) := by decide +kernel
theorem dX0_oneStepOn_13 : decode cX0_oneStepOn 13 = .ok (.iload_n 3, 1) := by decide +kernel
theorem dX0_oneStepOn_14 : decode cX0_oneStepOn 14 = .ok (.invokestatic 67, 3) := by decide +kernel
theorem dX0_oneStepOn_17 : decode cX0_oneStepOn 17 = .ok (.ifCond .eq 14, 3) := by decide +kernel
theorem dX0_oneStepOn_20 : decode cX0_oneStepOn 20 = .ok (.iload_n 2, 1) := by decide +kernel
theorem dX0_oneStepOn_21 : decode cX0_oneStepOn 21 = .ok (.aload_n 0, 1) := by decide +kernel
theorem dX0_oneStepOn_22 : decode cX0_oneStepOn 22 = .ok (.getfield 16, 3) := by decide +kernel
theorem dX0_oneStepOn_25 : decode cX0_oneStepOn 25 = .ok (.iload_n 3, 1) := by decide +kernel
theorem dX0_oneStepOn_26 : decode cX0_oneStepOn 26 = .ok (.invokestatic 74, 3) := by decide +kernel
theorem dX0_oneStepOn_29 : decode cX0_oneStepOn 29 = .ok (.ior, 1) := by decide +kernel
theorem dX0_oneStepOn_30 : decode cX0_oneStepOn 30 = .ok (.istore_n 2, 1) := by decide +kernel
theorem dX0_oneStepOn_31 : decode cX0_oneStepOn 31 = .ok (.iinc 3 1, 3) := by decide +kernel
theorem dX0_oneStepOn_34 : decode cX0_oneStepOn 34 = .ok (.goto (-30), 3) := by decide +kernel
theorem dX0_oneStepOn_37 : decode cX0_oneStepOn 37 = .ok (.iload_n 2, 1) := by decide +kernel
theorem dX0_oneStepOn_38 : decode cX0_oneStepOn 38 = .ok (.ireturn, 1) := by decide +kernel
set_option maxRecDepth 20000 in
theorem ggX0_guestsBoundTo_X0_wishCount : GoodIn wsX0_guestsBoundTo wsX0_wishCount := goodIn_r _ [6, 7, 14, 15, 16, 17, 18, 19, 20, 21, 22, 23] (by decide +kernel) (by decide +kernel)
set_option maxRecDepth 20000 in
theorem gX0_guestsBoundTo_X0_wishCount : GoodIn wsX0_guestsBoundTo (wsV RX0 158 RX0 yX0_wishCount wsX0_wishCount) := goodIn_app (goodIn_of _ (by decide +kernel)) ggX0_guestsBoundTo_X0_wishCount
set_option maxRecDepth 20000 in
theorem ggX0_guestsBoundTo_X0_at : GoodIn wsX0_guestsBoundTo wsX0_at := goodIn_r _ [10] (by decide +kernel) (by decide +kernel)
set_option maxRecDepth 20000 in
theorem gX0_guestsBoundTo_X0_at : GoodIn wsX0_guestsBoundTo (va_wsS RX0 74 yX0_at wsX0_at) := goodIn_app (goodIn_of _ (by decide +kernel)) ggX0_guestsBoundTo_X0_at
set_option maxRecDepth 20000 in
theorem ggX0_guestsBoundTo_X0_has : GoodIn wsX0_guestsBoundTo wsX0_has := goodIn_r _ [13] (by decide +kernel) (by decide +kernel)
set_option maxRecDepth 20000 in
theorem gX0_guestsBoundTo_X0_has : GoodIn wsX0_guestsBoundTo (va_wsS RX0 67 yX0_has wsX0_has) := goodIn_app (goodIn_of _ (by decide +kernel)) ggX0_guestsBoundTo_X0_has
theorem dX0_guestsBoundTo_0 : decode cX0_guestsBoundTo 0 = .ok (.iconst 0, 1) := by decide +kernel
theorem dX0_guestsBoundTo_1 : decode cX0_guestsBoundTo 1 = .ok (.istore_n 2, 1) := by decide +kernel
theorem dX0_guestsBoundTo_2 : decode cX0_guestsBoundTo 2 = .ok (.iconst 0, 1) := by decide +kernel
theorem dX0_guestsBoundTo_3 : decode cX0_guestsBoundTo 3 = .ok (.istore_n 3, 1) := by decide +kernel
theorem dX0_guestsBoundTo_4 : decode cX0_guestsBoundTo 4 = .ok (.iload_n 3, 1) := by decide +kernel
theorem dX0_guestsBoundTo_5 : decode cX0_guestsBoundTo 5 = .ok (.aload_n 0, 1) := by decide +kernel
theorem dX0_guestsBoundTo_6 : decode cX0_guestsBoundTo 6 = .ok (.invokevirtual 158, 3) := by decide +kernel
theorem dX0_guestsBoundTo_9 : decode cX0_guestsBoundTo 9 = .ok (.if_icmp .ge 47, 3) := by decide +kernel
theorem dX0_guestsBoundTo_12 : decode cX0_guestsBoundTo 12 = .ok (.aload_n 0, 1) := by decide +kernel
theorem dX0_guestsBoundTo_13 : decode cX0_guestsBoundTo 13 = .ok (.getfield 19, 3) := by decide +kernel
theorem dX0_guestsBoundTo_16 : decode cX0_guestsBoundTo 16 = .ok (.iload_n 1, 1) := by decide +kernel
theorem dX0_guestsBoundTo_17 : decode cX0_guestsBoundTo 17 = .ok (.invokestatic 74, 3) := by decide +kernel
theorem dX0_guestsBoundTo_20 : decode cX0_guestsBoundTo 20 = .ok (.iload_n 3, 1) := by decide +kernel
theorem dX0_guestsBoundTo_21 : decode cX0_guestsBoundTo 21 = .ok (.invokestatic 67, 3) := by decide +kernel
theorem dX0_guestsBoundTo_24 : decode cX0_guestsBoundTo 24 = .ok (.ifCond .eq 26, 3) := by decide +kernel
theorem dX0_guestsBoundTo_27 : decode cX0_guestsBoundTo 27 = .ok (.aload_n 0, 1) := by decide +kernel
theorem dX0_guestsBoundTo_28 : decode cX0_guestsBoundTo 28 = .ok (.getfield 19, 3) := by decide +kernel
theorem dX0_guestsBoundTo_31 : decode cX0_guestsBoundTo 31 = .ok (.iload_n 3, 1) := by decide +kernel
theorem dX0_guestsBoundTo_32 : decode cX0_guestsBoundTo 32 = .ok (.invokestatic 74, 3) := by decide +kernel
theorem dX0_guestsBoundTo_35 : decode cX0_guestsBoundTo 35 = .ok (.iload_n 1, 1) := by decide +kernel
theorem dX0_guestsBoundTo_36 : decode cX0_guestsBoundTo 36 = .ok (.invokestatic 67, 3) := by decide +kernel
theorem dX0_guestsBoundTo_39 : decode cX0_guestsBoundTo 39 = .ok (.ifCond .eq 11, 3) := by decide +kernel
theorem dX0_guestsBoundTo_42 : decode cX0_guestsBoundTo 42 = .ok (.iload_n 2, 1) := by decide +kernel
theorem dX0_guestsBoundTo_43 : decode cX0_guestsBoundTo 43 = .ok (.iconst 1, 1) := by decide +kernel
theorem dX0_guestsBoundTo_44 : decode cX0_guestsBoundTo 44 = .ok (.iload_n 3, 1) := by decide +kernel
theorem dX0_guestsBoundTo_45 : decode cX0_guestsBoundTo 45 = .ok (.iconst 1, 1) := by decide +kernel
theorem dX0_guestsBoundTo_46 : decode cX0_guestsBoundTo 46 = .ok (.ishr, 1) := by decide +kernel
theorem dX0_guestsBoundTo_47 : decode cX0_guestsBoundTo 47 = .ok (.ishl, 1) := by decide +kernel
theorem dX0_guestsBoundTo_48 : decode cX0_guestsBoundTo 48 = .ok (.ior, 1) := by decide +kernel
theorem dX0_guestsBoundTo_49 : decode cX0_guestsBoundTo 49 = .ok (.istore_n 2, 1) := by decide +kernel
theorem dX0_guestsBoundTo_50 : decode cX0_guestsBoundTo 50 = .ok (.iinc 3 1, 3) := by decide +kernel
theorem dX0_guestsBoundTo_53 : decode cX0_guestsBoundTo 53 = .ok (.goto (-49), 3) := by decide +kernel
theorem dX0_guestsBoundTo_56 : decode cX0_guestsBoundTo 56 = .ok (.iload_n 2, 1) := by decide +kernel
theorem dX0_guestsBoundTo_57 : decode cX0_guestsBoundTo 57 = .ok (.ireturn, 1) := by decide +kernel
set_option maxRecDepth 20000 in
theorem ggX0_guestsComing_X0_has : GoodIn wsX0_guestsComing wsX0_has := goodIn_r _ [5] (by decide +kernel) (by decide +kernel)
set_option maxRecDepth 20000 in
theorem gX0_guestsComing_X0_has : GoodIn wsX0_guestsComing (va_wsS RX0 67 yX0_has wsX0_has) := goodIn_app (goodIn_of _ (by decide +kernel)) ggX0_guestsComing_X0_has
theorem dX0_guestsComing_0 : decode cX0_guestsComing 0 = .ok (.iconst 0, 1) := by decide +kernel
theorem dX0_guestsComing_1 : decode cX0_guestsComing 1 = .ok (.istore_n 2, 1) := by decide +kernel
theorem dX0_guestsComing_2 : decode cX0_guestsComing 2 = .ok (.iconst 0, 1) := by decide +kernel
theorem dX0_guestsComing_3 : decode cX0_guestsComing 3 = .ok (.istore_n 3, 1) := by decide +kernel
theorem dX0_guestsComing_4 : decode cX0_guestsComing 4 = .ok (.iload_n 3, 1) := by decide +kernel
theorem dX0_guestsComing_5 : decode cX0_guestsComing 5 = .ok (.aload_n 0, 1) := by decide +kernel
theorem dX0_guestsComing_6 : decode cX0_guestsComing 6 = .ok (.getfield 31, 3) := by decide +kernel
theorem dX0_guestsComing_9 : decode cX0_guestsComing 9 = .ok (.if_icmp .ge 25, 3) := by decide +kernel
theorem dX0_guestsComing_12 : decode cX0_guestsComing 12 = .ok (.iload_n 1, 1) := by decide +kernel
theorem dX0_guestsComing_13 : decode cX0_guestsComing 13 = .ok (.iconst 2, 1) := by decide +kernel
theorem dX0_guestsComing_14 : decode cX0_guestsComing 14 = .ok (.iload_n 3, 1) := by decide +kernel
theorem dX0_guestsComing_15 : decode cX0_guestsComing 15 = .ok (.imul, 1) := by decide +kernel
theorem dX0_guestsComing_16 : decode cX0_guestsComing 16 = .ok (.invokestatic 67, 3) := by decide +kernel
theorem dX0_guestsComing_19 : decode cX0_guestsComing 19 = .ok (.ifCond .eq 9, 3) := by decide +kernel
theorem dX0_guestsComing_22 : decode cX0_guestsComing 22 = .ok (.iload_n 2, 1) := by decide +kernel
theorem dX0_guestsComing_23 : decode cX0_guestsComing 23 = .ok (.iconst 1, 1) := by decide +kernel
theorem dX0_guestsComing_24 : decode cX0_guestsComing 24 = .ok (.iload_n 3, 1) := by decide +kernel
theorem dX0_guestsComing_25 : decode cX0_guestsComing 25 = .ok (.ishl, 1) := by decide +kernel
theorem dX0_guestsComing_26 : decode cX0_guestsComing 26 = .ok (.ior, 1) := by decide +kernel
theorem dX0_guestsComing_27 : decode cX0_guestsComing 27 = .ok (.istore_n 2, 1) := by decide +kernel
theorem dX0_guestsComing_28 : decode cX0_guestsComing 28 = .ok (.iinc 3 1, 3) := by decide +kernel
theorem dX0_guestsComing_31 : decode cX0_guestsComing 31 = .ok (.goto (-27), 3) := by decide +kernel
theorem dX0_guestsComing_34 : decode cX0_guestsComing 34 = .ok (.iload_n 2, 1) := by decide +kernel
theorem dX0_guestsComing_35 : decode cX0_guestsComing 35 = .ok (.ireturn, 1) := by decide +kernel
set_option maxRecDepth 20000 in
theorem ggX0_countComing_J6_bitCount_0f7a4 : GoodIn wsX0_countComing wsJ6_bitCount_0f7a4 := goodIn_r _ [5, 6, 7, 8] (by decide +kernel) (by decide +kernel)
set_option maxRecDepth 20000 in
theorem gX0_countComing_J6_bitCount_0f7a4 : GoodIn wsX0_countComing (va_wsS RX0 106 yJ6_bitCount_0f7a4 wsJ6_bitCount_0f7a4) := goodIn_app (goodIn_of _ (by decide +kernel)) ggX0_countComing_J6_bitCount_0f7a4
theorem dX0_countComing_0 : decode cX0_countComing 0 = .ok (.iload_n 0, 1) := by decide +kernel
theorem dX0_countComing_1 : decode cX0_countComing 1 = .ok (.ldc 195, 2) := by decide +kernel
theorem dX0_countComing_3 : decode cX0_countComing 3 = .ok (.iand, 1) := by decide +kernel
theorem dX0_countComing_4 : decode cX0_countComing 4 = .ok (.invokestatic 106, 3) := by decide +kernel
theorem dX0_countComing_7 : decode cX0_countComing 7 = .ok (.ireturn, 1) := by decide +kernel
theorem dX0_has_0 : decode cX0_has 0 = .ok (.iload_n 0, 1) := by decide +kernel
theorem dX0_has_1 : decode cX0_has 1 = .ok (.iload_n 1, 1) := by decide +kernel
theorem dX0_has_2 : decode cX0_has 2 = .ok (.ishr, 1) := by decide +kernel
theorem dX0_has_3 : decode cX0_has 3 = .ok (.iconst 1, 1) := by decide +kernel
theorem dX0_has_4 : decode cX0_has 4 = .ok (.iand, 1) := by decide +kernel
theorem dX0_has_5 : decode cX0_has 5 = .ok (.ifCond .eq 7, 3) := by decide +kernel
theorem dX0_has_8 : decode cX0_has 8 = .ok (.iconst 1, 1) := by decide +kernel
theorem dX0_has_9 : decode cX0_has 9 = .ok (.goto 4, 3) := by decide +kernel
theorem dX0_has_12 : decode cX0_has 12 = .ok (.iconst 0, 1) := by decide +kernel
theorem dX0_has_13 : decode cX0_has 13 = .ok (.ireturn, 1) := by decide +kernel
theorem dX0_at_0 : decode cX0_at 0 = .ok (.iload_n 1, 1) := by decide +kernel
theorem dX0_at_1 : decode cX0_at 1 = .ok (.ifCond .lt 15, 3) := by decide +kernel
theorem dX0_at_4 : decode cX0_at 4 = .ok (.iload_n 1, 1) := by decide +kernel
theorem dX0_at_5 : decode cX0_at 5 = .ok (.aload_n 0, 1) := by decide +kernel
theorem dX0_at_6 : decode cX0_at 6 = .ok (.arraylength, 1) := by decide +kernel
theorem dX0_at_7 : decode cX0_at 7 = .ok (.if_icmp .ge 9, 3) := by decide +kernel
theorem dX0_at_10 : decode cX0_at 10 = .ok (.aload_n 0, 1) := by decide +kernel
theorem dX0_at_11 : decode cX0_at 11 = .ok (.iload_n 1, 1) := by decide +kernel
theorem dX0_at_12 : decode cX0_at 12 = .ok (.iaload, 1) := by decide +kernel
theorem dX0_at_13 : decode cX0_at 13 = .ok (.goto 4, 3) := by decide +kernel
theorem dX0_at_16 : decode cX0_at 16 = .ok (.iconst 0, 1) := by decide +kernel
theorem dX0_at_17 : decode cX0_at 17 = .ok (.ireturn, 1) := by decide +kernel
theorem dX0_put_0 : decode cX0_put 0 = .ok (.iload_n 1, 1) := by decide +kernel
theorem dX0_put_1 : decode cX0_put 1 = .ok (.ifCond .lt 13, 3) := by decide +kernel
theorem dX0_put_4 : decode cX0_put 4 = .ok (.iload_n 1, 1) := by decide +kernel
theorem dX0_put_5 : decode cX0_put 5 = .ok (.aload_n 0, 1) := by decide +kernel
theorem dX0_put_6 : decode cX0_put 6 = .ok (.arraylength, 1) := by decide +kernel
theorem dX0_put_7 : decode cX0_put 7 = .ok (.if_icmp .ge 7, 3) := by decide +kernel
theorem dX0_put_10 : decode cX0_put 10 = .ok (.aload_n 0, 1) := by decide +kernel
theorem dX0_put_11 : decode cX0_put 11 = .ok (.iload_n 1, 1) := by decide +kernel
theorem dX0_put_12 : decode cX0_put 12 = .ok (.iload_n 2, 1) := by decide +kernel
theorem dX0_put_13 : decode cX0_put 13 = .ok (.iastore, 1) := by decide +kernel
theorem dX0_put_14 : decode cX0_put 14 = .ok (.return_, 1) := by decide +kernel
theorem dX0_oneIf_0 : decode cX0_oneIf 0 = .ok (.iload_n 0, 1) := by decide +kernel
theorem dX0_oneIf_1 : decode cX0_oneIf 1 = .ok (.ifCond .eq 7, 3) := by decide +kernel
theorem dX0_oneIf_4 : decode cX0_oneIf 4 = .ok (.iconst 1, 1) := by decide +kernel
theorem dX0_oneIf_5 : decode cX0_oneIf 5 = .ok (.goto 4, 3) := by decide +kernel
theorem dX0_oneIf_8 : decode cX0_oneIf 8 = .ok (.iconst 0, 1) := by decide +kernel
theorem dX0_oneIf_9 : decode cX0_oneIf 9 = .ok (.ireturn, 1) := by decide +kernel
theorem dJ6_bitCount_0f7a4_0 : decode cJ6_bitCount_0f7a4 0 = .ok (.iload_n 0, 1) := by decide +kernel
theorem dJ6_bitCount_0f7a4_1 : decode cJ6_bitCount_0f7a4 1 = .ok (.iload_n 0, 1) := by decide +kernel
theorem dJ6_bitCount_0f7a4_2 : decode cJ6_bitCount_0f7a4 2 = .ok (.iconst 1, 1) := by decide +kernel
theorem dJ6_bitCount_0f7a4_3 : decode cJ6_bitCount_0f7a4 3 = .ok (.iushr, 1) := by decide +kernel
theorem dJ6_bitCount_0f7a4_4 : decode cJ6_bitCount_0f7a4 4 = .ok (.ldc_w 265, 3) := by decide +kernel
theorem dJ6_bitCount_0f7a4_7 : decode cJ6_bitCount_0f7a4 7 = .ok (.iand, 1) := by decide +kernel
theorem dJ6_bitCount_0f7a4_8 : decode cJ6_bitCount_0f7a4 8 = .ok (.isub, 1) := by decide +kernel
theorem dJ6_bitCount_0f7a4_9 : decode cJ6_bitCount_0f7a4 9 = .ok (.istore_n 0, 1) := by decide +kernel
theorem dJ6_bitCount_0f7a4_10 : decode cJ6_bitCount_0f7a4 10 = .ok (.iload_n 0, 1) := by decide +kernel
theorem dJ6_bitCount_0f7a4_11 : decode cJ6_bitCount_0f7a4 11 = .ok (.ldc_w 266, 3) := by decide +kernel
theorem dJ6_bitCount_0f7a4_14 : decode cJ6_bitCount_0f7a4 14 = .ok (.iand, 1) := by decide +kernel
theorem dJ6_bitCount_0f7a4_15 : decode cJ6_bitCount_0f7a4 15 = .ok (.iload_n 0, 1) := by decide +kernel
theorem dJ6_bitCount_0f7a4_16 : decode cJ6_bitCount_0f7a4 16 = .ok (.iconst 2, 1) := by decide +kernel
theorem dJ6_bitCount_0f7a4_17 : decode cJ6_bitCount_0f7a4 17 = .ok (.iushr, 1) := by decide +kernel
theorem dJ6_bitCount_0f7a4_18 : decode cJ6_bitCount_0f7a4 18 = .ok (.ldc_w 266, 3) := by decide +kernel
theorem dJ6_bitCount_0f7a4_21 : decode cJ6_bitCount_0f7a4 21 = .ok (.iand, 1) := by decide +kernel
theorem dJ6_bitCount_0f7a4_22 : decode cJ6_bitCount_0f7a4 22 = .ok (.iadd, 1) := by decide +kernel
theorem dJ6_bitCount_0f7a4_23 : decode cJ6_bitCount_0f7a4 23 = .ok (.istore_n 0, 1) := by decide +kernel
theorem dJ6_bitCount_0f7a4_24 : decode cJ6_bitCount_0f7a4 24 = .ok (.iload_n 0, 1) := by decide +kernel
theorem dJ6_bitCount_0f7a4_25 : decode cJ6_bitCount_0f7a4 25 = .ok (.iload_n 0, 1) := by decide +kernel
theorem dJ6_bitCount_0f7a4_26 : decode cJ6_bitCount_0f7a4 26 = .ok (.iconst 4, 1) := by decide +kernel
theorem dJ6_bitCount_0f7a4_27 : decode cJ6_bitCount_0f7a4 27 = .ok (.iushr, 1) := by decide +kernel
theorem dJ6_bitCount_0f7a4_28 : decode cJ6_bitCount_0f7a4 28 = .ok (.iadd, 1) := by decide +kernel
theorem dJ6_bitCount_0f7a4_29 : decode cJ6_bitCount_0f7a4 29 = .ok (.ldc_w 267, 3) := by decide +kernel
theorem dJ6_bitCount_0f7a4_32 : decode cJ6_bitCount_0f7a4 32 = .ok (.iand, 1) := by decide +kernel
theorem dJ6_bitCount_0f7a4_33 : decode cJ6_bitCount_0f7a4 33 = .ok (.istore_n 0, 1) := by decide +kernel
theorem dJ6_bitCount_0f7a4_34 : decode cJ6_bitCount_0f7a4 34 = .ok (.iload_n 0, 1) := by decide +kernel
theorem dJ6_bitCount_0f7a4_35 : decode cJ6_bitCount_0f7a4 35 = .ok (.iload_n 0, 1) := by decide +kernel
theorem dJ6_bitCount_0f7a4_36 : decode cJ6_bitCount_0f7a4 36 = .ok (.bipush 8, 2) := by decide +kernel
theorem dJ6_bitCount_0f7a4_38 : decode cJ6_bitCount_0f7a4 38 = .ok (.iushr, 1) := by decide +kernel
theorem dJ6_bitCount_0f7a4_39 : decode cJ6_bitCount_0f7a4 39 = .ok (.iadd, 1) := by decide +kernel
theorem dJ6_bitCount_0f7a4_40 : decode cJ6_bitCount_0f7a4 40 = .ok (.istore_n 0, 1) := by decide +kernel
theorem dJ6_bitCount_0f7a4_41 : decode cJ6_bitCount_0f7a4 41 = .ok (.iload_n 0, 1) := by decide +kernel
theorem dJ6_bitCount_0f7a4_42 : decode cJ6_bitCount_0f7a4 42 = .ok (.iload_n 0, 1) := by decide +kernel
theorem dJ6_bitCount_0f7a4_43 : decode cJ6_bitCount_0f7a4 43 = .ok (.bipush 16, 2) := by decide +kernel
theorem dJ6_bitCount_0f7a4_45 : decode cJ6_bitCount_0f7a4 45 = .ok (.iushr, 1) := by decide +kernel
theorem dJ6_bitCount_0f7a4_46 : decode cJ6_bitCount_0f7a4 46 = .ok (.iadd, 1) := by decide +kernel
theorem dJ6_bitCount_0f7a4_47 : decode cJ6_bitCount_0f7a4 47 = .ok (.istore_n 0, 1) := by decide +kernel
theorem dJ6_bitCount_0f7a4_48 : decode cJ6_bitCount_0f7a4 48 = .ok (.iload_n 0, 1) := by decide +kernel
theorem dJ6_bitCount_0f7a4_49 : decode cJ6_bitCount_0f7a4 49 = .ok (.bipush 63, 2) := by decide +kernel
theorem dJ6_bitCount_0f7a4_51 : decode cJ6_bitCount_0f7a4 51 = .ok (.iand, 1) := by decide +kernel
theorem dJ6_bitCount_0f7a4_52 : decode cJ6_bitCount_0f7a4 52 = .ok (.ireturn, 1) := by decide +kernel
theorem dJ9_max_7cf53_0 : decode cJ9_max_7cf53 0 = .ok (.iload_n 0, 1) := by decide +kernel
theorem dJ9_max_7cf53_1 : decode cJ9_max_7cf53 1 = .ok (.iload_n 1, 1) := by decide +kernel
theorem dJ9_max_7cf53_2 : decode cJ9_max_7cf53 2 = .ok (.if_icmp .lt 7, 3) := by decide +kernel
theorem dJ9_max_7cf53_5 : decode cJ9_max_7cf53 5 = .ok (.iload_n 0, 1) := by decide +kernel
theorem dJ9_max_7cf53_6 : decode cJ9_max_7cf53 6 = .ok (.goto 4, 3) := by decide +kernel
theorem dJ9_max_7cf53_9 : decode cJ9_max_7cf53 9 = .ok (.iload_n 1, 1) := by decide +kernel
theorem dJ9_max_7cf53_10 : decode cJ9_max_7cf53 10 = .ok (.ireturn, 1) := by decide +kernel
theorem dJ9_min_7cf53_0 : decode cJ9_min_7cf53 0 = .ok (.iload_n 0, 1) := by decide +kernel
theorem dJ9_min_7cf53_1 : decode cJ9_min_7cf53 1 = .ok (.iload_n 1, 1) := by decide +kernel
theorem dJ9_min_7cf53_2 : decode cJ9_min_7cf53 2 = .ok (.if_icmp .gt 7, 3) := by decide +kernel
theorem dJ9_min_7cf53_5 : decode cJ9_min_7cf53 5 = .ok (.iload_n 0, 1) := by decide +kernel
theorem dJ9_min_7cf53_6 : decode cJ9_min_7cf53 6 = .ok (.goto 4, 3) := by decide +kernel
theorem dJ9_min_7cf53_9 : decode cJ9_min_7cf53 9 = .ok (.iload_n 1, 1) := by decide +kernel
theorem dJ9_min_7cf53_10 : decode cJ9_min_7cf53 10 = .ok (.ireturn, 1) := by decide +kernel
