theorem dX7_puts_27 : decode cX7_puts 27 = .ok (.aload_n 0, 1) := by decide +kernel
theorem dX7_puts_28 : decode cX7_puts 28 = .ok (.getfield 31, 3) := by decide +kernel
theorem dX7_puts_31 : decode cX7_puts 31 = .ok (.iload_n 2, 1) := by decide +kernel
theorem dX7_puts_32 : decode cX7_puts 32 = .ok (.iaload, 1) := by decide +kernel
theorem dX7_puts_33 : decode cX7_puts 33 = .ok (.bipush 9, 2) := by decide +kernel
theorem dX7_puts_35 : decode cX7_puts 35 = .ok (.if_icmp .ge 7, 3) := by decide +kernel
theorem dX7_puts_38 : decode cX7_puts 38 = .ok (.iconst 1, 1) := by decide +kernel
theorem dX7_puts_39 : decode cX7_puts 39 = .ok (.goto 4, 3) := by decide +kernel
theorem dX7_puts_42 : decode cX7_puts 42 = .ok (.iconst 0, 1) := by decide +kernel
theorem dX7_puts_43 : decode cX7_puts 43 = .ok (.istore_n 3, 1) := by decide +kernel
theorem dX7_puts_44 : decode cX7_puts 44 = .ok (.iload_n 3, 1) := by decide +kernel
theorem dX7_puts_45 : decode cX7_puts 45 = .ok (.ifCond .eq 12, 3) := by decide +kernel
theorem dX7_puts_48 : decode cX7_puts 48 = .ok (.aload_n 0, 1) := by decide +kernel
theorem dX7_puts_49 : decode cX7_puts 49 = .ok (.getfield 31, 3) := by decide +kernel
theorem dX7_puts_52 : decode cX7_puts 52 = .ok (.iload_n 1, 1) := by decide +kernel
theorem dX7_puts_53 : decode cX7_puts 53 = .ok (.iload_n 2, 1) := by decide +kernel
theorem dX7_puts_54 : decode cX7_puts 54 = .ok (.invokestatic 180, 3) := by decide +kernel
theorem dX7_puts_57 : decode cX7_puts 57 = .ok (.iload_n 3, 1) := by decide +kernel
theorem dX7_puts_58 : decode cX7_puts 58 = .ok (.ireturn, 1) := by decide +kernel
set_option maxRecDepth 20000 in
theorem ggX7_marches_X7_noBag : GoodIn wsX7_marches wsX7_noBag := goodIn_r _ [6, 7, 8, 9, 5, 10, 28, 29, 30, 31, 32, 33, 34, 35, 36, 37, 38, 39, 40, 41, 42, 43, 44, 45, 46, 47, 48, 49, 50, 51, 52, 53, 54, 55, 56, 57, 58, 59, 60] (by decide +kernel) (by decide +kernel)
set_option maxRecDepth 20000 in
theorem gX7_marches_X7_noBag : GoodIn wsX7_marches (wsV RX7 163 RX7 yX7_noBag wsX7_noBag) := goodIn_app (goodIn_of _ (by decide +kernel)) ggX7_marches_X7_noBag
set_option maxRecDepth 20000 in
theorem ggX7_marches_X7_play : GoodIn wsX7_marches wsX7_play := goodIn_r _ [14, 15, 16, 17, 5, 18, 19, 20, 21, 22, 23, 24, 25, 26, 27, 28, 29, 30, 31, 32, 33, 34, 35, 36, 37, 38, 39, 40, 41, 42, 43, 44, 45, 46, 47, 48, 49, 50, 51, 52, 53, 54, 55, 56, 57, 58, 59, 60] (by decide +kernel) (by decide +kernel)
set_option maxRecDepth 20000 in
theorem gX7_marches_X7_play : GoodIn wsX7_marches (wsV RX7 185 RX7 yX7_play wsX7_play) := goodIn_app (goodIn_of _ (by decide +kernel)) ggX7_marches_X7_play
theorem dX7_marches_0 : decode cX7_marches 0 = .ok (.aload_n 0, 1) := by decide +kernel
theorem dX7_marches_1 : decode cX7_marches 1 = .ok (.iload_n 1, 1) := by decide +kernel
theorem dX7_marches_2 : decode cX7_marches 2 = .ok (.invokevirtual 163, 3) := by decide +kernel
theorem dX7_marches_5 : decode cX7_marches 5 = .ok (.ifCond .ne 21, 3) := by decide +kernel
theorem dX7_marches_8 : decode cX7_marches 8 = .ok (.iload_n 2, 1) := by decide +kernel
theorem dX7_marches_9 : decode cX7_marches 9 = .ok (.ifCond .le 17, 3) := by decide +kernel
theorem dX7_marches_12 : decode cX7_marches 12 = .ok (.aload_n 0, 1) := by decide +kernel
theorem dX7_marches_13 : decode cX7_marches 13 = .ok (.getfield 31, 3) := by decide +kernel
theorem dX7_marches_16 : decode cX7_marches 16 = .ok (.iload_n 1, 1) := by decide +kernel
theorem dX7_marches_17 : decode cX7_marches 17 = .ok (.iaload, 1) := by decide +kernel
theorem dX7_marches_18 : decode cX7_marches 18 = .ok (.iload_n 2, 1) := by decide +kernel
theorem dX7_marches_19 : decode cX7_marches 19 = .ok (.if_icmp .lt 7, 3) := by decide +kernel
theorem dX7_marches_22 : decode cX7_marches 22 = .ok (.iconst 1, 1) := by decide +kernel
theorem dX7_marches_23 : decode cX7_marches 23 = .ok (.goto 4, 3) := by decide +kernel
theorem dX7_marches_26 : decode cX7_marches 26 = .ok (.iconst 0, 1) := by decide +kernel
theorem dX7_marches_27 : decode cX7_marches 27 = .ok (.istore_n 3, 1) := by decide +kernel
theorem dX7_marches_28 : decode cX7_marches 28 = .ok (.iload_n 3, 1) := by decide +kernel
theorem dX7_marches_29 : decode cX7_marches 29 = .ok (.ifCond .eq 13, 3) := by decide +kernel
theorem dX7_marches_32 : decode cX7_marches 32 = .ok (.aload_n 0, 1) := by decide +kernel
theorem dX7_marches_33 : decode cX7_marches 33 = .ok (.aload_n 0, 1) := by decide +kernel
theorem dX7_marches_34 : decode cX7_marches 34 = .ok (.getfield 31, 3) := by decide +kernel
theorem dX7_marches_37 : decode cX7_marches 37 = .ok (.iload_n 1, 1) := by decide +kernel
theorem dX7_marches_38 : decode cX7_marches 38 = .ok (.iload_n 2, 1) := by decide +kernel
theorem dX7_marches_39 : decode cX7_marches 39 = .ok (.invokevirtual 185, 3) := by decide +kernel
theorem dX7_marches_42 : decode cX7_marches 42 = .ok (.iload_n 3, 1) := by decide +kernel
theorem dX7_marches_43 : decode cX7_marches 43 = .ok (.ireturn, 1) := by decide +kernel
set_option maxRecDepth 20000 in
theorem ggX7_falls_X7_noMan : GoodIn wsX7_falls wsX7_noMan := goodIn_r _ [6, 7, 8, 9, 5, 10, 14, 15, 16, 17, 18, 19, 20, 21, 22, 23, 24, 25, 26, 27, 28, 29, 30, 31, 32, 33, 34, 35, 36, 37, 38, 39, 40, 41, 42, 43, 44, 45, 46] (by decide +kernel) (by decide +kernel)
set_option maxRecDepth 20000 in
theorem gX7_falls_X7_noMan : GoodIn wsX7_falls (wsV RX7 170 RX7 yX7_noMan wsX7_noMan) := goodIn_app (goodIn_of _ (by decide +kernel)) ggX7_falls_X7_noMan
set_option maxRecDepth 20000 in
theorem ggX7_falls_X7_has : GoodIn wsX7_falls wsX7_has := goodIn_r _ [13] (by decide +kernel) (by decide +kernel)
set_option maxRecDepth 20000 in
theorem gX7_falls_X7_has : GoodIn wsX7_falls (va_wsS RX7 131 yX7_has wsX7_has) := goodIn_app (goodIn_of _ (by decide +kernel)) ggX7_falls_X7_has
theorem dX7_falls_0 : decode cX7_falls 0 = .ok (.aload_n 0, 1) := by decide +kernel
theorem dX7_falls_1 : decode cX7_falls 1 = .ok (.iload_n 1, 1) := by decide +kernel
theorem dX7_falls_2 : decode cX7_falls 2 = .ok (.invokevirtual 170, 3) := by decide +kernel
theorem dX7_falls_5 : decode cX7_falls 5 = .ok (.ifCond .ne 21, 3) := by decide +kernel
theorem dX7_falls_8 : decode cX7_falls 8 = .ok (.aload_n 0, 1) := by decide +kernel
theorem dX7_falls_9 : decode cX7_falls 9 = .ok (.getfield 31, 3) := by decide +kernel
theorem dX7_falls_12 : decode cX7_falls 12 = .ok (.bipush 45, 2) := by decide +kernel
theorem dX7_falls_14 : decode cX7_falls 14 = .ok (.iaload, 1) := by decide +kernel
theorem dX7_falls_15 : decode cX7_falls 15 = .ok (.iload_n 1, 1) := by decide +kernel
theorem dX7_falls_16 : decode cX7_falls 16 = .ok (.invokestatic 131, 3) := by decide +kernel
theorem dX7_falls_19 : decode cX7_falls 19 = .ok (.ifCond .ne 7, 3) := by decide +kernel
theorem dX7_falls_22 : decode cX7_falls 22 = .ok (.iconst 1, 1) := by decide +kernel
theorem dX7_falls_23 : decode cX7_falls 23 = .ok (.goto 4, 3) := by decide +kernel
theorem dX7_falls_26 : decode cX7_falls 26 = .ok (.iconst 0, 1) := by decide +kernel
theorem dX7_falls_27 : decode cX7_falls 27 = .ok (.istore_n 2, 1) := by decide +kernel
theorem dX7_falls_28 : decode cX7_falls 28 = .ok (.aload_n 0, 1) := by decide +kernel
theorem dX7_falls_29 : decode cX7_falls 29 = .ok (.getfield 31, 3) := by decide +kernel
theorem dX7_falls_32 : decode cX7_falls 32 = .ok (.bipush 45, 2) := by decide +kernel
theorem dX7_falls_34 : decode cX7_falls 34 = .ok (.dup2, 1) := by decide +kernel
theorem dX7_falls_35 : decode cX7_falls 35 = .ok (.iaload, 1) := by decide +kernel
theorem dX7_falls_36 : decode cX7_falls 36 = .ok (.iload_n 2, 1) := by decide +kernel
theorem dX7_falls_37 : decode cX7_falls 37 = .ok (.ifCond .eq 9, 3) := by decide +kernel
theorem dX7_falls_40 : decode cX7_falls 40 = .ok (.iconst 1, 1) := by decide +kernel
theorem dX7_falls_41 : decode cX7_falls 41 = .ok (.iload_n 1, 1) := by decide +kernel
theorem dX7_falls_42 : decode cX7_falls 42 = .ok (.ishl, 1) := by decide +kernel
theorem dX7_falls_43 : decode cX7_falls 43 = .ok (.goto 4, 3) := by decide +kernel
theorem dX7_falls_46 : decode cX7_falls 46 = .ok (.iconst 0, 1) := by decide +kernel
theorem dX7_falls_47 : decode cX7_falls 47 = .ok (.ior, 1) := by decide +kernel
theorem dX7_falls_48 : decode cX7_falls 48 = .ok (.iastore, 1) := by decide +kernel
theorem dX7_falls_49 : decode cX7_falls 49 = .ok (.iload_n 2, 1) := by decide +kernel
theorem dX7_falls_50 : decode cX7_falls 50 = .ok (.ireturn, 1) := by decide +kernel
set_option maxRecDepth 20000 in
theorem ggX7_does_X7_goDay : GoodIn wsX7_does wsX7_goDay := goodIn_r _ [6, 7, 8, 9, 10, 5, 11, 12, 13, 14, 15, 16, 17, 18, 19, 20, 21, 22, 23, 24, 25, 26, 74, 75, 76, 77, 78, 79, 80, 81, 82, 83, 84, 85, 86, 87, 88, 89, 90, 91, 92, 93, 94, 95, 96, 97, 98, 99, 100, 101, 102, 103, 104, 105, 106] (by decide +kernel) (by decide +kernel)
set_option maxRecDepth 20000 in
theorem gX7_does_X7_goDay : GoodIn wsX7_does (wsV RX7 195 RX7 yX7_goDay wsX7_goDay) := goodIn_app (goodIn_of _ (by decide +kernel)) ggX7_does_X7_goDay
set_option maxRecDepth 20000 in
theorem ggX7_does_X7_puts : GoodIn wsX7_does wsX7_puts := goodIn_r _ [30, 1, 31, 32, 33, 5, 34, 22, 35, 36, 37, 38, 39, 40, 41, 7, 42, 43, 44, 24, 25, 26, 45, 46, 47, 48, 49, 50, 74, 75, 76, 77, 78, 79, 80, 81, 82, 83, 84, 85, 86, 87, 88, 89, 90, 91, 92, 93, 94, 95, 96, 97, 98, 99, 100, 101, 102, 103, 104, 105, 106] (by decide +kernel) (by decide +kernel)
set_option maxRecDepth 20000 in
theorem gX7_does_X7_puts : GoodIn wsX7_does (wsV RX7 230 RX7 yX7_puts wsX7_puts) := goodIn_app (goodIn_of _ (by decide +kernel)) ggX7_does_X7_puts
set_option maxRecDepth 20000 in
theorem ggX7_does_X7_marches : GoodIn wsX7_does wsX7_marches := goodIn_r _ [54, 1, 38, 39, 40, 5, 41, 7, 35, 36, 37, 55, 56, 57, 58, 8, 59, 60, 61, 9, 10, 11, 12, 13, 14, 15, 16, 17, 74, 75, 76, 77, 78, 79, 80, 81, 82, 83, 84, 85, 86, 87, 88, 89, 90, 91, 92, 93, 94, 95, 96, 97, 98, 99, 100, 101, 102, 103, 104, 105, 106] (by decide +kernel) (by decide +kernel)
set_option maxRecDepth 20000 in
theorem gX7_does_X7_marches : GoodIn wsX7_does (wsV RX7 233 RX7 yX7_marches wsX7_marches) := goodIn_app (goodIn_of _ (by decide +kernel)) ggX7_does_X7_marches
set_option maxRecDepth 20000 in
theorem ggX7_does_X7_noMan : GoodIn wsX7_does wsX7_noMan := goodIn_r _ [34, 22, 35, 36, 5, 37, 74, 75, 76, 77, 78, 79, 80, 81, 82, 83, 84, 85, 86, 87, 88, 89, 90, 91, 92, 93, 94, 95, 96, 97, 98, 99, 100, 101, 102, 103, 104, 105, 106] (by decide +kernel) (by decide +kernel)
set_option maxRecDepth 20000 in
theorem gX7_does_X7_noMan : GoodIn wsX7_does (wsV RX7 170 RX7 yX7_noMan wsX7_noMan) := goodIn_app (goodIn_of _ (by decide +kernel)) ggX7_does_X7_noMan
set_option maxRecDepth 20000 in
theorem ggX7_does_X7_noBag : GoodIn wsX7_does wsX7_noBag := goodIn_r _ [41, 7, 35, 36, 5, 37, 74, 75, 76, 77, 78, 79, 80, 81, 82, 83, 84, 85, 86, 87, 88, 89, 90, 91, 92, 93, 94, 95, 96, 97, 98, 99, 100, 101, 102, 103, 104, 105, 106] (by decide +kernel) (by decide +kernel)
set_option maxRecDepth 20000 in
theorem gX7_does_X7_noBag : GoodIn wsX7_does (wsV RX7 163 RX7 yX7_noBag wsX7_noBag) := goodIn_app (goodIn_of _ (by decide +kernel)) ggX7_does_X7_noBag
set_option maxRecDepth 20000 in
theorem ggX7_does_X7_goClaim : GoodIn wsX7_does wsX7_goClaim := goodIn_r _ [65, 66, 67, 68, 5, 69, 8, 59, 60, 61, 12, 13, 14, 24, 25, 26, 15, 16, 17, 74, 75, 76, 77, 78, 79, 80, 81, 82, 83, 84, 85, 86, 87, 88, 89, 90, 91, 92, 93, 94, 95, 96, 97, 98, 99, 100, 101, 102, 103, 104, 105, 106] (by decide +kernel) (by decide +kernel)
set_option maxRecDepth 20000 in
theorem gX7_does_X7_goClaim : GoodIn wsX7_does (wsV RX7 191 RX7 yX7_goClaim wsX7_goClaim) := goodIn_app (goodIn_of _ (by decide +kernel)) ggX7_does_X7_goClaim
set_option maxRecDepth 20000 in
theorem ggX7_does_X7_falls : GoodIn wsX7_does wsX7_falls := goodIn_r _ [73, 1, 31, 32, 33, 5, 34, 22, 35, 36, 37, 24, 25, 26, 74, 75, 76, 77, 78, 79, 80, 81, 82, 83, 84, 85, 86, 87, 88, 89, 90, 91, 92, 93, 94, 95, 96, 97, 98, 99, 100, 101, 102, 103, 104, 105, 106] (by decide +kernel) (by decide +kernel)
set_option maxRecDepth 20000 in
theorem gX7_does_X7_falls : GoodIn wsX7_does (wsV RX7 236 RX7 yX7_falls wsX7_falls) := goodIn_app (goodIn_of _ (by decide +kernel)) ggX7_does_X7_falls
theorem dX7_does_0 : decode cX7_does 0 = .ok (.iload_n 1, 1) := by decide +kernel
theorem dX7_does_1 : decode cX7_does 1 = .ok (.bipush 100, 2) := by decide +kernel
theorem dX7_does_3 : decode cX7_does 3 = .ok (.idiv, 1) := by decide +kernel
theorem dX7_does_4 : decode cX7_does 4 = .ok (.istore_n 2, 1) := by decide +kernel
theorem dX7_does_5 : decode cX7_does 5 = .ok (.iload_n 1, 1) := by decide +kernel
theorem dX7_does_6 : decode cX7_does 6 = .ok (.bipush 10, 2) := by decide +kernel
theorem dX7_does_8 : decode cX7_does 8 = .ok (.idiv, 1) := by decide +kernel
theorem dX7_does_9 : decode cX7_does 9 = .ok (.bipush 10, 2) := by decide +kernel
theorem dX7_does_11 : decode cX7_does 11 = .ok (.irem, 1) := by decide +kernel
theorem dX7_does_12 : decode cX7_does 12 = .ok (.istore_n 3, 1) := by decide +kernel
theorem dX7_does_13 : decode cX7_does 13 = .ok (.iload_n 1, 1) := by decide +kernel
theorem dX7_does_14 : decode cX7_does 14 = .ok (.bipush 10, 2) := by decide +kernel
theorem dX7_does_16 : decode cX7_does 16 = .ok (.irem, 1) := by decide +kernel
theorem dX7_does_17 : decode cX7_does 17 = .ok (.istore 4, 2) := by decide +kernel
theorem dX7_does_19 : decode cX7_does 19 = .ok (.iload_n 1, 1) := by decide +kernel
theorem dX7_does_20 : decode cX7_does 20 = .ok (.ifCond .ne 14, 3) := by decide +kernel
theorem dX7_does_23 : decode cX7_does 23 = .ok (.aload_n 0, 1) := by decide +kernel
theorem dX7_does_24 : decode cX7_does 24 = .ok (.aload_n 0, 1) := by decide +kernel
theorem dX7_does_25 : decode cX7_does 25 = .ok (.getfield 31, 3) := by decide +kernel
theorem dX7_does_28 : decode cX7_does 28 = .ok (.invokevirtual 195, 3) := by decide +kernel
theorem dX7_does_31 : decode cX7_does 31 = .ok (.pop, 1) := by decide +kernel
theorem dX7_does_32 : decode cX7_does 32 = .ok (.iconst 1, 1) := by decide +kernel
theorem dX7_does_33 : decode cX7_does 33 = .ok (.ireturn, 1) := by decide +kernel
theorem dX7_does_34 : decode cX7_does 34 = .ok (.iload_n 2, 1) := by decide +kernel
theorem dX7_does_35 : decode cX7_does 35 = .ok (.tableswitch 140 1 5 #[33, 41, 49, 86, 121], 33) := by decide +kernel
theorem dX7_does_68 : decode cX7_does 68 = .ok (.aload_n 0, 1) := by decide +kernel
theorem dX7_does_69 : decode cX7_does 69 = .ok (.iload_n 3, 1) := by decide +kernel
theorem dX7_does_70 : decode cX7_does 70 = .ok (.iload 4, 2) := by decide +kernel
theorem dX7_does_72 : decode cX7_does 72 = .ok (.invokevirtual 230, 3) := by decide +kernel
theorem dX7_does_75 : decode cX7_does 75 = .ok (.ireturn, 1) := by decide +kernel
theorem dX7_does_76 : decode cX7_does 76 = .ok (.aload_n 0, 1) := by decide +kernel
theorem dX7_does_77 : decode cX7_does 77 = .ok (.iload_n 3, 1) := by decide +kernel
theorem dX7_does_78 : decode cX7_does 78 = .ok (.iload 4, 2) := by decide +kernel
theorem dX7_does_80 : decode cX7_does 80 = .ok (.invokevirtual 233, 3) := by decide +kernel
theorem dX7_does_83 : decode cX7_does 83 = .ok (.ireturn, 1) := by decide +kernel
theorem dX7_does_84 : decode cX7_does 84 = .ok (.aload_n 0, 1) := by decide +kernel
theorem dX7_does_85 : decode cX7_does 85 = .ok (.iload_n 3, 1) := by decide +kernel
theorem dX7_does_86 : decode cX7_does 86 = .ok (.invokevirtual 170, 3) := by decide +kernel
theorem dX7_does_89 : decode cX7_does 89 = .ok (.ifCond .ne 30, 3) := by decide +kernel
theorem dX7_does_92 : decode cX7_does 92 = .ok (.aload_n 0, 1) := by decide +kernel
theorem dX7_does_93 : decode cX7_does 93 = .ok (.iload 4, 2) := by decide +kernel
theorem dX7_does_95 : decode cX7_does 95 = .ok (.invokevirtual 163, 3) := by decide +kernel
theorem dX7_does_98 : decode cX7_does 98 = .ok (.ifCond .ne 21, 3) := by decide +kernel
theorem dX7_does_101 : decode cX7_does 101 = .ok (.aload_n 0, 1) := by decide +kernel
theorem dX7_does_102 : decode cX7_does 102 = .ok (.aload_n 0, 1) := by decide +kernel
theorem dX7_does_103 : decode cX7_does 103 = .ok (.getfield 31, 3) := by decide +kernel
theorem dX7_does_106 : decode cX7_does 106 = .ok (.iload_n 3, 1) := by decide +kernel
theorem dX7_does_107 : decode cX7_does 107 = .ok (.iload 4, 2) := by decide +kernel
theorem dX7_does_109 : decode cX7_does 109 = .ok (.invokevirtual 191, 3) := by decide +kernel
theorem dX7_does_112 : decode cX7_does 112 = .ok (.ifCond .eq 7, 3) := by decide +kernel
theorem dX7_does_115 : decode cX7_does 115 = .ok (.iconst 1, 1) := by decide +kernel
theorem dX7_does_116 : decode cX7_does 116 = .ok (.goto 4, 3) := by decide +kernel
theorem dX7_does_119 : decode cX7_does 119 = .ok (.iconst 0, 1) := by decide +kernel
theorem dX7_does_120 : decode cX7_does 120 = .ok (.ireturn, 1) := by decide +kernel
theorem dX7_does_121 : decode cX7_does 121 = .ok (.iload_n 3, 1) := by decide +kernel
theorem dX7_does_122 : decode cX7_does 122 = .ok (.ifCond .ne 32, 3) := by decide +kernel
theorem dX7_does_125 : decode cX7_does 125 = .ok (.aload_n 0, 1) := by decide +kernel
theorem dX7_does_126 : decode cX7_does 126 = .ok (.iload 4, 2) := by decide +kernel
theorem dX7_does_128 : decode cX7_does 128 = .ok (.invokevirtual 163, 3) := by decide +kernel
theorem dX7_does_131 : decode cX7_does 131 = .ok (.ifCond .ne 23, 3) := by decide +kernel
theorem dX7_does_134 : decode cX7_does 134 = .ok (.aload_n 0, 1) := by decide +kernel
theorem dX7_does_135 : decode cX7_does 135 = .ok (.iload 4, 2) := by decide +kernel
theorem dX7_does_137 : decode cX7_does 137 = .ok (.aload_n 0, 1) := by decide +kernel
theorem dX7_does_138 : decode cX7_does 138 = .ok (.getfield 31, 3) := by decide +kernel
theorem dX7_does_141 : decode cX7_does 141 = .ok (.iload 4, 2) := by decide +kernel
theorem dX7_does_143 : decode cX7_does 143 = .ok (.iaload, 1) := by decide +kernel
theorem dX7_does_144 : decode cX7_does 144 = .ok (.invokevirtual 233, 3) := by decide +kernel
theorem dX7_does_147 : decode cX7_does 147 = .ok (.ifCond .eq 7, 3) := by decide +kernel
theorem dX7_does_150 : decode cX7_does 150 = .ok (.iconst 1, 1) := by decide +kernel
theorem dX7_does_151 : decode cX7_does 151 = .ok (.goto 4, 3) := by decide +kernel
theorem dX7_does_154 : decode cX7_does 154 = .ok (.iconst 0, 1) := by decide +kernel
theorem dX7_does_155 : decode cX7_does 155 = .ok (.ireturn, 1) := by decide +kernel
theorem dX7_does_156 : decode cX7_does 156 = .ok (.iload_n 3, 1) := by decide +kernel
theorem dX7_does_157 : decode cX7_does 157 = .ok (.ifCond .ne 16, 3) := by decide +kernel
theorem dX7_does_160 : decode cX7_does 160 = .ok (.aload_n 0, 1) := by decide +kernel
theorem dX7_does_161 : decode cX7_does 161 = .ok (.iload 4, 2) := by decide +kernel
theorem dX7_does_163 : decode cX7_does 163 = .ok (.invokevirtual 236, 3) := by decide +kernel
theorem dX7_does_166 : decode cX7_does 166 = .ok (.ifCond .eq 7, 3) := by decide +kernel
theorem dX7_does_169 : decode cX7_does 169 = .ok (.iconst 1, 1) := by decide +kernel
theorem dX7_does_170 : decode cX7_does 170 = .ok (.goto 4, 3) := by decide +kernel
theorem dX7_does_173 : decode cX7_does 173 = .ok (.iconst 0, 1) := by decide +kernel
theorem dX7_does_174 : decode cX7_does 174 = .ok (.ireturn, 1) := by decide +kernel
theorem dX7_does_175 : decode cX7_does 175 = .ok (.iload_n 2, 1) := by decide +kernel
theorem dX7_does_176 : decode cX7_does 176 = .ok (.bipush 6, 2) := by decide +kernel
theorem dX7_does_178 : decode cX7_does 178 = .ok (.if_icmp .ne 29, 3) := by decide +kernel
theorem dX7_does_181 : decode cX7_does 181 = .ok (.aload_n 0, 1) := by decide +kernel
theorem dX7_does_182 : decode cX7_does 182 = .ok (.iload_n 3, 1) := by decide +kernel
theorem dX7_does_183 : decode cX7_does 183 = .ok (.invokevirtual 170, 3) := by decide +kernel
theorem dX7_does_186 : decode cX7_does 186 = .ok (.ifCond .ne 21, 3) := by decide +kernel
theorem dX7_does_189 : decode cX7_does 189 = .ok (.aload_n 0, 1) := by decide +kernel
theorem dX7_does_190 : decode cX7_does 190 = .ok (.getfield 31, 3) := by decide +kernel
theorem dX7_does_193 : decode cX7_does 193 = .ok (.bipush 30, 2) := by decide +kernel
theorem dX7_does_195 : decode cX7_does 195 = .ok (.iload_n 3, 1) := by decide +kernel
theorem dX7_does_196 : decode cX7_does 196 = .ok (.iadd, 1) := by decide +kernel
theorem dX7_does_197 : decode cX7_does 197 = .ok (.iaload, 1) := by decide +kernel
theorem dX7_does_198 : decode cX7_does 198 = .ok (.iload 4, 2) := by decide +kernel
theorem dX7_does_200 : decode cX7_does 200 = .ok (.if_icmp .lt 7, 3) := by decide +kernel
theorem dX7_does_203 : decode cX7_does 203 = .ok (.iconst 1, 1) := by decide +kernel
theorem dX7_does_204 : decode cX7_does 204 = .ok (.goto 4, 3) := by decide +kernel
theorem dX7_does_207 : decode cX7_does 207 = .ok (.iconst 0, 1) := by decide +kernel
theorem dX7_does_208 : decode cX7_does 208 = .ok (.ireturn, 1) := by decide +kernel
set_option maxRecDepth 20000 in
theorem ggX7_judge_X7_in : GoodIn wsX7_judge wsX7_in := goodIn_r _ [7] (by decide +kernel) (by decide +kernel)
set_option maxRecDepth 20000 in
theorem gX7_judge_X7_in : GoodIn wsX7_judge (va_wsS RX7 69 yX7_in wsX7_in) := goodIn_app (goodIn_of _ (by decide +kernel)) ggX7_judge_X7_in
set_option maxRecDepth 20000 in
theorem ggX7_judge_X7_longPower : GoodIn wsX7_judge wsX7_longPower := goodIn_r _ [10] (by decide +kernel) (by decide +kernel)
set_option maxRecDepth 20000 in
theorem gX7_judge_X7_longPower : GoodIn wsX7_judge (va_wsS RX7 243 yX7_longPower wsX7_longPower) := goodIn_app (goodIn_of _ (by decide +kernel)) ggX7_judge_X7_longPower
set_option maxRecDepth 20000 in
theorem ggX7_judge_X7_begin : GoodIn wsX7_judge wsX7_begin := goodIn_r _ [14, 15, 16, 89, 90, 91, 92, 93, 94, 95, 96, 97, 98, 99, 100, 101, 102, 103, 104, 105, 106, 107, 108, 109, 110, 111, 112, 113, 114, 115, 116, 117, 118, 119, 120, 121] (by decide +kernel) (by decide +kernel)
set_option maxRecDepth 20000 in
theorem gX7_judge_X7_begin : GoodIn wsX7_judge (wsV RX7 198 RX7 yX7_begin wsX7_begin) := goodIn_app (goodIn_of _ (by decide +kernel)) ggX7_judge_X7_begin
set_option maxRecDepth 20000 in
theorem ggX7_judge_X7_does : GoodIn wsX7_judge wsX7_does := goodIn_r _ [20, 15, 21, 22, 23, 6, 24, 25, 26, 27, 28, 29, 30, 31, 32, 33, 34, 35, 36, 37, 38, 39, 40, 41, 42, 43, 44, 45, 46, 47, 48, 49, 50, 51, 52, 4, 5, 7, 53, 54, 55, 56, 57, 58, 59, 60, 61, 62, 63, 64, 65, 66, 67, 68, 69, 70, 71, 72, 73, 74, 75, 76, 77, 78, 79, 80, 81, 82, 83, 84, 85, 86, 87, 88, 89, 90, 91, 92, 93, 94, 95, 96, 97, 98, 99, 100, 101, 102, 103, 104, 105, 106, 107, 108, 109, 110, 111, 112, 113, 114, 115, 116, 117, 118, 119, 120, 121] (by decide +kernel) (by decide +kernel)
set_option maxRecDepth 20000 in
theorem gX7_judge_X7_does : GoodIn wsX7_judge (wsV RX7 247 RX7 yX7_does wsX7_does) := goodIn_app (goodIn_of _ (by decide +kernel)) ggX7_judge_X7_does
theorem dX7_judge_0 : decode cX7_judge 0 = .ok (.aload_n 0, 1) := by decide +kernel
theorem dX7_judge_1 : decode cX7_judge 1 = .ok (.iconst 0, 1) := by decide +kernel
theorem dX7_judge_2 : decode cX7_judge 2 = .ok (.putfield 62, 3) := by decide +kernel
theorem dX7_judge_5 : decode cX7_judge 5 = .ok (.iload_n 1, 1) := by decide +kernel
theorem dX7_judge_6 : decode cX7_judge 6 = .ok (.i2l, 1) := by decide +kernel
theorem dX7_judge_7 : decode cX7_judge 7 = .ok (.lconst 1, 1) := by decide +kernel
theorem dX7_judge_8 : decode cX7_judge 8 = .ok (.ldc2_w 239, 3) := by decide +kernel
theorem dX7_judge_11 : decode cX7_judge 11 = .ok (.invokestatic 69, 3) := by decide +kernel
theorem dX7_judge_14 : decode cX7_judge 14 = .ok (.ifCond .eq 20, 3) := by decide +kernel
theorem dX7_judge_17 : decode cX7_judge 17 = .ok (.lload_n 2, 1) := by decide +kernel
theorem dX7_judge_18 : decode cX7_judge 18 = .ok (.lconst 0, 1) := by decide +kernel
theorem dX7_judge_19 : decode cX7_judge 19 = .ok (.ldc2_w 241, 3) := by decide +kernel
theorem dX7_judge_22 : decode cX7_judge 22 = .ok (.iload_n 1, 1) := by decide +kernel
theorem dX7_judge_23 : decode cX7_judge 23 = .ok (.invokestatic 243, 3) := by decide +kernel
theorem dX7_judge_26 : decode cX7_judge 26 = .ok (.lconst 1, 1) := by decide +kernel
theorem dX7_judge_27 : decode cX7_judge 27 = .ok (.lsub, 1) := by decide +kernel
theorem dX7_judge_28 : decode cX7_judge 28 = .ok (.invokestatic 69, 3) := by decide +kernel
theorem dX7_judge_31 : decode cX7_judge 31 = .ok (.ifCond .ne 6, 3) := by decide +kernel
theorem dX7_judge_34 : decode cX7_judge 34 = .ok (.bipush (-2), 2) := by decide +kernel
theorem dX7_judge_36 : decode cX7_judge 36 = .ok (.ireturn, 1) := by decide +kernel
theorem dX7_judge_37 : decode cX7_judge 37 = .ok (.aload_n 0, 1) := by decide +kernel
theorem dX7_judge_38 : decode cX7_judge 38 = .ok (.invokevirtual 198, 3) := by decide +kernel
theorem dX7_judge_41 : decode cX7_judge 41 = .ok (.iconst 0, 1) := by decide +kernel
theorem dX7_judge_42 : decode cX7_judge 42 = .ok (.istore 4, 2) := by decide +kernel
theorem dX7_judge_44 : decode cX7_judge 44 = .ok (.iload 4, 2) := by decide +kernel
theorem dX7_judge_46 : decode cX7_judge 46 = .ok (.iload_n 1, 1) := by decide +kernel
theorem dX7_judge_47 : decode cX7_judge 47 = .ok (.if_icmp .ge 38, 3) := by decide +kernel
theorem dX7_judge_50 : decode cX7_judge 50 = .ok (.aload_n 0, 1) := by decide +kernel
theorem dX7_judge_51 : decode cX7_judge 51 = .ok (.lload_n 2, 1) := by decide +kernel
theorem dX7_judge_52 : decode cX7_judge 52 = .ok (.ldc2_w 241, 3) := by decide +kernel
theorem dX7_judge_55 : decode cX7_judge 55 = .ok (.iload_n 1, 1) := by decide +kernel
theorem dX7_judge_56 : decode cX7_judge 56 = .ok (.iconst 1, 1) := by decide +kernel
theorem dX7_judge_57 : decode cX7_judge 57 = .ok (.isub, 1) := by decide +kernel
theorem dX7_judge_58 : decode cX7_judge 58 = .ok (.iload 4, 2) := by decide +kernel
theorem dX7_judge_60 : decode cX7_judge 60 = .ok (.isub, 1) := by decide +kernel
theorem dX7_judge_61 : decode cX7_judge 61 = .ok (.invokestatic 243, 3) := by decide +kernel
theorem dX7_judge_64 : decode cX7_judge 64 = .ok (.ldiv, 1) := by decide +kernel
theorem dX7_judge_65 : decode cX7_judge 65 = .ok (.ldc2_w 241, 3) := by decide +kernel
theorem dX7_judge_68 : decode cX7_judge 68 = .ok (.lrem, 1) := by decide +kernel
theorem dX7_judge_69 : decode cX7_judge 69 = .ok (.l2i, 1) := by decide +kernel
theorem dX7_judge_70 : decode cX7_judge 70 = .ok (.invokevirtual 247, 3) := by decide +kernel
theorem dX7_judge_73 : decode cX7_judge 73 = .ok (.ifCond .ne 6, 3) := by decide +kernel
theorem dX7_judge_76 : decode cX7_judge 76 = .ok (.iload 4, 2) := by decide +kernel
theorem dX7_judge_78 : decode cX7_judge 78 = .ok (.ireturn, 1) := by decide +kernel
theorem dX7_judge_79 : decode cX7_judge 79 = .ok (.iinc 4 1, 3) := by decide +kernel
theorem dX7_judge_82 : decode cX7_judge 82 = .ok (.goto (-38), 3) := by decide +kernel
theorem dX7_judge_85 : decode cX7_judge 85 = .ok (.bipush (-9), 2) := by decide +kernel
theorem dX7_judge_87 : decode cX7_judge 87 = .ok (.ireturn, 1) := by decide +kernel
theorem dX7_ways_0 : decode cX7_ways 0 = .ok (.iconst 1, 1) := by decide +kernel
theorem dX7_ways_1 : decode cX7_ways 1 = .ok (.istore_n 1, 1) := by decide +kernel
theorem dX7_ways_2 : decode cX7_ways 2 = .ok (.iconst 2, 1) := by decide +kernel
theorem dX7_ways_3 : decode cX7_ways 3 = .ok (.istore_n 2, 1) := by decide +kernel
theorem dX7_ways_4 : decode cX7_ways 4 = .ok (.iload_n 2, 1) := by decide +kernel
theorem dX7_ways_5 : decode cX7_ways 5 = .ok (.iload_n 0, 1) := by decide +kernel
theorem dX7_ways_6 : decode cX7_ways 6 = .ok (.if_icmp .gt 13, 3) := by decide +kernel
theorem dX7_ways_9 : decode cX7_ways 9 = .ok (.iload_n 1, 1) := by decide +kernel
theorem dX7_ways_10 : decode cX7_ways 10 = .ok (.iload_n 2, 1) := by decide +kernel
theorem dX7_ways_11 : decode cX7_ways 11 = .ok (.imul, 1) := by decide +kernel
theorem dX7_ways_12 : decode cX7_ways 12 = .ok (.istore_n 1, 1) := by decide +kernel
theorem dX7_ways_13 : decode cX7_ways 13 = .ok (.iinc 2 1, 3) := by decide +kernel
theorem dX7_ways_16 : decode cX7_ways 16 = .ok (.goto (-12), 3) := by decide +kernel
theorem dX7_ways_19 : decode cX7_ways 19 = .ok (.iload_n 1, 1) := by decide +kernel
theorem dX7_ways_20 : decode cX7_ways 20 = .ok (.ireturn, 1) := by decide +kernel
theorem dX7_divisor_0 : decode cX7_divisor 0 = .ok (.iload_n 0, 1) := by decide +kernel
theorem dX7_divisor_1 : decode cX7_divisor 1 = .ok (.ifCond .ge 8, 3) := by decide +kernel
theorem dX7_divisor_4 : decode cX7_divisor 4 = .ok (.iload_n 0, 1) := by decide +kernel
theorem dX7_divisor_5 : decode cX7_divisor 5 = .ok (.ineg, 1) := by decide +kernel
theorem dX7_divisor_6 : decode cX7_divisor 6 = .ok (.goto 4, 3) := by decide +kernel
theorem dX7_divisor_9 : decode cX7_divisor 9 = .ok (.iload_n 0, 1) := by decide +kernel
theorem dX7_divisor_10 : decode cX7_divisor 10 = .ok (.istore_n 2, 1) := by decide +kernel
theorem dX7_divisor_11 : decode cX7_divisor 11 = .ok (.iload_n 1, 1) := by decide +kernel
theorem dX7_divisor_12 : decode cX7_divisor 12 = .ok (.istore_n 3, 1) := by decide +kernel
theorem dX7_divisor_13 : decode cX7_divisor 13 = .ok (.iload_n 3, 1) := by decide +kernel
theorem dX7_divisor_14 : decode cX7_divisor 14 = .ok (.ifCond .eq 16, 3) := by decide +kernel
theorem dX7_divisor_17 : decode cX7_divisor 17 = .ok (.iload_n 2, 1) := by decide +kernel
theorem dX7_divisor_18 : decode cX7_divisor 18 = .ok (.iload_n 3, 1) := by decide +kernel
theorem dX7_divisor_19 : decode cX7_divisor 19 = .ok (.irem, 1) := by decide +kernel
theorem dX7_divisor_20 : decode cX7_divisor 20 = .ok (.istore 4, 2) := by decide +kernel
theorem dX7_divisor_22 : decode cX7_divisor 22 = .ok (.iload_n 3, 1) := by decide +kernel
theorem dX7_divisor_23 : decode cX7_divisor 23 = .ok (.istore_n 2, 1) := by decide +kernel
theorem dX7_divisor_24 : decode cX7_divisor 24 = .ok (.iload 4, 2) := by decide +kernel
theorem dX7_divisor_26 : decode cX7_divisor 26 = .ok (.istore_n 3, 1) := by decide +kernel
theorem dX7_divisor_27 : decode cX7_divisor 27 = .ok (.goto (-14), 3) := by decide +kernel
theorem dX7_divisor_30 : decode cX7_divisor 30 = .ok (.iload_n 2, 1) := by decide +kernel
theorem dX7_divisor_31 : decode cX7_divisor 31 = .ok (.ireturn, 1) := by decide +kernel
set_option maxRecDepth 20000 in
theorem ggX7_fraction_X7_divisor : GoodIn wsX7_fraction wsX7_divisor := goodIn_r _ [4] (by decide +kernel) (by decide +kernel)
set_option maxRecDepth 20000 in
theorem gX7_fraction_X7_divisor : GoodIn wsX7_fraction (va_wsS RX7 250 yX7_divisor wsX7_divisor) := goodIn_app (goodIn_of _ (by decide +kernel)) ggX7_fraction_X7_divisor
theorem dX7_fraction_0 : decode cX7_fraction 0 = .ok (.iload_n 0, 1) := by decide +kernel
theorem dX7_fraction_1 : decode cX7_fraction 1 = .ok (.iload_n 1, 1) := by decide +kernel
theorem dX7_fraction_2 : decode cX7_fraction 2 = .ok (.invokestatic 250, 3) := by decide +kernel
theorem dX7_fraction_5 : decode cX7_fraction 5 = .ok (.istore_n 3, 1) := by decide +kernel
theorem dX7_fraction_6 : decode cX7_fraction 6 = .ok (.iload_n 2, 1) := by decide +kernel
theorem dX7_fraction_7 : decode cX7_fraction 7 = .ok (.ifCond .eq 9, 3) := by decide +kernel
theorem dX7_fraction_10 : decode cX7_fraction 10 = .ok (.iload_n 0, 1) := by decide +kernel
theorem dX7_fraction_11 : decode cX7_fraction 11 = .ok (.iload_n 3, 1) := by decide +kernel
theorem dX7_fraction_12 : decode cX7_fraction 12 = .ok (.idiv, 1) := by decide +kernel
theorem dX7_fraction_13 : decode cX7_fraction 13 = .ok (.goto 6, 3) := by decide +kernel
theorem dX7_fraction_16 : decode cX7_fraction 16 = .ok (.iload_n 1, 1) := by decide +kernel
theorem dX7_fraction_17 : decode cX7_fraction 17 = .ok (.iload_n 3, 1) := by decide +kernel
theorem dX7_fraction_18 : decode cX7_fraction 18 = .ok (.idiv, 1) := by decide +kernel
theorem dX7_fraction_19 : decode cX7_fraction 19 = .ok (.ireturn, 1) := by decide +kernel
set_option maxRecDepth 20000 in
theorem ggX7_share_X7_noMan : GoodIn wsX7_share wsX7_noMan := goodIn_r _ [9, 2, 10, 11, 8, 12, 37, 38, 39, 40, 41, 42, 43, 44, 45, 46, 47, 48, 49, 50, 51, 52, 53, 54, 55, 56, 57, 58, 59, 60, 61, 62, 63, 64, 65, 66, 67, 68, 69] (by decide +kernel) (by decide +kernel)
set_option maxRecDepth 20000 in
theorem gX7_share_X7_noMan : GoodIn wsX7_share (wsV RX7 170 RX7 yX7_noMan wsX7_noMan) := goodIn_app (goodIn_of _ (by decide +kernel)) ggX7_share_X7_noMan
set_option maxRecDepth 20000 in
theorem ggX7_share_X7_has : GoodIn wsX7_share wsX7_has := goodIn_r _ [15] (by decide +kernel) (by decide +kernel)
set_option maxRecDepth 20000 in
theorem gX7_share_X7_has : GoodIn wsX7_share (va_wsS RX7 131 yX7_has wsX7_has) := goodIn_app (goodIn_of _ (by decide +kernel)) ggX7_share_X7_has
set_option maxRecDepth 20000 in
theorem ggX7_share_X7_allOf : GoodIn wsX7_share wsX7_allOf := goodIn_r _ [18, 19, 20, 8, 21, 22, 23, 24] (by decide +kernel) (by decide +kernel)
set_option maxRecDepth 20000 in
theorem gX7_share_X7_allOf : GoodIn wsX7_share (va_wsS RX7 135 yX7_allOf wsX7_allOf) := goodIn_app (goodIn_of _ (by decide +kernel)) ggX7_share_X7_allOf
set_option maxRecDepth 20000 in
theorem ggX7_share_X7_many : GoodIn wsX7_share wsX7_many := goodIn_r _ [27] (by decide +kernel) (by decide +kernel)
set_option maxRecDepth 20000 in
theorem gX7_share_X7_many : GoodIn wsX7_share (va_wsS RX7 222 yX7_many wsX7_many) := goodIn_app (goodIn_of _ (by decide +kernel)) ggX7_share_X7_many
set_option maxRecDepth 20000 in
theorem ggX7_share_X7_ways : GoodIn wsX7_share wsX7_ways := goodIn_r _ [30] (by decide +kernel) (by decide +kernel)
set_option maxRecDepth 20000 in
theorem gX7_share_X7_ways : GoodIn wsX7_share (va_wsS RX7 253 yX7_ways wsX7_ways) := goodIn_app (goodIn_of _ (by decide +kernel)) ggX7_share_X7_ways
set_option maxRecDepth 20000 in
theorem ggX7_share_X7_fraction : GoodIn wsX7_share wsX7_fraction := goodIn_r _ [33, 34, 35, 8, 36] (by decide +kernel) (by decide +kernel)
set_option maxRecDepth 20000 in
theorem gX7_share_X7_fraction : GoodIn wsX7_share (va_wsS RX7 256 yX7_fraction wsX7_fraction) := goodIn_app (goodIn_of _ (by decide +kernel)) ggX7_share_X7_fraction
theorem dX7_share_0 : decode cX7_share 0 = .ok (.aload_n 0, 1) := by decide +kernel
theorem dX7_share_1 : decode cX7_share 1 = .ok (.iconst 0, 1) := by decide +kernel
theorem dX7_share_2 : decode cX7_share 2 = .ok (.putfield 62, 3) := by decide +kernel
theorem dX7_share_5 : decode cX7_share 5 = .ok (.aload_n 0, 1) := by decide +kernel
theorem dX7_share_6 : decode cX7_share 6 = .ok (.iload_n 1, 1) := by decide +kernel
theorem dX7_share_7 : decode cX7_share 7 = .ok (.invokevirtual 170, 3) := by decide +kernel
theorem dX7_share_10 : decode cX7_share 10 = .ok (.ifCond .eq 5, 3) := by decide +kernel
theorem dX7_share_13 : decode cX7_share 13 = .ok (.iconst (-1), 1) := by decide +kernel
theorem dX7_share_14 : decode cX7_share 14 = .ok (.ireturn, 1) := by decide +kernel
theorem dX7_share_15 : decode cX7_share 15 = .ok (.iconst 0, 1) := by decide +kernel
theorem dX7_share_16 : decode cX7_share 16 = .ok (.istore_n 3, 1) := by decide +kernel
theorem dX7_share_17 : decode cX7_share 17 = .ok (.iload_n 3, 1) := by decide +kernel
theorem dX7_share_18 : decode cX7_share 18 = .ok (.iconst 1, 1) := by decide +kernel
theorem dX7_share_19 : decode cX7_share 19 = .ok (.aload_n 0, 1) := by decide +kernel
theorem dX7_share_20 : decode cX7_share 20 = .ok (.getfield 73, 3) := by decide +kernel
theorem dX7_share_23 : decode cX7_share 23 = .ok (.ishl, 1) := by decide +kernel
theorem dX7_share_24 : decode cX7_share 24 = .ok (.if_icmp .ge 67, 3) := by decide +kernel
theorem dX7_share_27 : decode cX7_share 27 = .ok (.iconst 0, 1) := by decide +kernel
theorem dX7_share_28 : decode cX7_share 28 = .ok (.istore 4, 2) := by decide +kernel
theorem dX7_share_30 : decode cX7_share 30 = .ok (.iconst 0, 1) := by decide +kernel
theorem dX7_share_31 : decode cX7_share 31 = .ok (.istore 5, 2) := by decide +kernel
theorem dX7_share_33 : decode cX7_share 33 = .ok (.iload 5, 2) := by decide +kernel
theorem dX7_share_35 : decode cX7_share 35 = .ok (.aload_n 0, 1) := by decide +kernel
theorem dX7_share_36 : decode cX7_share 36 = .ok (.getfield 73, 3) := by decide +kernel
theorem dX7_share_39 : decode cX7_share 39 = .ok (.if_icmp .ge 36, 3) := by decide +kernel
theorem dX7_share_42 : decode cX7_share 42 = .ok (.iload 4, 2) := by decide +kernel
theorem dX7_share_44 : decode cX7_share 44 = .ok (.iload_n 3, 1) := by decide +kernel
theorem dX7_share_45 : decode cX7_share 45 = .ok (.iload 5, 2) := by decide +kernel
theorem dX7_share_47 : decode cX7_share 47 = .ok (.invokestatic 131, 3) := by decide +kernel
theorem dX7_share_50 : decode cX7_share 50 = .ok (.ifCond .eq 15, 3) := by decide +kernel
theorem dX7_share_53 : decode cX7_share 53 = .ok (.aload_n 0, 1) := by decide +kernel
theorem dX7_share_54 : decode cX7_share 54 = .ok (.getfield 28, 3) := by decide +kernel
theorem dX7_share_57 : decode cX7_share 57 = .ok (.iload 5, 2) := by decide +kernel
theorem dX7_share_59 : decode cX7_share 59 = .ok (.invokestatic 135, 3) := by decide +kernel
theorem dX7_share_62 : decode cX7_share 62 = .ok (.goto 4, 3) := by decide +kernel
theorem dX7_share_65 : decode cX7_share 65 = .ok (.iconst 0, 1) := by decide +kernel
theorem dX7_share_66 : decode cX7_share 66 = .ok (.iadd, 1) := by decide +kernel
theorem dX7_share_67 : decode cX7_share 67 = .ok (.istore 4, 2) := by decide +kernel
theorem dX7_share_69 : decode cX7_share 69 = .ok (.iinc 5 1, 3) := by decide +kernel
theorem dX7_share_72 : decode cX7_share 72 = .ok (.goto (-39), 3) := by decide +kernel
theorem dX7_share_75 : decode cX7_share 75 = .ok (.aload_n 0, 1) := by decide +kernel
theorem dX7_share_76 : decode cX7_share 76 = .ok (.getfield 59, 3) := by decide +kernel
theorem dX7_share_79 : decode cX7_share 79 = .ok (.iload_n 3, 1) := by decide +kernel
theorem dX7_share_80 : decode cX7_share 80 = .ok (.iload 4, 2) := by decide +kernel
theorem dX7_share_82 : decode cX7_share 82 = .ok (.iconst 4, 1) := by decide +kernel
theorem dX7_share_83 : decode cX7_share 83 = .ok (.idiv, 1) := by decide +kernel
theorem dX7_share_84 : decode cX7_share 84 = .ok (.iastore, 1) := by decide +kernel
theorem dX7_share_85 : decode cX7_share 85 = .ok (.iinc 3 1, 3) := by decide +kernel
theorem dX7_share_88 : decode cX7_share 88 = .ok (.goto (-71), 3) := by decide +kernel
theorem dX7_share_91 : decode cX7_share 91 = .ok (.iconst 0, 1) := by decide +kernel
theorem dX7_share_92 : decode cX7_share 92 = .ok (.istore_n 3, 1) := by decide +kernel
theorem dX7_share_93 : decode cX7_share 93 = .ok (.iconst 0, 1) := by decide +kernel
theorem dX7_share_94 : decode cX7_share 94 = .ok (.istore 4, 2) := by decide +kernel
theorem dX7_share_96 : decode cX7_share 96 = .ok (.iload 4, 2) := by decide +kernel
theorem dX7_share_98 : decode cX7_share 98 = .ok (.iconst 1, 1) := by decide +kernel
theorem dX7_share_99 : decode cX7_share 99 = .ok (.aload_n 0, 1) := by decide +kernel
theorem dX7_share_100 : decode cX7_share 100 = .ok (.getfield 73, 3) := by decide +kernel
theorem dX7_share_103 : decode cX7_share 103 = .ok (.ishl, 1) := by decide +kernel
theorem dX7_share_104 : decode cX7_share 104 = .ok (.if_icmp .ge 66, 3) := by decide +kernel
theorem dX7_share_107 : decode cX7_share 107 = .ok (.iload 4, 2) := by decide +kernel
theorem dX7_share_109 : decode cX7_share 109 = .ok (.iload_n 1, 1) := by decide +kernel
theorem dX7_share_110 : decode cX7_share 110 = .ok (.invokestatic 131, 3) := by decide +kernel
theorem dX7_share_113 : decode cX7_share 113 = .ok (.ifCond .ne 51, 3) := by decide +kernel
theorem dX7_share_116 : decode cX7_share 116 = .ok (.iload 4, 2) := by decide +kernel
theorem dX7_share_118 : decode cX7_share 118 = .ok (.invokestatic 222, 3) := by decide +kernel
theorem dX7_share_121 : decode cX7_share 121 = .ok (.istore 5, 2) := by decide +kernel
theorem dX7_share_123 : decode cX7_share 123 = .ok (.iload_n 3, 1) := by decide +kernel
theorem dX7_share_124 : decode cX7_share 124 = .ok (.iload 5, 2) := by decide +kernel
theorem dX7_share_126 : decode cX7_share 126 = .ok (.invokestatic 253, 3) := by decide +kernel
theorem dX7_share_129 : decode cX7_share 129 = .ok (.aload_n 0, 1) := by decide +kernel
theorem dX7_share_130 : decode cX7_share 130 = .ok (.getfield 73, 3) := by decide +kernel
theorem dX7_share_133 : decode cX7_share 133 = .ok (.iconst 1, 1) := by decide +kernel
theorem dX7_share_134 : decode cX7_share 134 = .ok (.isub, 1) := by decide +kernel
theorem dX7_share_135 : decode cX7_share 135 = .ok (.iload 5, 2) := by decide +kernel
theorem dX7_share_137 : decode cX7_share 137 = .ok (.isub, 1) := by decide +kernel
theorem dX7_share_138 : decode cX7_share 138 = .ok (.invokestatic 253, 3) := by decide +kernel
theorem dX7_share_141 : decode cX7_share 141 = .ok (.imul, 1) := by decide +kernel
theorem dX7_share_142 : decode cX7_share 142 = .ok (.aload_n 0, 1) := by decide +kernel
theorem dX7_share_143 : decode cX7_share 143 = .ok (.getfield 59, 3) := by decide +kernel
theorem dX7_share_146 : decode cX7_share 146 = .ok (.iload 4, 2) := by decide +kernel
theorem dX7_share_148 : decode cX7_share 148 = .ok (.iconst 1, 1) := by decide +kernel
theorem dX7_share_149 : decode cX7_share 149 = .ok (.iload_n 1, 1) := by decide +kernel
theorem dX7_share_150 : decode cX7_share 150 = .ok (.ishl, 1) := by decide +kernel
theorem dX7_share_151 : decode cX7_share 151 = .ok (.ior, 1) := by decide +kernel
theorem dX7_share_152 : decode cX7_share 152 = .ok (.iaload, 1) := by decide +kernel
theorem dX7_share_153 : decode cX7_share 153 = .ok (.aload_n 0, 1) := by decide +kernel
theorem dX7_share_154 : decode cX7_share 154 = .ok (.getfield 59, 3) := by decide +kernel
theorem dX7_share_157 : decode cX7_share 157 = .ok (.iload 4, 2) := by decide +kernel
theorem dX7_share_159 : decode cX7_share 159 = .ok (.iaload, 1) := by decide +kernel
theorem dX7_share_160 : decode cX7_share 160 = .ok (.isub, 1) := by decide +kernel
theorem dX7_share_161 : decode cX7_share 161 = .ok (.imul, 1) := by decide +kernel
theorem dX7_share_162 : decode cX7_share 162 = .ok (.iadd, 1) := by decide +kernel
theorem dX7_share_163 : decode cX7_share 163 = .ok (.istore_n 3, 1) := by decide +kernel
theorem dX7_share_164 : decode cX7_share 164 = .ok (.iinc 4 1, 3) := by decide +kernel
theorem dX7_share_167 : decode cX7_share 167 = .ok (.goto (-71), 3) := by decide +kernel
theorem dX7_share_170 : decode cX7_share 170 = .ok (.iload_n 3, 1) := by decide +kernel
theorem dX7_share_171 : decode cX7_share 171 = .ok (.aload_n 0, 1) := by decide +kernel
theorem dX7_share_172 : decode cX7_share 172 = .ok (.getfield 73, 3) := by decide +kernel
theorem dX7_share_175 : decode cX7_share 175 = .ok (.invokestatic 253, 3) := by decide +kernel
theorem dX7_share_178 : decode cX7_share 178 = .ok (.iload_n 2, 1) := by decide +kernel
theorem dX7_share_179 : decode cX7_share 179 = .ok (.invokestatic 256, 3) := by decide +kernel
theorem dX7_share_182 : decode cX7_share 182 = .ok (.ireturn, 1) := by decide +kernel
set_option maxRecDepth 20000 in
theorem ggX7_feel_X7_noMan : GoodIn wsX7_feel wsX7_noMan := goodIn_r _ [12, 13, 14, 15, 11, 16, 22, 23, 24, 25, 26, 27, 28, 29, 30, 31, 32, 33, 34, 35, 36, 37, 38, 39, 40, 41, 42, 43, 44, 45, 46, 47, 48, 49, 50, 51, 52, 53, 54] (by decide +kernel) (by decide +kernel)
set_option maxRecDepth 20000 in
theorem gX7_feel_X7_noMan : GoodIn wsX7_feel (wsV RX7 170 RX7 yX7_noMan wsX7_noMan) := goodIn_app (goodIn_of _ (by decide +kernel)) ggX7_feel_X7_noMan
set_option maxRecDepth 20000 in
theorem ggX7_feel_X7_noBag : GoodIn wsX7_feel wsX7_noBag := goodIn_r _ [20, 21, 14, 15, 11, 16, 22, 23, 24, 25, 26, 27, 28, 29, 30, 31, 32, 33, 34, 35, 36, 37, 38, 39, 40, 41, 42, 43, 44, 45, 46, 47, 48, 49, 50, 51, 52, 53, 54] (by decide +kernel) (by decide +kernel)
set_option maxRecDepth 20000 in
theorem gX7_feel_X7_noBag : GoodIn wsX7_feel (wsV RX7 163 RX7 yX7_noBag wsX7_noBag) := goodIn_app (goodIn_of _ (by decide +kernel)) ggX7_feel_X7_noBag
set_option maxRecDepth 20000 in
theorem ggX7_feel_X7_in : GoodIn wsX7_feel wsX7_in := goodIn_r _ [16] (by decide +kernel) (by decide +kernel)
set_option maxRecDepth 20000 in
theorem gX7_feel_X7_in : GoodIn wsX7_feel (va_wsS RX7 69 yX7_in wsX7_in) := goodIn_app (goodIn_of _ (by decide +kernel)) ggX7_feel_X7_in
theorem dX7_feel_0 : decode cX7_feel 0 = .ok (.aload_n 0, 1) := by decide +kernel
theorem dX7_feel_1 : decode cX7_feel 1 = .ok (.iconst 0, 1) := by decide +kernel
theorem dX7_feel_2 : decode cX7_feel 2 = .ok (.putfield 62, 3) := by decide +kernel
theorem dX7_feel_5 : decode cX7_feel 5 = .ok (.aload_n 0, 1) := by decide +kernel
theorem dX7_feel_6 : decode cX7_feel 6 = .ok (.iload_n 1, 1) := by decide +kernel
theorem dX7_feel_7 : decode cX7_feel 7 = .ok (.invokevirtual 170, 3) := by decide +kernel
theorem dX7_feel_10 : decode cX7_feel 10 = .ok (.ifCond .ne 11, 3) := by decide +kernel
theorem dX7_feel_13 : decode cX7_feel 13 = .ok (.aload_n 0, 1) := by decide +kernel
theorem dX7_feel_14 : decode cX7_feel 14 = .ok (.iload_n 2, 1) := by decide +kernel
theorem dX7_feel_15 : decode cX7_feel 15 = .ok (.invokevirtual 163, 3) := by decide +kernel
theorem dX7_feel_18 : decode cX7_feel 18 = .ok (.ifCond .eq 5, 3) := by decide +kernel
theorem dX7_feel_21 : decode cX7_feel 21 = .ok (.iconst (-1), 1) := by decide +kernel
theorem dX7_feel_22 : decode cX7_feel 22 = .ok (.ireturn, 1) := by decide +kernel
theorem dX7_feel_23 : decode cX7_feel 23 = .ok (.iload_n 3, 1) := by decide +kernel
theorem dX7_feel_24 : decode cX7_feel 24 = .ok (.i2l, 1) := by decide +kernel
theorem dX7_feel_25 : decode cX7_feel 25 = .ok (.lconst 1, 1) := by decide +kernel
theorem dX7_feel_26 : decode cX7_feel 26 = .ok (.ldc2_w 183, 3) := by decide +kernel
theorem dX7_feel_29 : decode cX7_feel 29 = .ok (.invokestatic 69, 3) := by decide +kernel
theorem dX7_feel_32 : decode cX7_feel 32 = .ok (.ifCond .eq 14, 3) := by decide +kernel
theorem dX7_feel_35 : decode cX7_feel 35 = .ok (.iload 4, 2) := by decide +kernel
theorem dX7_feel_37 : decode cX7_feel 37 = .ok (.i2l, 1) := by decide +kernel
theorem dX7_feel_38 : decode cX7_feel 38 = .ok (.lconst 0, 1) := by decide +kernel
theorem dX7_feel_39 : decode cX7_feel 39 = .ok (.lconst 1, 1) := by decide +kernel
theorem dX7_feel_40 : decode cX7_feel 40 = .ok (.invokestatic 69, 3) := by decide +kernel
theorem dX7_feel_43 : decode cX7_feel 43 = .ok (.ifCond .ne 6, 3) := by decide +kernel
theorem dX7_feel_46 : decode cX7_feel 46 = .ok (.bipush (-2), 2) := by decide +kernel
theorem dX7_feel_48 : decode cX7_feel 48 = .ok (.ireturn, 1) := by decide +kernel
theorem dX7_feel_49 : decode cX7_feel 49 = .ok (.aload_n 0, 1) := by decide +kernel
theorem dX7_feel_50 : decode cX7_feel 50 = .ok (.getfield 160, 3) := by decide +kernel
theorem dX7_feel_53 : decode cX7_feel 53 = .ok (.bipush 6, 2) := by decide +kernel
theorem dX7_feel_55 : decode cX7_feel 55 = .ok (.if_icmp .ne 6, 3) := by decide +kernel
theorem dX7_feel_58 : decode cX7_feel 58 = .ok (.bipush (-4), 2) := by decide +kernel
theorem dX7_feel_60 : decode cX7_feel 60 = .ok (.ireturn, 1) := by decide +kernel
theorem dX7_feel_61 : decode cX7_feel 61 = .ok (.aload_n 0, 1) := by decide +kernel
theorem dX7_feel_62 : decode cX7_feel 62 = .ok (.getfield 44, 3) := by decide +kernel
theorem dX7_feel_65 : decode cX7_feel 65 = .ok (.aload_n 0, 1) := by decide +kernel
theorem dX7_feel_66 : decode cX7_feel 66 = .ok (.getfield 160, 3) := by decide +kernel
theorem dX7_feel_69 : decode cX7_feel 69 = .ok (.iload_n 1, 1) := by decide +kernel
theorem dX7_feel_70 : decode cX7_feel 70 = .ok (.iastore, 1) := by decide +kernel
theorem dX7_feel_71 : decode cX7_feel 71 = .ok (.aload_n 0, 1) := by decide +kernel
theorem dX7_feel_72 : decode cX7_feel 72 = .ok (.getfield 47, 3) := by decide +kernel
theorem dX7_feel_75 : decode cX7_feel 75 = .ok (.aload_n 0, 1) := by decide +kernel
theorem dX7_feel_76 : decode cX7_feel 76 = .ok (.getfield 160, 3) := by decide +kernel
theorem dX7_feel_79 : decode cX7_feel 79 = .ok (.iload_n 2, 1) := by decide +kernel
theorem dX7_feel_80 : decode cX7_feel 80 = .ok (.iastore, 1) := by decide +kernel
theorem dX7_feel_81 : decode cX7_feel 81 = .ok (.aload_n 0, 1) := by decide +kernel
theorem dX7_feel_82 : decode cX7_feel 82 = .ok (.getfield 50, 3) := by decide +kernel
theorem dX7_feel_85 : decode cX7_feel 85 = .ok (.aload_n 0, 1) := by decide +kernel
theorem dX7_feel_86 : decode cX7_feel 86 = .ok (.getfield 160, 3) := by decide +kernel
theorem dX7_feel_89 : decode cX7_feel 89 = .ok (.iload_n 3, 1) := by decide +kernel
theorem dX7_feel_90 : decode cX7_feel 90 = .ok (.iastore, 1) := by decide +kernel
theorem dX7_feel_91 : decode cX7_feel 91 = .ok (.aload_n 0, 1) := by decide +kernel
theorem dX7_feel_92 : decode cX7_feel 92 = .ok (.getfield 53, 3) := by decide +kernel
theorem dX7_feel_95 : decode cX7_feel 95 = .ok (.aload_n 0, 1) := by decide +kernel
theorem dX7_feel_96 : decode cX7_feel 96 = .ok (.getfield 160, 3) := by decide +kernel
theorem dX7_feel_99 : decode cX7_feel 99 = .ok (.iload 4, 2) := by decide +kernel
theorem dX7_feel_101 : decode cX7_feel 101 = .ok (.iastore, 1) := by decide +kernel
theorem dX7_feel_102 : decode cX7_feel 102 = .ok (.aload_n 0, 1) := by decide +kernel
theorem dX7_feel_103 : decode cX7_feel 103 = .ok (.dup, 1) := by decide +kernel
theorem dX7_feel_104 : decode cX7_feel 104 = .ok (.getfield 160, 3) := by decide +kernel
theorem dX7_feel_107 : decode cX7_feel 107 = .ok (.iconst 1, 1) := by decide +kernel
theorem dX7_feel_108 : decode cX7_feel 108 = .ok (.iadd, 1) := by decide +kernel
theorem dX7_feel_109 : decode cX7_feel 109 = .ok (.putfield 160, 3) := by decide +kernel
theorem dX7_feel_112 : decode cX7_feel 112 = .ok (.aload_n 0, 1) := by decide +kernel
theorem dX7_feel_113 : decode cX7_feel 113 = .ok (.getfield 160, 3) := by decide +kernel
theorem dX7_feel_116 : decode cX7_feel 116 = .ok (.ireturn, 1) := by decide +kernel
theorem dX7_unfeel_0 : decode cX7_unfeel 0 = .ok (.aload_n 0, 1) := by decide +kernel
theorem dX7_unfeel_1 : decode cX7_unfeel 1 = .ok (.iconst 0, 1) := by decide +kernel
theorem dX7_unfeel_2 : decode cX7_unfeel 2 = .ok (.putfield 62, 3) := by decide +kernel
theorem dX7_unfeel_5 : decode cX7_unfeel 5 = .ok (.aload_n 0, 1) := by decide +kernel
theorem dX7_unfeel_6 : decode cX7_unfeel 6 = .ok (.getfield 160, 3) := by decide +kernel
theorem dX7_unfeel_9 : decode cX7_unfeel 9 = .ok (.istore_n 1, 1) := by decide +kernel
theorem dX7_unfeel_10 : decode cX7_unfeel 10 = .ok (.aload_n 0, 1) := by decide +kernel
theorem dX7_unfeel_11 : decode cX7_unfeel 11 = .ok (.iconst 0, 1) := by decide +kernel
theorem dX7_unfeel_12 : decode cX7_unfeel 12 = .ok (.putfield 160, 3) := by decide +kernel
theorem dX7_unfeel_15 : decode cX7_unfeel 15 = .ok (.iload_n 1, 1) := by decide +kernel
theorem dX7_unfeel_16 : decode cX7_unfeel 16 = .ok (.ireturn, 1) := by decide +kernel
set_option maxRecDepth 20000 in
theorem ggX7_isPlayed_X7_placeOf : GoodIn wsX7_isPlayed wsX7_placeOf := goodIn_r _ [5] (by decide +kernel) (by decide +kernel)
set_option maxRecDepth 20000 in
theorem gX7_isPlayed_X7_placeOf : GoodIn wsX7_isPlayed (va_wsS RX7 139 yX7_placeOf wsX7_placeOf) := goodIn_app (goodIn_of _ (by decide +kernel)) ggX7_isPlayed_X7_placeOf
set_option maxRecDepth 20000 in
theorem ggX7_isPlayed_X7_breath : GoodIn wsX7_isPlayed wsX7_breath := goodIn_r _ [8] (by decide +kernel) (by decide +kernel)
set_option maxRecDepth 20000 in
theorem gX7_isPlayed_X7_breath : GoodIn wsX7_isPlayed (va_wsS RX7 121 yX7_breath wsX7_breath) := goodIn_app (goodIn_of _ (by decide +kernel)) ggX7_isPlayed_X7_breath
theorem dX7_isPlayed_0 : decode cX7_isPlayed 0 = .ok (.iload 4, 2) := by decide +kernel
theorem dX7_isPlayed_2 : decode cX7_isPlayed 2 = .ok (.iconst 2, 1) := by decide +kernel
theorem dX7_isPlayed_3 : decode cX7_isPlayed 3 = .ok (.if_icmp .ne 8, 3) := by decide +kernel
theorem dX7_isPlayed_6 : decode cX7_isPlayed 6 = .ok (.iload 5, 2) := by decide +kernel
theorem dX7_isPlayed_8 : decode cX7_isPlayed 8 = .ok (.goto 4, 3) := by decide +kernel
theorem dX7_isPlayed_11 : decode cX7_isPlayed 11 = .ok (.iconst 0, 1) := by decide +kernel
theorem dX7_isPlayed_12 : decode cX7_isPlayed 12 = .ok (.istore 6, 2) := by decide +kernel
theorem dX7_isPlayed_14 : decode cX7_isPlayed 14 = .ok (.aload_n 0, 1) := by decide +kernel
theorem dX7_isPlayed_15 : decode cX7_isPlayed 15 = .ok (.getfield 28, 3) := by decide +kernel
theorem dX7_isPlayed_18 : decode cX7_isPlayed 18 = .ok (.iload_n 2, 1) := by decide +kernel
theorem dX7_isPlayed_19 : decode cX7_isPlayed 19 = .ok (.iaload, 1) := by decide +kernel
theorem dX7_isPlayed_20 : decode cX7_isPlayed 20 = .ok (.iload 6, 2) := by decide +kernel
theorem dX7_isPlayed_22 : decode cX7_isPlayed 22 = .ok (.isub, 1) := by decide +kernel
theorem dX7_isPlayed_23 : decode cX7_isPlayed 23 = .ok (.istore 7, 2) := by decide +kernel
theorem dX7_isPlayed_25 : decode cX7_isPlayed 25 = .ok (.iconst 0, 1) := by decide +kernel
theorem dX7_isPlayed_26 : decode cX7_isPlayed 26 = .ok (.istore 8, 2) := by decide +kernel
theorem dX7_isPlayed_28 : decode cX7_isPlayed 28 = .ok (.iconst 0, 1) := by decide +kernel
theorem dX7_isPlayed_29 : decode cX7_isPlayed 29 = .ok (.istore 9, 2) := by decide +kernel
theorem dX7_isPlayed_31 : decode cX7_isPlayed 31 = .ok (.iload 9, 2) := by decide +kernel
theorem dX7_isPlayed_33 : decode cX7_isPlayed 33 = .ok (.iload_n 3, 1) := by decide +kernel
theorem dX7_isPlayed_34 : decode cX7_isPlayed 34 = .ok (.if_icmp .ge 52, 3) := by decide +kernel
theorem dX7_isPlayed_37 : decode cX7_isPlayed 37 = .ok (.iload 9, 2) := by decide +kernel
theorem dX7_isPlayed_39 : decode cX7_isPlayed 39 = .ok (.iload 7, 2) := by decide +kernel
theorem dX7_isPlayed_41 : decode cX7_isPlayed 41 = .ok (.if_icmp .ge 45, 3) := by decide +kernel
theorem dX7_isPlayed_44 : decode cX7_isPlayed 44 = .ok (.iload 8, 2) := by decide +kernel
theorem dX7_isPlayed_46 : decode cX7_isPlayed 46 = .ok (.ifCond .ne 27, 3) := by decide +kernel
theorem dX7_isPlayed_49 : decode cX7_isPlayed 49 = .ok (.aload_n 0, 1) := by decide +kernel
theorem dX7_isPlayed_50 : decode cX7_isPlayed 50 = .ok (.getfield 28, 3) := by decide +kernel
theorem dX7_isPlayed_53 : decode cX7_isPlayed 53 = .ok (.iload_n 2, 1) := by decide +kernel
theorem dX7_isPlayed_54 : decode cX7_isPlayed 54 = .ok (.iload 6, 2) := by decide +kernel
theorem dX7_isPlayed_56 : decode cX7_isPlayed 56 = .ok (.iload 7, 2) := by decide +kernel
theorem dX7_isPlayed_58 : decode cX7_isPlayed 58 = .ok (.iload 4, 2) := by decide +kernel
theorem dX7_isPlayed_60 : decode cX7_isPlayed 60 = .ok (.iload 9, 2) := by decide +kernel
theorem dX7_isPlayed_62 : decode cX7_isPlayed 62 = .ok (.invokestatic 139, 3) := by decide +kernel
theorem dX7_isPlayed_65 : decode cX7_isPlayed 65 = .ok (.iadd, 1) := by decide +kernel
theorem dX7_isPlayed_66 : decode cX7_isPlayed 66 = .ok (.invokestatic 121, 3) := by decide +kernel
theorem dX7_isPlayed_69 : decode cX7_isPlayed 69 = .ok (.iload_n 1, 1) := by decide +kernel
theorem dX7_isPlayed_70 : decode cX7_isPlayed 70 = .ok (.if_icmp .ne 7, 3) := by decide +kernel
theorem dX7_isPlayed_73 : decode cX7_isPlayed 73 = .ok (.iconst 1, 1) := by decide +kernel
theorem dX7_isPlayed_74 : decode cX7_isPlayed 74 = .ok (.goto 4, 3) := by decide +kernel
theorem dX7_isPlayed_77 : decode cX7_isPlayed 77 = .ok (.iconst 0, 1) := by decide +kernel
theorem dX7_isPlayed_78 : decode cX7_isPlayed 78 = .ok (.istore 8, 2) := by decide +kernel
theorem dX7_isPlayed_80 : decode cX7_isPlayed 80 = .ok (.iinc 9 1, 3) := by decide +kernel
theorem dX7_isPlayed_83 : decode cX7_isPlayed 83 = .ok (.goto (-52), 3) := by decide +kernel
theorem dX7_isPlayed_86 : decode cX7_isPlayed 86 = .ok (.iload 8, 2) := by decide +kernel
theorem dX7_isPlayed_88 : decode cX7_isPlayed 88 = .ok (.ireturn, 1) := by decide +kernel
set_option maxRecDepth 20000 in
theorem ggX7_which_X7_in : GoodIn wsX7_which wsX7_in := goodIn_r _ [12] (by decide +kernel) (by decide +kernel)
set_option maxRecDepth 20000 in
theorem gX7_which_X7_in : GoodIn wsX7_which (va_wsS RX7 69 yX7_in wsX7_in) := goodIn_app (goodIn_of _ (by decide +kernel)) ggX7_which_X7_in
set_option maxRecDepth 20000 in
theorem ggX7_which_X7_noMan : GoodIn wsX7_which wsX7_noMan := goodIn_r _ [16, 17, 9, 10, 11, 12, 34, 35, 36, 37, 38, 39, 40, 41, 42, 43, 44, 45, 46, 47, 48, 49, 50, 51, 52, 53, 54, 55, 56, 57, 58, 59, 60, 61, 62, 63, 64, 65, 66] (by decide +kernel) (by decide +kernel)
set_option maxRecDepth 20000 in
theorem gX7_which_X7_noMan : GoodIn wsX7_which (wsV RX7 170 RX7 yX7_noMan wsX7_noMan) := goodIn_app (goodIn_of _ (by decide +kernel)) ggX7_which_X7_noMan
set_option maxRecDepth 20000 in
theorem ggX7_which_X7_noBag : GoodIn wsX7_which wsX7_noBag := goodIn_r _ [21, 22, 9, 10, 11, 12, 34, 35, 36, 37, 38, 39, 40, 41, 42, 43, 44, 45, 46, 47, 48, 49, 50, 51, 52, 53, 54, 55, 56, 57, 58, 59, 60, 61, 62, 63, 64, 65, 66] (by decide +kernel) (by decide +kernel)
set_option maxRecDepth 20000 in
theorem gX7_which_X7_noBag : GoodIn wsX7_which (wsV RX7 163 RX7 yX7_noBag wsX7_noBag) := goodIn_app (goodIn_of _ (by decide +kernel)) ggX7_which_X7_noBag
set_option maxRecDepth 20000 in
theorem ggX7_which_X7_isPlayed : GoodIn wsX7_which wsX7_isPlayed := goodIn_r _ [26, 27, 28, 29, 11, 30, 31, 32, 33, 34, 35, 36, 37, 38, 39, 40, 41, 42, 43, 44, 45, 46, 47, 48, 49, 50, 51, 52, 53, 54, 55, 56, 57, 58, 59, 60, 61, 62, 63, 64, 65, 66] (by decide +kernel) (by decide +kernel)
set_option maxRecDepth 20000 in
theorem gX7_which_X7_isPlayed : GoodIn wsX7_which (wsV RX7 266 RX7 yX7_isPlayed wsX7_isPlayed) := goodIn_app (goodIn_of _ (by decide +kernel)) ggX7_which_X7_isPlayed
theorem dX7_which_0 : decode cX7_which 0 = .ok (.aload_n 0, 1) := by decide +kernel
theorem dX7_which_1 : decode cX7_which 1 = .ok (.iconst 0, 1) := by decide +kernel
theorem dX7_which_2 : decode cX7_which 2 = .ok (.putfield 62, 3) := by decide +kernel
theorem dX7_which_5 : decode cX7_which 5 = .ok (.iload_n 1, 1) := by decide +kernel
theorem dX7_which_6 : decode cX7_which 6 = .ok (.i2l, 1) := by decide +kernel
theorem dX7_which_7 : decode cX7_which 7 = .ok (.lconst 0, 1) := by decide +kernel
theorem dX7_which_8 : decode cX7_which 8 = .ok (.lconst 1, 1) := by decide +kernel
theorem dX7_which_9 : decode cX7_which 9 = .ok (.invokestatic 69, 3) := by decide +kernel
theorem dX7_which_12 : decode cX7_which 12 = .ok (.ifCond .ne 6, 3) := by decide +kernel
theorem dX7_which_15 : decode cX7_which 15 = .ok (.bipush (-2), 2) := by decide +kernel
theorem dX7_which_17 : decode cX7_which 17 = .ok (.ireturn, 1) := by decide +kernel
theorem dX7_which_18 : decode cX7_which 18 = .ok (.aload_n 0, 1) := by decide +kernel
theorem dX7_which_19 : decode cX7_which 19 = .ok (.iconst 0, 1) := by decide +kernel
theorem dX7_which_20 : decode cX7_which 20 = .ok (.putfield 260, 3) := by decide +kernel
theorem dX7_which_23 : decode cX7_which 23 = .ok (.aload_n 0, 1) := by decide +kernel
theorem dX7_which_24 : decode cX7_which 24 = .ok (.bipush (-9), 2) := by decide +kernel
theorem dX7_which_26 : decode cX7_which 26 = .ok (.putfield 263, 3) := by decide +kernel
theorem dX7_which_29 : decode cX7_which 29 = .ok (.iconst 0, 1) := by decide +kernel
theorem dX7_which_30 : decode cX7_which 30 = .ok (.istore_n 2, 1) := by decide +kernel
theorem dX7_which_31 : decode cX7_which 31 = .ok (.iload_n 2, 1) := by decide +kernel
theorem dX7_which_32 : decode cX7_which 32 = .ok (.bipush 40, 2) := by decide +kernel
theorem dX7_which_34 : decode cX7_which 34 = .ok (.if_icmp .ge 172, 3) := by decide +kernel
theorem dX7_which_37 : decode cX7_which 37 = .ok (.iconst 1, 1) := by decide +kernel
theorem dX7_which_38 : decode cX7_which 38 = .ok (.istore_n 3, 1) := by decide +kernel
theorem dX7_which_39 : decode cX7_which 39 = .ok (.iconst 0, 1) := by decide +kernel
theorem dX7_which_40 : decode cX7_which 40 = .ok (.istore 4, 2) := by decide +kernel
theorem dX7_which_42 : decode cX7_which 42 = .ok (.iload 4, 2) := by decide +kernel
theorem dX7_which_44 : decode cX7_which 44 = .ok (.aload_n 0, 1) := by decide +kernel
theorem dX7_which_45 : decode cX7_which 45 = .ok (.getfield 160, 3) := by decide +kernel
theorem dX7_which_48 : decode cX7_which 48 = .ok (.if_icmp .ge 111, 3) := by decide +kernel
theorem dX7_which_51 : decode cX7_which 51 = .ok (.aload_n 0, 1) := by decide +kernel
theorem dX7_which_52 : decode cX7_which 52 = .ok (.aload_n 0, 1) := by decide +kernel
theorem dX7_which_53 : decode cX7_which 53 = .ok (.getfield 44, 3) := by decide +kernel
theorem dX7_which_56 : decode cX7_which 56 = .ok (.iload 4, 2) := by decide +kernel
theorem dX7_which_58 : decode cX7_which 58 = .ok (.iaload, 1) := by decide +kernel
theorem dX7_which_59 : decode cX7_which 59 = .ok (.invokevirtual 170, 3) := by decide +kernel
theorem dX7_which_62 : decode cX7_which 62 = .ok (.ifCond .ne 21, 3) := by decide +kernel
theorem dX7_which_65 : decode cX7_which 65 = .ok (.aload_n 0, 1) := by decide +kernel
theorem dX7_which_66 : decode cX7_which 66 = .ok (.aload_n 0, 1) := by decide +kernel
theorem dX7_which_67 : decode cX7_which 67 = .ok (.getfield 47, 3) := by decide +kernel
theorem dX7_which_70 : decode cX7_which 70 = .ok (.iload 4, 2) := by decide +kernel
theorem dX7_which_72 : decode cX7_which 72 = .ok (.iaload, 1) := by decide +kernel
theorem dX7_which_73 : decode cX7_which 73 = .ok (.invokevirtual 163, 3) := by decide +kernel
theorem dX7_which_76 : decode cX7_which 76 = .ok (.ifCond .ne 7, 3) := by decide +kernel
theorem dX7_which_79 : decode cX7_which 79 = .ok (.iconst 1, 1) := by decide +kernel
theorem dX7_which_80 : decode cX7_which 80 = .ok (.goto 4, 3) := by decide +kernel
theorem dX7_which_83 : decode cX7_which 83 = .ok (.iconst 0, 1) := by decide +kernel
theorem dX7_which_84 : decode cX7_which 84 = .ok (.istore 5, 2) := by decide +kernel
theorem dX7_which_86 : decode cX7_which 86 = .ok (.iload_n 3, 1) := by decide +kernel
theorem dX7_which_87 : decode cX7_which 87 = .ok (.ifCond .eq 64, 3) := by decide +kernel
theorem dX7_which_90 : decode cX7_which 90 = .ok (.iload 5, 2) := by decide +kernel
theorem dX7_which_92 : decode cX7_which 92 = .ok (.ifCond .eq 55, 3) := by decide +kernel
theorem dX7_which_95 : decode cX7_which 95 = .ok (.aload_n 0, 1) := by decide +kernel
theorem dX7_which_96 : decode cX7_which 96 = .ok (.aload_n 0, 1) := by decide +kernel
theorem dX7_which_97 : decode cX7_which 97 = .ok (.getfield 44, 3) := by decide +kernel
theorem dX7_which_100 : decode cX7_which 100 = .ok (.iload 4, 2) := by decide +kernel
theorem dX7_which_102 : decode cX7_which 102 = .ok (.iaload, 1) := by decide +kernel
theorem dX7_which_103 : decode cX7_which 103 = .ok (.aload_n 0, 1) := by decide +kernel
theorem dX7_which_104 : decode cX7_which 104 = .ok (.getfield 47, 3) := by decide +kernel
theorem dX7_which_107 : decode cX7_which 107 = .ok (.iload 4, 2) := by decide +kernel
theorem dX7_which_109 : decode cX7_which 109 = .ok (.iaload, 1) := by decide +kernel
theorem dX7_which_110 : decode cX7_which 110 = .ok (.aload_n 0, 1) := by decide +kernel
theorem dX7_which_111 : decode cX7_which 111 = .ok (.getfield 50, 3) := by decide +kernel
theorem dX7_which_114 : decode cX7_which 114 = .ok (.iload 4, 2) := by decide +kernel
theorem dX7_which_116 : decode cX7_which 116 = .ok (.iaload, 1) := by decide +kernel
theorem dX7_which_117 : decode cX7_which 117 = .ok (.iload_n 2, 1) := by decide +kernel
theorem dX7_which_118 : decode cX7_which 118 = .ok (.bipush 10, 2) := by decide +kernel
theorem dX7_which_120 : decode cX7_which 120 = .ok (.idiv, 1) := by decide +kernel
theorem dX7_which_121 : decode cX7_which 121 = .ok (.iload_n 2, 1) := by decide +kernel
theorem dX7_which_122 : decode cX7_which 122 = .ok (.bipush 10, 2) := by decide +kernel
theorem dX7_which_124 : decode cX7_which 124 = .ok (.irem, 1) := by decide +kernel
theorem dX7_which_125 : decode cX7_which 125 = .ok (.invokevirtual 266, 3) := by decide +kernel
theorem dX7_which_128 : decode cX7_which 128 = .ok (.aload_n 0, 1) := by decide +kernel
theorem dX7_which_129 : decode cX7_which 129 = .ok (.getfield 53, 3) := by decide +kernel
theorem dX7_which_132 : decode cX7_which 132 = .ok (.iload 4, 2) := by decide +kernel
theorem dX7_which_134 : decode cX7_which 134 = .ok (.iaload, 1) := by decide +kernel
theorem dX7_which_135 : decode cX7_which 135 = .ok (.iconst 1, 1) := by decide +kernel
theorem dX7_which_136 : decode cX7_which 136 = .ok (.if_icmp .ne 7, 3) := by decide +kernel
theorem dX7_which_139 : decode cX7_which 139 = .ok (.iconst 1, 1) := by decide +kernel
theorem dX7_which_140 : decode cX7_which 140 = .ok (.goto 4, 3) := by decide +kernel
theorem dX7_which_143 : decode cX7_which 143 = .ok (.iconst 0, 1) := by decide +kernel
theorem dX7_which_144 : decode cX7_which 144 = .ok (.if_icmp .ne 7, 3) := by decide +kernel
theorem dX7_which_147 : decode cX7_which 147 = .ok (.iconst 1, 1) := by decide +kernel
theorem dX7_which_148 : decode cX7_which 148 = .ok (.goto 4, 3) := by decide +kernel
theorem dX7_which_151 : decode cX7_which 151 = .ok (.iconst 0, 1) := by decide +kernel
theorem dX7_which_152 : decode cX7_which 152 = .ok (.istore_n 3, 1) := by decide +kernel
theorem dX7_which_153 : decode cX7_which 153 = .ok (.iinc 4 1, 3) := by decide +kernel
theorem dX7_which_156 : decode cX7_which 156 = .ok (.goto (-114), 3) := by decide +kernel
theorem dX7_which_159 : decode cX7_which 159 = .ok (.aload_n 0, 1) := by decide +kernel
theorem dX7_which_160 : decode cX7_which 160 = .ok (.iload_n 3, 1) := by decide +kernel
theorem dX7_which_161 : decode cX7_which 161 = .ok (.ifCond .eq 14, 3) := by decide +kernel
theorem dX7_which_164 : decode cX7_which 164 = .ok (.aload_n 0, 1) := by decide +kernel
theorem dX7_which_165 : decode cX7_which 165 = .ok (.getfield 260, 3) := by decide +kernel
theorem dX7_which_168 : decode cX7_which 168 = .ok (.ifCond .ne 7, 3) := by decide +kernel
theorem dX7_which_171 : decode cX7_which 171 = .ok (.iload_n 2, 1) := by decide +kernel
theorem dX7_which_172 : decode cX7_which 172 = .ok (.goto 7, 3) := by decide +kernel
theorem dX7_which_175 : decode cX7_which 175 = .ok (.aload_n 0, 1) := by decide +kernel
theorem dX7_which_176 : decode cX7_which 176 = .ok (.getfield 263, 3) := by decide +kernel
theorem dX7_which_179 : decode cX7_which 179 = .ok (.putfield 263, 3) := by decide +kernel
theorem dX7_which_182 : decode cX7_which 182 = .ok (.aload_n 0, 1) := by decide +kernel
theorem dX7_which_183 : decode cX7_which 183 = .ok (.dup, 1) := by decide +kernel
theorem dX7_which_184 : decode cX7_which 184 = .ok (.getfield 260, 3) := by decide +kernel
theorem dX7_which_187 : decode cX7_which 187 = .ok (.iload_n 3, 1) := by decide +kernel
theorem dX7_which_188 : decode cX7_which 188 = .ok (.ifCond .eq 7, 3) := by decide +kernel
theorem dX7_which_191 : decode cX7_which 191 = .ok (.iconst 1, 1) := by decide +kernel
theorem dX7_which_192 : decode cX7_which 192 = .ok (.goto 4, 3) := by decide +kernel
theorem dX7_which_195 : decode cX7_which 195 = .ok (.iconst 0, 1) := by decide +kernel
theorem dX7_which_196 : decode cX7_which 196 = .ok (.iadd, 1) := by decide +kernel
theorem dX7_which_197 : decode cX7_which 197 = .ok (.putfield 260, 3) := by decide +kernel
theorem dX7_which_200 : decode cX7_which 200 = .ok (.iinc 2 1, 3) := by decide +kernel
theorem dX7_which_203 : decode cX7_which 203 = .ok (.goto (-172), 3) := by decide +kernel
theorem dX7_which_206 : decode cX7_which 206 = .ok (.iload_n 1, 1) := by decide +kernel
theorem dX7_which_207 : decode cX7_which 207 = .ok (.ifCond .ne 10, 3) := by decide +kernel
theorem dX7_which_210 : decode cX7_which 210 = .ok (.aload_n 0, 1) := by decide +kernel
theorem dX7_which_211 : decode cX7_which 211 = .ok (.getfield 260, 3) := by decide +kernel
theorem dX7_which_214 : decode cX7_which 214 = .ok (.goto 7, 3) := by decide +kernel
theorem dX7_which_217 : decode cX7_which 217 = .ok (.aload_n 0, 1) := by decide +kernel
theorem dX7_which_218 : decode cX7_which 218 = .ok (.getfield 263, 3) := by decide +kernel
theorem dX7_which_221 : decode cX7_which 221 = .ok (.ireturn, 1) := by decide +kernel
set_option maxRecDepth 20000 in
theorem ggX7_gain_X7_breathsOf : GoodIn wsX7_gain wsX7_breathsOf := goodIn_r _ [5, 6, 7, 4, 8] (by decide +kernel) (by decide +kernel)
set_option maxRecDepth 20000 in
theorem gX7_gain_X7_breathsOf : GoodIn wsX7_gain (va_wsS RX7 128 yX7_breathsOf wsX7_breathsOf) := goodIn_app (goodIn_of _ (by decide +kernel)) ggX7_gain_X7_breathsOf
theorem dX7_gain_0 : decode cX7_gain 0 = .ok (.iload_n 3, 1) := by decide +kernel
theorem dX7_gain_1 : decode cX7_gain 1 = .ok (.ifCond .eq 7, 3) := by decide +kernel
theorem dX7_gain_4 : decode cX7_gain 4 = .ok (.iconst 2, 1) := by decide +kernel
theorem dX7_gain_5 : decode cX7_gain 5 = .ok (.goto 4, 3) := by decide +kernel
theorem dX7_gain_8 : decode cX7_gain 8 = .ok (.iconst 0, 1) := by decide +kernel
theorem dX7_gain_9 : decode cX7_gain 9 = .ok (.aload_n 0, 1) := by decide +kernel
theorem dX7_gain_10 : decode cX7_gain 10 = .ok (.getfield 31, 3) := by decide +kernel
theorem dX7_gain_13 : decode cX7_gain 13 = .ok (.iload_n 1, 1) := by decide +kernel
theorem dX7_gain_14 : decode cX7_gain 14 = .ok (.iload_n 2, 1) := by decide +kernel
theorem dX7_gain_15 : decode cX7_gain 15 = .ok (.invokestatic 128, 3) := by decide +kernel
theorem dX7_gain_18 : decode cX7_gain 18 = .ok (.iadd, 1) := by decide +kernel
theorem dX7_gain_19 : decode cX7_gain 19 = .ok (.aload_n 0, 1) := by decide +kernel
theorem dX7_gain_20 : decode cX7_gain 20 = .ok (.getfield 31, 3) := by decide +kernel
theorem dX7_gain_23 : decode cX7_gain 23 = .ok (.iload_n 2, 1) := by decide +kernel
theorem dX7_gain_24 : decode cX7_gain 24 = .ok (.iaload, 1) := by decide +kernel
theorem dX7_gain_25 : decode cX7_gain 25 = .ok (.iconst 3, 1) := by decide +kernel
theorem dX7_gain_26 : decode cX7_gain 26 = .ok (.if_icmp .lt 7, 3) := by decide +kernel
theorem dX7_gain_29 : decode cX7_gain 29 = .ok (.iconst 3, 1) := by decide +kernel
theorem dX7_gain_30 : decode cX7_gain 30 = .ok (.goto 4, 3) := by decide +kernel
theorem dX7_gain_33 : decode cX7_gain 33 = .ok (.iconst 0, 1) := by decide +kernel
theorem dX7_gain_34 : decode cX7_gain 34 = .ok (.iadd, 1) := by decide +kernel
theorem dX7_gain_35 : decode cX7_gain 35 = .ok (.ireturn, 1) := by decide +kernel
set_option maxRecDepth 20000 in
theorem ggX7_rests_X7_noMan : GoodIn wsX7_rests wsX7_noMan := goodIn_r _ [10, 11, 12, 13, 9, 14, 53, 54, 55, 56, 57, 58, 59, 60, 61, 62, 63, 64, 65, 66, 67, 68, 69, 70, 71, 72, 73, 74, 75, 76, 77, 78, 79, 80, 81, 82, 83, 84, 85] (by decide +kernel) (by decide +kernel)
set_option maxRecDepth 20000 in
theorem gX7_rests_X7_noMan : GoodIn wsX7_rests (wsV RX7 170 RX7 yX7_noMan wsX7_noMan) := goodIn_app (goodIn_of _ (by decide +kernel)) ggX7_rests_X7_noMan
set_option maxRecDepth 20000 in
theorem ggX7_rests_X7_noBag : GoodIn wsX7_rests wsX7_noBag := goodIn_r _ [18, 19, 12, 13, 9, 14, 53, 54, 55, 56, 57, 58, 59, 60, 61, 62, 63, 64, 65, 66, 67, 68, 69, 70, 71, 72, 73, 74, 75, 76, 77, 78, 79, 80, 81, 82, 83, 84, 85] (by decide +kernel) (by decide +kernel)
set_option maxRecDepth 20000 in
theorem gX7_rests_X7_noBag : GoodIn wsX7_rests (wsV RX7 163 RX7 yX7_noBag wsX7_noBag) := goodIn_app (goodIn_of _ (by decide +kernel)) ggX7_rests_X7_noBag
set_option maxRecDepth 20000 in
theorem ggX7_rests_X7_in : GoodIn wsX7_rests wsX7_in := goodIn_r _ [14] (by decide +kernel) (by decide +kernel)
set_option maxRecDepth 20000 in
theorem gX7_rests_X7_in : GoodIn wsX7_rests (va_wsS RX7 69 yX7_in wsX7_in) := goodIn_app (goodIn_of _ (by decide +kernel)) ggX7_rests_X7_in
set_option maxRecDepth 20000 in
theorem ggX7_rests_X7_begin : GoodIn wsX7_rests wsX7_begin := goodIn_r _ [23, 2, 24, 53, 54, 55, 56, 57, 58, 59, 60, 61, 62, 63, 64, 65, 66, 67, 68, 69, 70, 71, 72, 73, 74, 75, 76, 77, 78, 79, 80, 81, 82, 83, 84, 85] (by decide +kernel) (by decide +kernel)
set_option maxRecDepth 20000 in
theorem gX7_rests_X7_begin : GoodIn wsX7_rests (wsV RX7 198 RX7 yX7_begin wsX7_begin) := goodIn_app (goodIn_of _ (by decide +kernel)) ggX7_rests_X7_begin
set_option maxRecDepth 20000 in
theorem ggX7_rests_X7_goClaim : GoodIn wsX7_rests wsX7_goClaim := goodIn_r _ [28, 29, 30, 31, 9, 32, 33, 34, 35, 36, 37, 38, 39, 40, 41, 42, 43, 44, 45, 53, 54, 55, 56, 57, 58, 59, 60, 61, 62, 63, 64, 65, 66, 67, 68, 69, 70, 71, 72, 73, 74, 75, 76, 77, 78, 79, 80, 81, 82, 83, 84, 85] (by decide +kernel) (by decide +kernel)
set_option maxRecDepth 20000 in
theorem gX7_rests_X7_goClaim : GoodIn wsX7_rests (wsV RX7 191 RX7 yX7_goClaim wsX7_goClaim) := goodIn_app (goodIn_of _ (by decide +kernel)) ggX7_rests_X7_goClaim
set_option maxRecDepth 20000 in
theorem ggX7_rests_X7_gain : GoodIn wsX7_rests wsX7_gain := goodIn_r _ [49, 2, 50, 51, 9, 52, 37, 38, 39, 53, 54, 55, 56, 57, 58, 59, 60, 61, 62, 63, 64, 65, 66, 67, 68, 69, 70, 71, 72, 73, 74, 75, 76, 77, 78, 79, 80, 81, 82, 83, 84, 85] (by decide +kernel) (by decide +kernel)
set_option maxRecDepth 20000 in
theorem gX7_rests_X7_gain : GoodIn wsX7_rests (wsV RX7 270 RX7 yX7_gain wsX7_gain) := goodIn_app (goodIn_of _ (by decide +kernel)) ggX7_rests_X7_gain
theorem dX7_rests_0 : decode cX7_rests 0 = .ok (.aload_n 0, 1) := by decide +kernel
theorem dX7_rests_1 : decode cX7_rests 1 = .ok (.iconst 0, 1) := by decide +kernel
theorem dX7_rests_2 : decode cX7_rests 2 = .ok (.putfield 62, 3) := by decide +kernel
theorem dX7_rests_5 : decode cX7_rests 5 = .ok (.aload_n 0, 1) := by decide +kernel
theorem dX7_rests_6 : decode cX7_rests 6 = .ok (.iload_n 1, 1) := by decide +kernel
theorem dX7_rests_7 : decode cX7_rests 7 = .ok (.invokevirtual 170, 3) := by decide +kernel
theorem dX7_rests_10 : decode cX7_rests 10 = .ok (.ifCond .ne 19, 3) := by decide +kernel
theorem dX7_rests_13 : decode cX7_rests 13 = .ok (.aload_n 0, 1) := by decide +kernel
theorem dX7_rests_14 : decode cX7_rests 14 = .ok (.iload_n 2, 1) := by decide +kernel
theorem dX7_rests_15 : decode cX7_rests 15 = .ok (.invokevirtual 170, 3) := by decide +kernel
theorem dX7_rests_18 : decode cX7_rests 18 = .ok (.ifCond .ne 11, 3) := by decide +kernel
theorem dX7_rests_21 : decode cX7_rests 21 = .ok (.aload_n 0, 1) := by decide +kernel
theorem dX7_rests_22 : decode cX7_rests 22 = .ok (.iload_n 3, 1) := by decide +kernel
theorem dX7_rests_23 : decode cX7_rests 23 = .ok (.invokevirtual 163, 3) := by decide +kernel
theorem dX7_rests_26 : decode cX7_rests 26 = .ok (.ifCond .eq 5, 3) := by decide +kernel
theorem dX7_rests_29 : decode cX7_rests 29 = .ok (.iconst (-1), 1) := by decide +kernel
theorem dX7_rests_30 : decode cX7_rests 30 = .ok (.ireturn, 1) := by decide +kernel
theorem dX7_rests_31 : decode cX7_rests 31 = .ok (.iload_n 1, 1) := by decide +kernel
theorem dX7_rests_32 : decode cX7_rests 32 = .ok (.iload_n 2, 1) := by decide +kernel
theorem dX7_rests_33 : decode cX7_rests 33 = .ok (.if_icmp .eq 14, 3) := by decide +kernel
theorem dX7_rests_36 : decode cX7_rests 36 = .ok (.iload 4, 2) := by decide +kernel
theorem dX7_rests_38 : decode cX7_rests 38 = .ok (.i2l, 1) := by decide +kernel
theorem dX7_rests_39 : decode cX7_rests 39 = .ok (.lconst 0, 1) := by decide +kernel
theorem dX7_rests_40 : decode cX7_rests 40 = .ok (.lconst 1, 1) := by decide +kernel
theorem dX7_rests_41 : decode cX7_rests 41 = .ok (.invokestatic 69, 3) := by decide +kernel
theorem dX7_rests_44 : decode cX7_rests 44 = .ok (.ifCond .ne 6, 3) := by decide +kernel
theorem dX7_rests_47 : decode cX7_rests 47 = .ok (.bipush (-2), 2) := by decide +kernel
theorem dX7_rests_49 : decode cX7_rests 49 = .ok (.ireturn, 1) := by decide +kernel
theorem dX7_rests_50 : decode cX7_rests 50 = .ok (.iconst 0, 1) := by decide +kernel
theorem dX7_rests_51 : decode cX7_rests 51 = .ok (.istore 5, 2) := by decide +kernel
theorem dX7_rests_53 : decode cX7_rests 53 = .ok (.iload 5, 2) := by decide +kernel
theorem dX7_rests_55 : decode cX7_rests 55 = .ok (.iconst 4, 1) := by decide +kernel
theorem dX7_rests_56 : decode cX7_rests 56 = .ok (.if_icmp .ge 103, 3) := by decide +kernel
theorem dX7_rests_59 : decode cX7_rests 59 = .ok (.aload_n 0, 1) := by decide +kernel
theorem dX7_rests_60 : decode cX7_rests 60 = .ok (.invokevirtual 198, 3) := by decide +kernel
theorem dX7_rests_63 : decode cX7_rests 63 = .ok (.iload 5, 2) := by decide +kernel
theorem dX7_rests_65 : decode cX7_rests 65 = .ok (.iconst 1, 1) := by decide +kernel
theorem dX7_rests_66 : decode cX7_rests 66 = .ok (.if_icmp .le 20, 3) := by decide +kernel
theorem dX7_rests_69 : decode cX7_rests 69 = .ok (.aload_n 0, 1) := by decide +kernel
theorem dX7_rests_70 : decode cX7_rests 70 = .ok (.aload_n 0, 1) := by decide +kernel
theorem dX7_rests_71 : decode cX7_rests 71 = .ok (.getfield 31, 3) := by decide +kernel
theorem dX7_rests_74 : decode cX7_rests 74 = .ok (.iload_n 1, 1) := by decide +kernel
theorem dX7_rests_75 : decode cX7_rests 75 = .ok (.iload_n 3, 1) := by decide +kernel
theorem dX7_rests_76 : decode cX7_rests 76 = .ok (.invokevirtual 191, 3) := by decide +kernel
theorem dX7_rests_79 : decode cX7_rests 79 = .ok (.ifCond .eq 7, 3) := by decide +kernel
theorem dX7_rests_82 : decode cX7_rests 82 = .ok (.iconst 1, 1) := by decide +kernel
theorem dX7_rests_83 : decode cX7_rests 83 = .ok (.goto 4, 3) := by decide +kernel
theorem dX7_rests_86 : decode cX7_rests 86 = .ok (.iconst 0, 1) := by decide +kernel
theorem dX7_rests_87 : decode cX7_rests 87 = .ok (.istore 6, 2) := by decide +kernel
theorem dX7_rests_89 : decode cX7_rests 89 = .ok (.iload 5, 2) := by decide +kernel
theorem dX7_rests_91 : decode cX7_rests 91 = .ok (.iconst 2, 1) := by decide +kernel
theorem dX7_rests_92 : decode cX7_rests 92 = .ok (.irem, 1) := by decide +kernel
theorem dX7_rests_93 : decode cX7_rests 93 = .ok (.iconst 1, 1) := by decide +kernel
theorem dX7_rests_94 : decode cX7_rests 94 = .ok (.if_icmp .ne 20, 3) := by decide +kernel
theorem dX7_rests_97 : decode cX7_rests 97 = .ok (.aload_n 0, 1) := by decide +kernel
theorem dX7_rests_98 : decode cX7_rests 98 = .ok (.aload_n 0, 1) := by decide +kernel
theorem dX7_rests_99 : decode cX7_rests 99 = .ok (.getfield 31, 3) := by decide +kernel
theorem dX7_rests_102 : decode cX7_rests 102 = .ok (.iload_n 2, 1) := by decide +kernel
theorem dX7_rests_103 : decode cX7_rests 103 = .ok (.iload_n 3, 1) := by decide +kernel
theorem dX7_rests_104 : decode cX7_rests 104 = .ok (.invokevirtual 191, 3) := by decide +kernel
theorem dX7_rests_107 : decode cX7_rests 107 = .ok (.ifCond .eq 7, 3) := by decide +kernel
theorem dX7_rests_110 : decode cX7_rests 110 = .ok (.iconst 1, 1) := by decide +kernel
theorem dX7_rests_111 : decode cX7_rests 111 = .ok (.goto 4, 3) := by decide +kernel
theorem dX7_rests_114 : decode cX7_rests 114 = .ok (.iconst 0, 1) := by decide +kernel
theorem dX7_rests_115 : decode cX7_rests 115 = .ok (.istore 7, 2) := by decide +kernel
theorem dX7_rests_117 : decode cX7_rests 117 = .ok (.aload_n 0, 1) := by decide +kernel
theorem dX7_rests_118 : decode cX7_rests 118 = .ok (.getfield 56, 3) := by decide +kernel
theorem dX7_rests_121 : decode cX7_rests 121 = .ok (.iconst 2, 1) := by decide +kernel
theorem dX7_rests_122 : decode cX7_rests 122 = .ok (.iload 5, 2) := by decide +kernel
theorem dX7_rests_124 : decode cX7_rests 124 = .ok (.imul, 1) := by decide +kernel
theorem dX7_rests_125 : decode cX7_rests 125 = .ok (.aload_n 0, 1) := by decide +kernel
theorem dX7_rests_126 : decode cX7_rests 126 = .ok (.iload_n 1, 1) := by decide +kernel
theorem dX7_rests_127 : decode cX7_rests 127 = .ok (.iload_n 3, 1) := by decide +kernel
theorem dX7_rests_128 : decode cX7_rests 128 = .ok (.iload 6, 2) := by decide +kernel
theorem dX7_rests_130 : decode cX7_rests 130 = .ok (.invokevirtual 270, 3) := by decide +kernel
theorem dX7_rests_133 : decode cX7_rests 133 = .ok (.iastore, 1) := by decide +kernel
theorem dX7_rests_134 : decode cX7_rests 134 = .ok (.aload_n 0, 1) := by decide +kernel
theorem dX7_rests_135 : decode cX7_rests 135 = .ok (.getfield 56, 3) := by decide +kernel
theorem dX7_rests_138 : decode cX7_rests 138 = .ok (.iconst 2, 1) := by decide +kernel
theorem dX7_rests_139 : decode cX7_rests 139 = .ok (.iload 5, 2) := by decide +kernel
theorem dX7_rests_141 : decode cX7_rests 141 = .ok (.imul, 1) := by decide +kernel
theorem dX7_rests_142 : decode cX7_rests 142 = .ok (.iconst 1, 1) := by decide +kernel
theorem dX7_rests_143 : decode cX7_rests 143 = .ok (.iadd, 1) := by decide +kernel
theorem dX7_rests_144 : decode cX7_rests 144 = .ok (.aload_n 0, 1) := by decide +kernel
theorem dX7_rests_145 : decode cX7_rests 145 = .ok (.iload_n 2, 1) := by decide +kernel
theorem dX7_rests_146 : decode cX7_rests 146 = .ok (.iload_n 3, 1) := by decide +kernel
theorem dX7_rests_147 : decode cX7_rests 147 = .ok (.iload 7, 2) := by decide +kernel
theorem dX7_rests_149 : decode cX7_rests 149 = .ok (.invokevirtual 270, 3) := by decide +kernel
theorem dX7_rests_152 : decode cX7_rests 152 = .ok (.iastore, 1) := by decide +kernel
theorem dX7_rests_153 : decode cX7_rests 153 = .ok (.iinc 5 1, 3) := by decide +kernel
theorem dX7_rests_156 : decode cX7_rests 156 = .ok (.goto (-103), 3) := by decide +kernel
theorem dX7_rests_159 : decode cX7_rests 159 = .ok (.aload_n 0, 1) := by decide +kernel
theorem dX7_rests_160 : decode cX7_rests 160 = .ok (.iconst 0, 1) := by decide +kernel
theorem dX7_rests_161 : decode cX7_rests 161 = .ok (.putfield 273, 3) := by decide +kernel
theorem dX7_rests_164 : decode cX7_rests 164 = .ok (.aload_n 0, 1) := by decide +kernel
theorem dX7_rests_165 : decode cX7_rests 165 = .ok (.bipush (-9), 2) := by decide +kernel
theorem dX7_rests_167 : decode cX7_rests 167 = .ok (.putfield 276, 3) := by decide +kernel
theorem dX7_rests_170 : decode cX7_rests 170 = .ok (.iconst 0, 1) := by decide +kernel
theorem dX7_rests_171 : decode cX7_rests 171 = .ok (.istore 5, 2) := by decide +kernel
theorem dX7_rests_173 : decode cX7_rests 173 = .ok (.iload 5, 2) := by decide +kernel
theorem dX7_rests_175 : decode cX7_rests 175 = .ok (.iconst 4, 1) := by decide +kernel
theorem dX7_rests_176 : decode cX7_rests 176 = .ok (.if_icmp .ge 120, 3) := by decide +kernel
theorem dX7_rests_179 : decode cX7_rests 179 = .ok (.aload_n 0, 1) := by decide +kernel
theorem dX7_rests_180 : decode cX7_rests 180 = .ok (.getfield 56, 3) := by decide +kernel
theorem dX7_rests_183 : decode cX7_rests 183 = .ok (.iconst 2, 1) := by decide +kernel
theorem dX7_rests_184 : decode cX7_rests 184 = .ok (.iload 5, 2) := by decide +kernel
theorem dX7_rests_186 : decode cX7_rests 186 = .ok (.iconst 2, 1) := by decide +kernel
theorem dX7_rests_187 : decode cX7_rests 187 = .ok (.ixor, 1) := by decide +kernel
theorem dX7_rests_188 : decode cX7_rests 188 = .ok (.imul, 1) := by decide +kernel
theorem dX7_rests_189 : decode cX7_rests 189 = .ok (.iaload, 1) := by decide +kernel
theorem dX7_rests_190 : decode cX7_rests 190 = .ok (.aload_n 0, 1) := by decide +kernel
theorem dX7_rests_191 : decode cX7_rests 191 = .ok (.getfield 56, 3) := by decide +kernel
theorem dX7_rests_194 : decode cX7_rests 194 = .ok (.iconst 2, 1) := by decide +kernel
theorem dX7_rests_195 : decode cX7_rests 195 = .ok (.iload 5, 2) := by decide +kernel
theorem dX7_rests_197 : decode cX7_rests 197 = .ok (.imul, 1) := by decide +kernel
theorem dX7_rests_198 : decode cX7_rests 198 = .ok (.iaload, 1) := by decide +kernel
theorem dX7_rests_199 : decode cX7_rests 199 = .ok (.if_icmp .gt 34, 3) := by decide +kernel
theorem dX7_rests_202 : decode cX7_rests 202 = .ok (.aload_n 0, 1) := by decide +kernel
theorem dX7_rests_203 : decode cX7_rests 203 = .ok (.getfield 56, 3) := by decide +kernel
theorem dX7_rests_206 : decode cX7_rests 206 = .ok (.iconst 2, 1) := by decide +kernel
theorem dX7_rests_207 : decode cX7_rests 207 = .ok (.iload 5, 2) := by decide +kernel
theorem dX7_rests_209 : decode cX7_rests 209 = .ok (.iconst 1, 1) := by decide +kernel
theorem dX7_rests_210 : decode cX7_rests 210 = .ok (.ixor, 1) := by decide +kernel
theorem dX7_rests_211 : decode cX7_rests 211 = .ok (.imul, 1) := by decide +kernel
theorem dX7_rests_212 : decode cX7_rests 212 = .ok (.iconst 1, 1) := by decide +kernel
theorem dX7_rests_213 : decode cX7_rests 213 = .ok (.iadd, 1) := by decide +kernel
theorem dX7_rests_214 : decode cX7_rests 214 = .ok (.iaload, 1) := by decide +kernel
theorem dX7_rests_215 : decode cX7_rests 215 = .ok (.aload_n 0, 1) := by decide +kernel
theorem dX7_rests_216 : decode cX7_rests 216 = .ok (.getfield 56, 3) := by decide +kernel
theorem dX7_rests_219 : decode cX7_rests 219 = .ok (.iconst 2, 1) := by decide +kernel
theorem dX7_rests_220 : decode cX7_rests 220 = .ok (.iload 5, 2) := by decide +kernel
theorem dX7_rests_222 : decode cX7_rests 222 = .ok (.imul, 1) := by decide +kernel
theorem dX7_rests_223 : decode cX7_rests 223 = .ok (.iconst 1, 1) := by decide +kernel
theorem dX7_rests_224 : decode cX7_rests 224 = .ok (.iadd, 1) := by decide +kernel
theorem dX7_rests_225 : decode cX7_rests 225 = .ok (.iaload, 1) := by decide +kernel
theorem dX7_rests_226 : decode cX7_rests 226 = .ok (.if_icmp .gt 7, 3) := by decide +kernel
theorem dX7_rests_229 : decode cX7_rests 229 = .ok (.iconst 1, 1) := by decide +kernel
theorem dX7_rests_230 : decode cX7_rests 230 = .ok (.goto 4, 3) := by decide +kernel
theorem dX7_rests_233 : decode cX7_rests 233 = .ok (.iconst 0, 1) := by decide +kernel
theorem dX7_rests_234 : decode cX7_rests 234 = .ok (.istore 6, 2) := by decide +kernel
theorem dX7_rests_236 : decode cX7_rests 236 = .ok (.aload_n 0, 1) := by decide +kernel
theorem dX7_rests_237 : decode cX7_rests 237 = .ok (.iload 6, 2) := by decide +kernel
theorem dX7_rests_239 : decode cX7_rests 239 = .ok (.ifCond .eq 25, 3) := by decide +kernel
theorem dX7_rests_242 : decode cX7_rests 242 = .ok (.aload_n 0, 1) := by decide +kernel
theorem dX7_rests_243 : decode cX7_rests 243 = .ok (.getfield 273, 3) := by decide +kernel
theorem dX7_rests_246 : decode cX7_rests 246 = .ok (.ifCond .ne 18, 3) := by decide +kernel
theorem dX7_rests_249 : decode cX7_rests 249 = .ok (.bipush 10, 2) := by decide +kernel
theorem dX7_rests_251 : decode cX7_rests 251 = .ok (.iload 5, 2) := by decide +kernel
theorem dX7_rests_253 : decode cX7_rests 253 = .ok (.iconst 2, 1) := by decide +kernel
theorem dX7_rests_254 : decode cX7_rests 254 = .ok (.idiv, 1) := by decide +kernel
theorem dX7_rests_255 : decode cX7_rests 255 = .ok (.imul, 1) := by decide +kernel
theorem dX7_rests_256 : decode cX7_rests 256 = .ok (.iload 5, 2) := by decide +kernel
theorem dX7_rests_258 : decode cX7_rests 258 = .ok (.iconst 2, 1) := by decide +kernel
theorem dX7_rests_259 : decode cX7_rests 259 = .ok (.irem, 1) := by decide +kernel
theorem dX7_rests_260 : decode cX7_rests 260 = .ok (.iadd, 1) := by decide +kernel
theorem dX7_rests_261 : decode cX7_rests 261 = .ok (.goto 7, 3) := by decide +kernel
theorem dX7_rests_264 : decode cX7_rests 264 = .ok (.aload_n 0, 1) := by decide +kernel
theorem dX7_rests_265 : decode cX7_rests 265 = .ok (.getfield 276, 3) := by decide +kernel
theorem dX7_rests_268 : decode cX7_rests 268 = .ok (.putfield 276, 3) := by decide +kernel
theorem dX7_rests_271 : decode cX7_rests 271 = .ok (.aload_n 0, 1) := by decide +kernel
theorem dX7_rests_272 : decode cX7_rests 272 = .ok (.dup, 1) := by decide +kernel
theorem dX7_rests_273 : decode cX7_rests 273 = .ok (.getfield 273, 3) := by decide +kernel
theorem dX7_rests_276 : decode cX7_rests 276 = .ok (.iload 6, 2) := by decide +kernel
theorem dX7_rests_278 : decode cX7_rests 278 = .ok (.ifCond .eq 7, 3) := by decide +kernel
theorem dX7_rests_281 : decode cX7_rests 281 = .ok (.iconst 1, 1) := by decide +kernel
theorem dX7_rests_282 : decode cX7_rests 282 = .ok (.goto 4, 3) := by decide +kernel
theorem dX7_rests_285 : decode cX7_rests 285 = .ok (.iconst 0, 1) := by decide +kernel
theorem dX7_rests_286 : decode cX7_rests 286 = .ok (.iadd, 1) := by decide +kernel
theorem dX7_rests_287 : decode cX7_rests 287 = .ok (.putfield 273, 3) := by decide +kernel
theorem dX7_rests_290 : decode cX7_rests 290 = .ok (.iinc 5 1, 3) := by decide +kernel
theorem dX7_rests_293 : decode cX7_rests 293 = .ok (.goto (-120), 3) := by decide +kernel
theorem dX7_rests_296 : decode cX7_rests 296 = .ok (.iload 4, 2) := by decide +kernel
theorem dX7_rests_298 : decode cX7_rests 298 = .ok (.ifCond .ne 10, 3) := by decide +kernel
theorem dX7_rests_301 : decode cX7_rests 301 = .ok (.aload_n 0, 1) := by decide +kernel
theorem dX7_rests_302 : decode cX7_rests 302 = .ok (.getfield 273, 3) := by decide +kernel
theorem dX7_rests_305 : decode cX7_rests 305 = .ok (.goto 7, 3) := by decide +kernel
theorem dX7_rests_308 : decode cX7_rests 308 = .ok (.aload_n 0, 1) := by decide +kernel
theorem dX7_rests_309 : decode cX7_rests 309 = .ok (.getfield 276, 3) := by decide +kernel
theorem dX7_rests_312 : decode cX7_rests 312 = .ok (.ireturn, 1) := by decide +kernel
set_option maxRecDepth 20000 in
theorem ggX7_battle_X7_in : GoodIn wsX7_battle wsX7_in := goodIn_r _ [10] (by decide +kernel) (by decide +kernel)
set_option maxRecDepth 20000 in
theorem gX7_battle_X7_in : GoodIn wsX7_battle (va_wsS RX7 69 yX7_in wsX7_in) := goodIn_app (goodIn_of _ (by decide +kernel)) ggX7_battle_X7_in
set_option maxRecDepth 20000 in
theorem ggX7_battle_X7_many : GoodIn wsX7_battle wsX7_many := goodIn_r _ [13] (by decide +kernel) (by decide +kernel)
set_option maxRecDepth 20000 in
theorem gX7_battle_X7_many : GoodIn wsX7_battle (va_wsS RX7 222 yX7_many wsX7_many) := goodIn_app (goodIn_of _ (by decide +kernel)) ggX7_battle_X7_many
set_option maxRecDepth 20000 in
theorem ggX7_battle_X7_begin : GoodIn wsX7_battle wsX7_begin := goodIn_r _ [17, 6, 5, 43, 44, 45, 46, 47, 48, 49, 50, 51, 52, 53, 54, 55, 56, 57, 58, 59, 60, 61, 62, 63, 64, 65, 66, 67, 68, 69, 70, 71, 72, 73, 74, 75] (by decide +kernel) (by decide +kernel)
set_option maxRecDepth 20000 in
theorem gX7_battle_X7_begin : GoodIn wsX7_battle (wsV RX7 198 RX7 yX7_begin wsX7_begin) := goodIn_app (goodIn_of _ (by decide +kernel)) ggX7_battle_X7_begin
set_option maxRecDepth 20000 in
theorem ggX7_battle_X7_left : GoodIn wsX7_battle wsX7_left := goodIn_r _ [21, 4, 22, 23, 9, 24, 25, 26, 27, 28, 29, 30, 31, 32, 33, 43, 44, 45, 46, 47, 48, 49, 50, 51, 52, 53, 54, 55, 56, 57, 58, 59, 60, 61, 62, 63, 64, 65, 66, 67, 68, 69, 70, 71, 72, 73, 74, 75] (by decide +kernel) (by decide +kernel)
set_option maxRecDepth 20000 in
theorem gX7_battle_X7_left : GoodIn wsX7_battle (wsV RX7 157 RX7 yX7_left wsX7_left) := goodIn_app (goodIn_of _ (by decide +kernel)) ggX7_battle_X7_left
set_option maxRecDepth 20000 in
theorem ggX7_battle_X7_power : GoodIn wsX7_battle wsX7_power := goodIn_r _ [36] (by decide +kernel) (by decide +kernel)
set_option maxRecDepth 20000 in
theorem gX7_battle_X7_power : GoodIn wsX7_battle (va_wsS RX7 215 yX7_power wsX7_power) := goodIn_app (goodIn_of _ (by decide +kernel)) ggX7_battle_X7_power
set_option maxRecDepth 20000 in
theorem ggX7_battle_X7_fraction : GoodIn wsX7_battle wsX7_fraction := goodIn_r _ [39, 40, 41, 9, 42] (by decide +kernel) (by decide +kernel)
set_option maxRecDepth 20000 in
theorem gX7_battle_X7_fraction : GoodIn wsX7_battle (va_wsS RX7 256 yX7_fraction wsX7_fraction) := goodIn_app (goodIn_of _ (by decide +kernel)) ggX7_battle_X7_fraction
theorem dX7_battle_0 : decode cX7_battle 0 = .ok (.aload_n 0, 1) := by decide +kernel
theorem dX7_battle_1 : decode cX7_battle 1 = .ok (.iconst 0, 1) := by decide +kernel
theorem dX7_battle_2 : decode cX7_battle 2 = .ok (.putfield 62, 3) := by decide +kernel
theorem dX7_battle_5 : decode cX7_battle 5 = .ok (.iload_n 1, 1) := by decide +kernel
theorem dX7_battle_6 : decode cX7_battle 6 = .ok (.i2l, 1) := by decide +kernel
theorem dX7_battle_7 : decode cX7_battle 7 = .ok (.lconst 0, 1) := by decide +kernel
theorem dX7_battle_8 : decode cX7_battle 8 = .ok (.ldc2_w 279, 3) := by decide +kernel
theorem dX7_battle_11 : decode cX7_battle 11 = .ok (.invokestatic 69, 3) := by decide +kernel
theorem dX7_battle_14 : decode cX7_battle 14 = .ok (.ifCond .eq 15, 3) := by decide +kernel
theorem dX7_battle_17 : decode cX7_battle 17 = .ok (.iload_n 2, 1) := by decide +kernel
theorem dX7_battle_18 : decode cX7_battle 18 = .ok (.i2l, 1) := by decide +kernel
theorem dX7_battle_19 : decode cX7_battle 19 = .ok (.lconst 0, 1) := by decide +kernel
theorem dX7_battle_20 : decode cX7_battle 20 = .ok (.ldc2_w 281, 3) := by decide +kernel
theorem dX7_battle_23 : decode cX7_battle 23 = .ok (.invokestatic 69, 3) := by decide +kernel
theorem dX7_battle_26 : decode cX7_battle 26 = .ok (.ifCond .ne 6, 3) := by decide +kernel
theorem dX7_battle_29 : decode cX7_battle 29 = .ok (.bipush (-2), 2) := by decide +kernel
theorem dX7_battle_31 : decode cX7_battle 31 = .ok (.ireturn, 1) := by decide +kernel
theorem dX7_battle_32 : decode cX7_battle 32 = .ok (.aload_n 0, 1) := by decide +kernel
theorem dX7_battle_33 : decode cX7_battle 33 = .ok (.getfield 73, 3) := by decide +kernel
theorem dX7_battle_36 : decode cX7_battle 36 = .ok (.aload_n 0, 1) := by decide +kernel
theorem dX7_battle_37 : decode cX7_battle 37 = .ok (.getfield 28, 3) := by decide +kernel
theorem dX7_battle_40 : decode cX7_battle 40 = .ok (.bipush 45, 2) := by decide +kernel
theorem dX7_battle_42 : decode cX7_battle 42 = .ok (.iaload, 1) := by decide +kernel
theorem dX7_battle_43 : decode cX7_battle 43 = .ok (.invokestatic 222, 3) := by decide +kernel
theorem dX7_battle_46 : decode cX7_battle 46 = .ok (.isub, 1) := by decide +kernel
theorem dX7_battle_47 : decode cX7_battle 47 = .ok (.istore 4, 2) := by decide +kernel
theorem dX7_battle_49 : decode cX7_battle 49 = .ok (.iconst 0, 1) := by decide +kernel
theorem dX7_battle_50 : decode cX7_battle 50 = .ok (.istore 5, 2) := by decide +kernel
theorem dX7_battle_52 : decode cX7_battle 52 = .ok (.iconst 0, 1) := by decide +kernel
theorem dX7_battle_53 : decode cX7_battle 53 = .ok (.istore 6, 2) := by decide +kernel
theorem dX7_battle_55 : decode cX7_battle 55 = .ok (.iload 6, 2) := by decide +kernel
theorem dX7_battle_57 : decode cX7_battle 57 = .ok (.iconst 1, 1) := by decide +kernel
theorem dX7_battle_58 : decode cX7_battle 58 = .ok (.aload_n 0, 1) := by decide +kernel
theorem dX7_battle_59 : decode cX7_battle 59 = .ok (.getfield 73, 3) := by decide +kernel
theorem dX7_battle_62 : decode cX7_battle 62 = .ok (.ishl, 1) := by decide +kernel
theorem dX7_battle_63 : decode cX7_battle 63 = .ok (.if_icmp .ge 85, 3) := by decide +kernel
theorem dX7_battle_66 : decode cX7_battle 66 = .ok (.iload 6, 2) := by decide +kernel
theorem dX7_battle_68 : decode cX7_battle 68 = .ok (.aload_n 0, 1) := by decide +kernel
theorem dX7_battle_69 : decode cX7_battle 69 = .ok (.getfield 28, 3) := by decide +kernel
theorem dX7_battle_72 : decode cX7_battle 72 = .ok (.bipush 45, 2) := by decide +kernel
theorem dX7_battle_74 : decode cX7_battle 74 = .ok (.iaload, 1) := by decide +kernel
theorem dX7_battle_75 : decode cX7_battle 75 = .ok (.iand, 1) := by decide +kernel
theorem dX7_battle_76 : decode cX7_battle 76 = .ok (.ifCond .ne 66, 3) := by decide +kernel
theorem dX7_battle_79 : decode cX7_battle 79 = .ok (.aload_n 0, 1) := by decide +kernel
theorem dX7_battle_80 : decode cX7_battle 80 = .ok (.invokevirtual 198, 3) := by decide +kernel
theorem dX7_battle_83 : decode cX7_battle 83 = .ok (.aload_n 0, 1) := by decide +kernel
theorem dX7_battle_84 : decode cX7_battle 84 = .ok (.getfield 31, 3) := by decide +kernel
theorem dX7_battle_87 : decode cX7_battle 87 = .ok (.bipush 45, 2) := by decide +kernel
theorem dX7_battle_89 : decode cX7_battle 89 = .ok (.dup2, 1) := by decide +kernel
theorem dX7_battle_90 : decode cX7_battle 90 = .ok (.iaload, 1) := by decide +kernel
theorem dX7_battle_91 : decode cX7_battle 91 = .ok (.iload 6, 2) := by decide +kernel
theorem dX7_battle_93 : decode cX7_battle 93 = .ok (.ior, 1) := by decide +kernel
theorem dX7_battle_94 : decode cX7_battle 94 = .ok (.iastore, 1) := by decide +kernel
theorem dX7_battle_95 : decode cX7_battle 95 = .ok (.iload 6, 2) := by decide +kernel
theorem dX7_battle_97 : decode cX7_battle 97 = .ok (.invokestatic 222, 3) := by decide +kernel
theorem dX7_battle_100 : decode cX7_battle 100 = .ok (.istore 7, 2) := by decide +kernel
theorem dX7_battle_102 : decode cX7_battle 102 = .ok (.iload 5, 2) := by decide +kernel
theorem dX7_battle_104 : decode cX7_battle 104 = .ok (.aload_n 0, 1) := by decide +kernel
theorem dX7_battle_105 : decode cX7_battle 105 = .ok (.aload_n 0, 1) := by decide +kernel
theorem dX7_battle_106 : decode cX7_battle 106 = .ok (.getfield 31, 3) := by decide +kernel
theorem dX7_battle_109 : decode cX7_battle 109 = .ok (.invokevirtual 157, 3) := by decide +kernel
theorem dX7_battle_112 : decode cX7_battle 112 = .ok (.iload_n 1, 1) := by decide +kernel
theorem dX7_battle_113 : decode cX7_battle 113 = .ok (.if_icmp .lt 25, 3) := by decide +kernel
theorem dX7_battle_116 : decode cX7_battle 116 = .ok (.iload_n 2, 1) := by decide +kernel
theorem dX7_battle_117 : decode cX7_battle 117 = .ok (.iload 7, 2) := by decide +kernel
theorem dX7_battle_119 : decode cX7_battle 119 = .ok (.invokestatic 215, 3) := by decide +kernel
theorem dX7_battle_122 : decode cX7_battle 122 = .ok (.bipush 10, 2) := by decide +kernel
theorem dX7_battle_124 : decode cX7_battle 124 = .ok (.iload_n 2, 1) := by decide +kernel
theorem dX7_battle_125 : decode cX7_battle 125 = .ok (.isub, 1) := by decide +kernel
theorem dX7_battle_126 : decode cX7_battle 126 = .ok (.iload 4, 2) := by decide +kernel
theorem dX7_battle_128 : decode cX7_battle 128 = .ok (.iload 7, 2) := by decide +kernel
theorem dX7_battle_130 : decode cX7_battle 130 = .ok (.isub, 1) := by decide +kernel
theorem dX7_battle_131 : decode cX7_battle 131 = .ok (.invokestatic 215, 3) := by decide +kernel
theorem dX7_battle_134 : decode cX7_battle 134 = .ok (.imul, 1) := by decide +kernel
theorem dX7_battle_135 : decode cX7_battle 135 = .ok (.goto 4, 3) := by decide +kernel
theorem dX7_battle_138 : decode cX7_battle 138 = .ok (.iconst 0, 1) := by decide +kernel
theorem dX7_battle_139 : decode cX7_battle 139 = .ok (.iadd, 1) := by decide +kernel
theorem dX7_battle_140 : decode cX7_battle 140 = .ok (.istore 5, 2) := by decide +kernel
theorem dX7_battle_142 : decode cX7_battle 142 = .ok (.iinc 6 1, 3) := by decide +kernel
theorem dX7_battle_145 : decode cX7_battle 145 = .ok (.goto (-90), 3) := by decide +kernel
theorem dX7_battle_148 : decode cX7_battle 148 = .ok (.iload 5, 2) := by decide +kernel
theorem dX7_battle_150 : decode cX7_battle 150 = .ok (.bipush 10, 2) := by decide +kernel
theorem dX7_battle_152 : decode cX7_battle 152 = .ok (.iload 4, 2) := by decide +kernel
theorem dX7_battle_154 : decode cX7_battle 154 = .ok (.invokestatic 215, 3) := by decide +kernel
theorem dX7_battle_157 : decode cX7_battle 157 = .ok (.iload_n 3, 1) := by decide +kernel
theorem dX7_battle_158 : decode cX7_battle 158 = .ok (.invokestatic 256, 3) := by decide +kernel
theorem dX7_battle_161 : decode cX7_battle 161 = .ok (.ireturn, 1) := by decide +kernel
theorem dX7_seed_0 : decode cX7_seed 0 = .ok (.aload_n 0, 1) := by decide +kernel
theorem dX7_seed_1 : decode cX7_seed 1 = .ok (.iconst 0, 1) := by decide +kernel
theorem dX7_seed_2 : decode cX7_seed 2 = .ok (.putfield 62, 3) := by decide +kernel
theorem dX7_seed_5 : decode cX7_seed 5 = .ok (.aload_n 0, 1) := by decide +kernel
theorem dX7_seed_6 : decode cX7_seed 6 = .ok (.getfield 283, 3) := by decide +kernel
theorem dX7_seed_9 : decode cX7_seed 9 = .ok (.lstore_n 3, 1) := by decide +kernel
theorem dX7_seed_10 : decode cX7_seed 10 = .ok (.aload_n 0, 1) := by decide +kernel
theorem dX7_seed_11 : decode cX7_seed 11 = .ok (.lload_n 1, 1) := by decide +kernel
theorem dX7_seed_12 : decode cX7_seed 12 = .ok (.putfield 283, 3) := by decide +kernel
theorem dX7_seed_15 : decode cX7_seed 15 = .ok (.lload_n 3, 1) := by decide +kernel
theorem dX7_seed_16 : decode cX7_seed 16 = .ok (.lreturn, 1) := by decide +kernel
set_option maxRecDepth 20000 in
theorem ggX7_years_X7_in : GoodIn wsX7_years wsX7_in := goodIn_r _ [11] (by decide +kernel) (by decide +kernel)
set_option maxRecDepth 20000 in
theorem gX7_years_X7_in : GoodIn wsX7_years (va_wsS RX7 69 yX7_in wsX7_in) := goodIn_app (goodIn_of _ (by decide +kernel)) ggX7_years_X7_in
set_option maxRecDepth 20000 in
theorem ggX7_years_X7_begin : GoodIn wsX7_years wsX7_begin := goodIn_r _ [15, 7, 16, 92, 93, 94, 95, 96, 97, 98, 99, 100, 101, 102, 103, 104, 105, 106, 107, 108, 109, 110, 111, 112, 113, 114, 115, 116, 117, 118, 119, 120, 121, 122, 123, 124] (by decide +kernel) (by decide +kernel)
set_option maxRecDepth 20000 in
theorem gX7_years_X7_begin : GoodIn wsX7_years (wsV RX7 198 RX7 yX7_begin wsX7_begin) := goodIn_app (goodIn_of _ (by decide +kernel)) ggX7_years_X7_begin
set_option maxRecDepth 20000 in
theorem ggX7_years_X7_does : GoodIn wsX7_years wsX7_does := goodIn_r _ [20, 7, 21, 22, 23, 10, 24, 25, 26, 27, 28, 29, 30, 31, 32, 33, 34, 35, 36, 37, 38, 39, 40, 41, 42, 43, 44, 45, 46, 47, 48, 49, 50, 51, 52, 8, 9, 11, 53, 54, 55, 56, 57, 58, 59, 60, 61, 62, 63, 64, 65, 66, 67, 68, 69, 70, 71, 72, 73, 74, 75, 76, 77, 78, 79, 80, 81, 82, 83, 84, 85, 86, 87, 88, 92, 93, 94, 95, 96, 97, 98, 99, 100, 101, 102, 103, 104, 105, 106, 107, 108, 109, 110, 111, 112, 113, 114, 115, 116, 117, 118, 119, 120, 121, 122, 123, 124] (by decide +kernel) (by decide +kernel)
set_option maxRecDepth 20000 in
theorem gX7_years_X7_does : GoodIn wsX7_years (wsV RX7 247 RX7 yX7_does wsX7_does) := goodIn_app (goodIn_of _ (by decide +kernel)) ggX7_years_X7_does
set_option maxRecDepth 20000 in
theorem ggX7_years_X7_inAll : GoodIn wsX7_years wsX7_inAll := goodIn_r _ [91] (by decide +kernel) (by decide +kernel)
set_option maxRecDepth 20000 in
theorem gX7_years_X7_inAll : GoodIn wsX7_years (va_wsS RX7 150 yX7_inAll wsX7_inAll) := goodIn_app (goodIn_of _ (by decide +kernel)) ggX7_years_X7_inAll
theorem dX7_years_0 : decode cX7_years 0 = .ok (.aload_n 0, 1) := by decide +kernel
theorem dX7_years_1 : decode cX7_years 1 = .ok (.iconst 0, 1) := by decide +kernel
theorem dX7_years_2 : decode cX7_years 2 = .ok (.putfield 62, 3) := by decide +kernel
theorem dX7_years_5 : decode cX7_years 5 = .ok (.iload_n 1, 1) := by decide +kernel
theorem dX7_years_6 : decode cX7_years 6 = .ok (.i2l, 1) := by decide +kernel
theorem dX7_years_7 : decode cX7_years 7 = .ok (.lconst 1, 1) := by decide +kernel
theorem dX7_years_8 : decode cX7_years 8 = .ok (.ldc2_w 287, 3) := by decide +kernel
theorem dX7_years_11 : decode cX7_years 11 = .ok (.invokestatic 69, 3) := by decide +kernel
theorem dX7_years_14 : decode cX7_years 14 = .ok (.ifCond .ne 6, 3) := by decide +kernel
theorem dX7_years_17 : decode cX7_years 17 = .ok (.bipush (-2), 2) := by decide +kernel
theorem dX7_years_19 : decode cX7_years 19 = .ok (.ireturn, 1) := by decide +kernel
theorem dX7_years_20 : decode cX7_years 20 = .ok (.aload_n 0, 1) := by decide +kernel
theorem dX7_years_21 : decode cX7_years 21 = .ok (.invokevirtual 198, 3) := by decide +kernel
theorem dX7_years_24 : decode cX7_years 24 = .ok (.iconst 0, 1) := by decide +kernel
theorem dX7_years_25 : decode cX7_years 25 = .ok (.istore_n 2, 1) := by decide +kernel
theorem dX7_years_26 : decode cX7_years 26 = .ok (.iconst 0, 1) := by decide +kernel
theorem dX7_years_27 : decode cX7_years 27 = .ok (.istore_n 3, 1) := by decide +kernel
theorem dX7_years_28 : decode cX7_years 28 = .ok (.iload_n 3, 1) := by decide +kernel
theorem dX7_years_29 : decode cX7_years 29 = .ok (.iload_n 1, 1) := by decide +kernel
theorem dX7_years_30 : decode cX7_years 30 = .ok (.if_icmp .ge 128, 3) := by decide +kernel
theorem dX7_years_33 : decode cX7_years 33 = .ok (.aload_n 0, 1) := by decide +kernel
theorem dX7_years_34 : decode cX7_years 34 = .ok (.aload_n 0, 1) := by decide +kernel
theorem dX7_years_35 : decode cX7_years 35 = .ok (.getfield 283, 3) := by decide +kernel
theorem dX7_years_38 : decode cX7_years 38 = .ok (.ldc2_w 289, 3) := by decide +kernel
theorem dX7_years_41 : decode cX7_years 41 = .ok (.lmul, 1) := by decide +kernel
theorem dX7_years_42 : decode cX7_years 42 = .ok (.ldc2_w 291, 3) := by decide +kernel
theorem dX7_years_45 : decode cX7_years 45 = .ok (.ladd, 1) := by decide +kernel
theorem dX7_years_46 : decode cX7_years 46 = .ok (.putfield 283, 3) := by decide +kernel
theorem dX7_years_49 : decode cX7_years 49 = .ok (.aload_n 0, 1) := by decide +kernel
theorem dX7_years_50 : decode cX7_years 50 = .ok (.getfield 283, 3) := by decide +kernel
theorem dX7_years_53 : decode cX7_years 53 = .ok (.bipush 33, 2) := by decide +kernel
theorem dX7_years_55 : decode cX7_years 55 = .ok (.lushr, 1) := by decide +kernel
theorem dX7_years_56 : decode cX7_years 56 = .ok (.ldc2_w 201, 3) := by decide +kernel
theorem dX7_years_59 : decode cX7_years 59 = .ok (.lrem, 1) := by decide +kernel
theorem dX7_years_60 : decode cX7_years 60 = .ok (.l2i, 1) := by decide +kernel
theorem dX7_years_61 : decode cX7_years 61 = .ok (.istore 4, 2) := by decide +kernel
theorem dX7_years_63 : decode cX7_years 63 = .ok (.aload_n 0, 1) := by decide +kernel
theorem dX7_years_64 : decode cX7_years 64 = .ok (.iload 4, 2) := by decide +kernel
theorem dX7_years_66 : decode cX7_years 66 = .ok (.bipush 15, 2) := by decide +kernel
theorem dX7_years_68 : decode cX7_years 68 = .ok (.if_icmp .ge 21, 3) := by decide +kernel
theorem dX7_years_71 : decode cX7_years 71 = .ok (.bipush 100, 2) := by decide +kernel
theorem dX7_years_73 : decode cX7_years 73 = .ok (.bipush 10, 2) := by decide +kernel
theorem dX7_years_75 : decode cX7_years 75 = .ok (.iload 4, 2) := by decide +kernel
theorem dX7_years_77 : decode cX7_years 77 = .ok (.iconst 3, 1) := by decide +kernel
theorem dX7_years_78 : decode cX7_years 78 = .ok (.idiv, 1) := by decide +kernel
theorem dX7_years_79 : decode cX7_years 79 = .ok (.imul, 1) := by decide +kernel
theorem dX7_years_80 : decode cX7_years 80 = .ok (.iadd, 1) := by decide +kernel
theorem dX7_years_81 : decode cX7_years 81 = .ok (.iload 4, 2) := by decide +kernel
theorem dX7_years_83 : decode cX7_years 83 = .ok (.iconst 3, 1) := by decide +kernel
theorem dX7_years_84 : decode cX7_years 84 = .ok (.irem, 1) := by decide +kernel
theorem dX7_years_85 : decode cX7_years 85 = .ok (.iadd, 1) := by decide +kernel
theorem dX7_years_86 : decode cX7_years 86 = .ok (.goto 52, 3) := by decide +kernel
theorem dX7_years_89 : decode cX7_years 89 = .ok (.iload 4, 2) := by decide +kernel
theorem dX7_years_91 : decode cX7_years 91 = .ok (.bipush 30, 2) := by decide +kernel
theorem dX7_years_93 : decode cX7_years 93 = .ok (.if_icmp .ge 22, 3) := by decide +kernel
theorem dX7_years_96 : decode cX7_years 96 = .ok (.sipush 250, 3) := by decide +kernel
theorem dX7_years_99 : decode cX7_years 99 = .ok (.bipush 10, 2) := by decide +kernel
theorem dX7_years_101 : decode cX7_years 101 = .ok (.iload 4, 2) := by decide +kernel
theorem dX7_years_103 : decode cX7_years 103 = .ok (.iconst 3, 1) := by decide +kernel
theorem dX7_years_104 : decode cX7_years 104 = .ok (.idiv, 1) := by decide +kernel
theorem dX7_years_105 : decode cX7_years 105 = .ok (.imul, 1) := by decide +kernel
theorem dX7_years_106 : decode cX7_years 106 = .ok (.iadd, 1) := by decide +kernel
theorem dX7_years_107 : decode cX7_years 107 = .ok (.iload 4, 2) := by decide +kernel
theorem dX7_years_109 : decode cX7_years 109 = .ok (.iconst 3, 1) := by decide +kernel
theorem dX7_years_110 : decode cX7_years 110 = .ok (.irem, 1) := by decide +kernel
theorem dX7_years_111 : decode cX7_years 111 = .ok (.iadd, 1) := by decide +kernel
theorem dX7_years_112 : decode cX7_years 112 = .ok (.goto 26, 3) := by decide +kernel
theorem dX7_years_115 : decode cX7_years 115 = .ok (.iload 4, 2) := by decide +kernel
theorem dX7_years_117 : decode cX7_years 117 = .ok (.bipush 33, 2) := by decide +kernel
theorem dX7_years_119 : decode cX7_years 119 = .ok (.if_icmp .ge 18, 3) := by decide +kernel
theorem dX7_years_122 : decode cX7_years 122 = .ok (.sipush 201, 3) := by decide +kernel
theorem dX7_years_125 : decode cX7_years 125 = .ok (.bipush 10, 2) := by decide +kernel
theorem dX7_years_127 : decode cX7_years 127 = .ok (.iload 4, 2) := by decide +kernel
theorem dX7_years_129 : decode cX7_years 129 = .ok (.bipush 30, 2) := by decide +kernel
theorem dX7_years_131 : decode cX7_years 131 = .ok (.isub, 1) := by decide +kernel
theorem dX7_years_132 : decode cX7_years 132 = .ok (.imul, 1) := by decide +kernel
theorem dX7_years_133 : decode cX7_years 133 = .ok (.iadd, 1) := by decide +kernel
theorem dX7_years_134 : decode cX7_years 134 = .ok (.goto 4, 3) := by decide +kernel
theorem dX7_years_137 : decode cX7_years 137 = .ok (.iconst 0, 1) := by decide +kernel
theorem dX7_years_138 : decode cX7_years 138 = .ok (.invokevirtual 247, 3) := by decide +kernel
theorem dX7_years_141 : decode cX7_years 141 = .ok (.pop, 1) := by decide +kernel
theorem dX7_years_142 : decode cX7_years 142 = .ok (.iload_n 2, 1) := by decide +kernel
theorem dX7_years_143 : decode cX7_years 143 = .ok (.aload_n 0, 1) := by decide +kernel
theorem dX7_years_144 : decode cX7_years 144 = .ok (.getfield 31, 3) := by decide +kernel
theorem dX7_years_147 : decode cX7_years 147 = .ok (.invokestatic 150, 3) := by decide +kernel
theorem dX7_years_150 : decode cX7_years 150 = .ok (.iadd, 1) := by decide +kernel
theorem dX7_years_151 : decode cX7_years 151 = .ok (.istore_n 2, 1) := by decide +kernel
theorem dX7_years_152 : decode cX7_years 152 = .ok (.iinc 3 1, 3) := by decide +kernel
theorem dX7_years_155 : decode cX7_years 155 = .ok (.goto (-127), 3) := by decide +kernel
theorem dX7_years_158 : decode cX7_years 158 = .ok (.iload_n 2, 1) := by decide +kernel
theorem dX7_years_159 : decode cX7_years 159 = .ok (.ireturn, 1) := by decide +kernel
set_option maxRecDepth 20000 in
theorem ggX7_keep_X7_in : GoodIn wsX7_keep wsX7_in := goodIn_r _ [8] (by decide +kernel) (by decide +kernel)
set_option maxRecDepth 20000 in
theorem gX7_keep_X7_in : GoodIn wsX7_keep (va_wsS RX7 69 yX7_in wsX7_in) := goodIn_app (goodIn_of _ (by decide +kernel)) ggX7_keep_X7_in
theorem dX7_keep_0 : decode cX7_keep 0 = .ok (.aload_n 0, 1) := by decide +kernel
theorem dX7_keep_1 : decode cX7_keep 1 = .ok (.iconst 0, 1) := by decide +kernel
theorem dX7_keep_2 : decode cX7_keep 2 = .ok (.putfield 62, 3) := by decide +kernel
theorem dX7_keep_5 : decode cX7_keep 5 = .ok (.iload_n 1, 1) := by decide +kernel
theorem dX7_keep_6 : decode cX7_keep 6 = .ok (.i2l, 1) := by decide +kernel
theorem dX7_keep_7 : decode cX7_keep 7 = .ok (.lconst 0, 1) := by decide +kernel
theorem dX7_keep_8 : decode cX7_keep 8 = .ok (.lconst 1, 1) := by decide +kernel
theorem dX7_keep_9 : decode cX7_keep 9 = .ok (.invokestatic 69, 3) := by decide +kernel
theorem dX7_keep_12 : decode cX7_keep 12 = .ok (.ifCond .ne 5, 3) := by decide +kernel
theorem dX7_keep_15 : decode cX7_keep 15 = .ok (.iconst (-1), 1) := by decide +kernel
theorem dX7_keep_16 : decode cX7_keep 16 = .ok (.ireturn, 1) := by decide +kernel
theorem dX7_keep_17 : decode cX7_keep 17 = .ok (.aload_n 0, 1) := by decide +kernel
theorem dX7_keep_18 : decode cX7_keep 18 = .ok (.getfield 40, 3) := by decide +kernel
theorem dX7_keep_21 : decode cX7_keep 21 = .ok (.iload_n 1, 1) := by decide +kernel
theorem dX7_keep_22 : decode cX7_keep 22 = .ok (.iconst 1, 1) := by decide +kernel
theorem dX7_keep_23 : decode cX7_keep 23 = .ok (.bastore, 1) := by decide +kernel
theorem dX7_keep_24 : decode cX7_keep 24 = .ok (.iconst 0, 1) := by decide +kernel
theorem dX7_keep_25 : decode cX7_keep 25 = .ok (.istore_n 2, 1) := by decide +kernel
theorem dX7_keep_26 : decode cX7_keep 26 = .ok (.iload_n 2, 1) := by decide +kernel
theorem dX7_keep_27 : decode cX7_keep 27 = .ok (.bipush 47, 2) := by decide +kernel
theorem dX7_keep_29 : decode cX7_keep 29 = .ok (.if_icmp .ge 26, 3) := by decide +kernel
theorem dX7_keep_32 : decode cX7_keep 32 = .ok (.aload_n 0, 1) := by decide +kernel
theorem dX7_keep_33 : decode cX7_keep 33 = .ok (.getfield 37, 3) := by decide +kernel
theorem dX7_keep_36 : decode cX7_keep 36 = .ok (.bipush 47, 2) := by decide +kernel
theorem dX7_keep_38 : decode cX7_keep 38 = .ok (.iload_n 1, 1) := by decide +kernel
theorem dX7_keep_39 : decode cX7_keep 39 = .ok (.imul, 1) := by decide +kernel
theorem dX7_keep_40 : decode cX7_keep 40 = .ok (.iload_n 2, 1) := by decide +kernel
theorem dX7_keep_41 : decode cX7_keep 41 = .ok (.iadd, 1) := by decide +kernel
theorem dX7_keep_42 : decode cX7_keep 42 = .ok (.aload_n 0, 1) := by decide +kernel
theorem dX7_keep_43 : decode cX7_keep 43 = .ok (.getfield 28, 3) := by decide +kernel
theorem dX7_keep_46 : decode cX7_keep 46 = .ok (.iload_n 2, 1) := by decide +kernel
theorem dX7_keep_47 : decode cX7_keep 47 = .ok (.iaload, 1) := by decide +kernel
theorem dX7_keep_48 : decode cX7_keep 48 = .ok (.iastore, 1) := by decide +kernel
theorem dX7_keep_49 : decode cX7_keep 49 = .ok (.iinc 2 1, 3) := by decide +kernel
theorem dX7_keep_52 : decode cX7_keep 52 = .ok (.goto (-26), 3) := by decide +kernel
theorem dX7_keep_55 : decode cX7_keep 55 = .ok (.aload_n 0, 1) := by decide +kernel
theorem dX7_keep_56 : decode cX7_keep 56 = .ok (.getfield 28, 3) := by decide +kernel
theorem dX7_keep_59 : decode cX7_keep 59 = .ok (.bipush 46, 2) := by decide +kernel
theorem dX7_keep_61 : decode cX7_keep 61 = .ok (.iaload, 1) := by decide +kernel
theorem dX7_keep_62 : decode cX7_keep 62 = .ok (.ireturn, 1) := by decide +kernel
set_option maxRecDepth 20000 in
theorem ggX7_again_X7_in : GoodIn wsX7_again wsX7_in := goodIn_r _ [9] (by decide +kernel) (by decide +kernel)
set_option maxRecDepth 20000 in
theorem gX7_again_X7_in : GoodIn wsX7_again (va_wsS RX7 69 yX7_in wsX7_in) := goodIn_app (goodIn_of _ (by decide +kernel)) ggX7_again_X7_in
theorem dX7_again_0 : decode cX7_again 0 = .ok (.aload_n 0, 1) := by decide +kernel
theorem dX7_again_1 : decode cX7_again 1 = .ok (.iconst 0, 1) := by decide +kernel
theorem dX7_again_2 : decode cX7_again 2 = .ok (.putfield 62, 3) := by decide +kernel
theorem dX7_again_5 : decode cX7_again 5 = .ok (.iload_n 1, 1) := by decide +kernel
theorem dX7_again_6 : decode cX7_again 6 = .ok (.i2l, 1) := by decide +kernel
theorem dX7_again_7 : decode cX7_again 7 = .ok (.lconst 0, 1) := by decide +kernel
theorem dX7_again_8 : decode cX7_again 8 = .ok (.lconst 1, 1) := by decide +kernel
theorem dX7_again_9 : decode cX7_again 9 = .ok (.invokestatic 69, 3) := by decide +kernel
theorem dX7_again_12 : decode cX7_again 12 = .ok (.ifCond .ne 5, 3) := by decide +kernel
theorem dX7_again_15 : decode cX7_again 15 = .ok (.iconst (-1), 1) := by decide +kernel
theorem dX7_again_16 : decode cX7_again 16 = .ok (.ireturn, 1) := by decide +kernel
theorem dX7_again_17 : decode cX7_again 17 = .ok (.aload_n 0, 1) := by decide +kernel
theorem dX7_again_18 : decode cX7_again 18 = .ok (.getfield 40, 3) := by decide +kernel
theorem dX7_again_21 : decode cX7_again 21 = .ok (.iload_n 1, 1) := by decide +kernel
theorem dX7_again_22 : decode cX7_again 22 = .ok (.baload, 1) := by decide +kernel
theorem dX7_again_23 : decode cX7_again 23 = .ok (.ifCond .ne 6, 3) := by decide +kernel
theorem dX7_again_26 : decode cX7_again 26 = .ok (.bipush (-3), 2) := by decide +kernel
theorem dX7_again_28 : decode cX7_again 28 = .ok (.ireturn, 1) := by decide +kernel
theorem dX7_again_29 : decode cX7_again 29 = .ok (.iconst 0, 1) := by decide +kernel
theorem dX7_again_30 : decode cX7_again 30 = .ok (.istore_n 2, 1) := by decide +kernel
theorem dX7_again_31 : decode cX7_again 31 = .ok (.iload_n 2, 1) := by decide +kernel
theorem dX7_again_32 : decode cX7_again 32 = .ok (.bipush 47, 2) := by decide +kernel
theorem dX7_again_34 : decode cX7_again 34 = .ok (.if_icmp .ge 26, 3) := by decide +kernel
theorem dX7_again_37 : decode cX7_again 37 = .ok (.aload_n 0, 1) := by decide +kernel
theorem dX7_again_38 : decode cX7_again 38 = .ok (.getfield 28, 3) := by decide +kernel
theorem dX7_again_41 : decode cX7_again 41 = .ok (.iload_n 2, 1) := by decide +kernel
theorem dX7_again_42 : decode cX7_again 42 = .ok (.aload_n 0, 1) := by decide +kernel
theorem dX7_again_43 : decode cX7_again 43 = .ok (.getfield 37, 3) := by decide +kernel
theorem dX7_again_46 : decode cX7_again 46 = .ok (.bipush 47, 2) := by decide +kernel
theorem dX7_again_48 : decode cX7_again 48 = .ok (.iload_n 1, 1) := by decide +kernel
theorem dX7_again_49 : decode cX7_again 49 = .ok (.imul, 1) := by decide +kernel
theorem dX7_again_50 : decode cX7_again 50 = .ok (.iload_n 2, 1) := by decide +kernel
theorem dX7_again_51 : decode cX7_again 51 = .ok (.iadd, 1) := by decide +kernel
theorem dX7_again_52 : decode cX7_again 52 = .ok (.iaload, 1) := by decide +kernel
theorem dX7_again_53 : decode cX7_again 53 = .ok (.iastore, 1) := by decide +kernel
theorem dX7_again_54 : decode cX7_again 54 = .ok (.iinc 2 1, 3) := by decide +kernel
theorem dX7_again_57 : decode cX7_again 57 = .ok (.goto (-26), 3) := by decide +kernel
theorem dX7_again_60 : decode cX7_again 60 = .ok (.aload_n 0, 1) := by decide +kernel
theorem dX7_again_61 : decode cX7_again 61 = .ok (.iconst 0, 1) := by decide +kernel
theorem dX7_again_62 : decode cX7_again 62 = .ok (.putfield 118, 3) := by decide +kernel
theorem dX7_again_65 : decode cX7_again 65 = .ok (.aload_n 0, 1) := by decide +kernel
theorem dX7_again_66 : decode cX7_again 66 = .ok (.getfield 28, 3) := by decide +kernel
theorem dX7_again_69 : decode cX7_again 69 = .ok (.bipush 46, 2) := by decide +kernel
theorem dX7_again_71 : decode cX7_again 71 = .ok (.iaload, 1) := by decide +kernel
theorem dX7_again_72 : decode cX7_again 72 = .ok (.ireturn, 1) := by decide +kernel
theorem dJ6_bitCount_0f7a4_0 : decode cJ6_bitCount_0f7a4 0 = .ok (.iload_n 0, 1) := by decide +kernel
theorem dJ6_bitCount_0f7a4_1 : decode cJ6_bitCount_0f7a4 1 = .ok (.iload_n 0, 1) := by decide +kernel
theorem dJ6_bitCount_0f7a4_2 : decode cJ6_bitCount_0f7a4 2 = .ok (.iconst 1, 1) := by decide +kernel
theorem dJ6_bitCount_0f7a4_3 : decode cJ6_bitCount_0f7a4 3 = .ok (.iushr, 1) := by decide +kernel
theorem dJ6_bitCount_0f7a4_4 : decode cJ6_bitCount_0f7a4 4 = .ok (.ldc_w 265, 3) := by decide +kernel
theorem dJ6_bitCount_0f7a4_7 : decode cJ6_bitCount_0f7a4 7 = .ok (.iand, 1) := by decide +kernel
theorem dJ6_bitCount_0f7a4_8 : decode cJ6_bitCount_0f7a4 8 = .ok (.isub, 1) := by decide +kernel
theorem dJ6_bitCount_0f7a4_9 : decode cJ6_bitCount_0f7a4 9 = .ok (.istore_n 0, 1) := by decide +kernel
theorem dJ6_bitCount_0f7a4_10 : decode cJ6_bitCount_0f7a4 10 = .ok (.iload_n 0, 1) := by decide +kernel
theorem dJ6_bitCount_0f7a4_11 : decode cJ6_bitCount_0f7a4 11 = .ok (.ldc_w 266, 3) := by decide +kernel
theorem dJ6_bitCount_0f7a4_14 : decode cJ6_bitCount_0f7a4 14 = .ok (.iand, 1) := by decide +kernel
theorem dJ6_bitCount_0f7a4_15 : decode cJ6_bitCount_0f7a4 15 = .ok (.iload_n 0, 1) := by decide +kernel
theorem dJ6_bitCount_0f7a4_16 : decode cJ6_bitCount_0f7a4 16 = .ok (.iconst 2, 1) := by decide +kernel
theorem dJ6_bitCount_0f7a4_17 : decode cJ6_bitCount_0f7a4 17 = .ok (.iushr, 1) := by decide +kernel
theorem dJ6_bitCount_0f7a4_18 : decode cJ6_bitCount_0f7a4 18 = .ok (.ldc_w 266, 3) := by decide +kernel
theorem dJ6_bitCount_0f7a4_21 : decode cJ6_bitCount_0f7a4 21 = .ok (.iand, 1) := by decide +kernel
theorem dJ6_bitCount_0f7a4_22 : decode cJ6_bitCount_0f7a4 22 = .ok (.iadd, 1) := by decide +kernel
theorem dJ6_bitCount_0f7a4_23 : decode cJ6_bitCount_0f7a4 23 = .ok (.istore_n 0, 1) := by decide +kernel
theorem dJ6_bitCount_0f7a4_24 : decode cJ6_bitCount_0f7a4 24 = .ok (.iload_n 0, 1) := by decide +kernel
theorem dJ6_bitCount_0f7a4_25 : decode cJ6_bitCount_0f7a4 25 = .ok (.iload_n 0, 1) := by decide +kernel
theorem dJ6_bitCount_0f7a4_26 : decode cJ6_bitCount_0f7a4 26 = .ok (.iconst 4, 1) := by decide +kernel
theorem dJ6_bitCount_0f7a4_27 : decode cJ6_bitCount_0f7a4 27 = .ok (.iushr, 1) := by decide +kernel
theorem dJ6_bitCount_0f7a4_28 : decode cJ6_bitCount_0f7a4 28 = .ok (.iadd, 1) := by decide +kernel
theorem dJ6_bitCount_0f7a4_29 : decode cJ6_bitCount_0f7a4 29 = .ok (.ldc_w 267, 3) := by decide +kernel
theorem dJ6_bitCount_0f7a4_32 : decode cJ6_bitCount_0f7a4 32 = .ok (.iand, 1) := by decide +kernel
theorem dJ6_bitCount_0f7a4_33 : decode cJ6_bitCount_0f7a4 33 = .ok (.istore_n 0, 1) := by decide +kernel
theorem dJ6_bitCount_0f7a4_34 : decode cJ6_bitCount_0f7a4 34 = .ok (.iload_n 0, 1) := by decide +kernel
theorem dJ6_bitCount_0f7a4_35 : decode cJ6_bitCount_0f7a4 35 = .ok (.iload_n 0, 1) := by decide +kernel
theorem dJ6_bitCount_0f7a4_36 : decode cJ6_bitCount_0f7a4 36 = .ok (.bipush 8, 2) := by decide +kernel
theorem dJ6_bitCount_0f7a4_38 : decode cJ6_bitCount_0f7a4 38 = .ok (.iushr, 1) := by decide +kernel
theorem dJ6_bitCount_0f7a4_39 : decode cJ6_bitCount_0f7a4 39 = .ok (.iadd, 1) := by decide +kernel
theorem dJ6_bitCount_0f7a4_40 : decode cJ6_bitCount_0f7a4 40 = .ok (.istore_n 0, 1) := by decide +kernel
theorem dJ6_bitCount_0f7a4_41 : decode cJ6_bitCount_0f7a4 41 = .ok (.iload_n 0, 1) := by decide +kernel
theorem dJ6_bitCount_0f7a4_42 : decode cJ6_bitCount_0f7a4 42 = .ok (.iload_n 0, 1) := by decide +kernel
theorem dJ6_bitCount_0f7a4_43 : decode cJ6_bitCount_0f7a4 43 = .ok (.bipush 16, 2) := by decide +kernel
theorem dJ6_bitCount_0f7a4_45 : decode cJ6_bitCount_0f7a4 45 = .ok (.iushr, 1) := by decide +kernel
theorem dJ6_bitCount_0f7a4_46 : decode cJ6_bitCount_0f7a4 46 = .ok (.iadd, 1) := by decide +kernel
theorem dJ6_bitCount_0f7a4_47 : decode cJ6_bitCount_0f7a4 47 = .ok (.istore_n 0, 1) := by decide +kernel
theorem dJ6_bitCount_0f7a4_48 : decode cJ6_bitCount_0f7a4 48 = .ok (.iload_n 0, 1) := by decide +kernel
theorem dJ6_bitCount_0f7a4_49 : decode cJ6_bitCount_0f7a4 49 = .ok (.bipush 63, 2) := by decide +kernel
theorem dJ6_bitCount_0f7a4_51 : decode cJ6_bitCount_0f7a4 51 = .ok (.iand, 1) := by decide +kernel
theorem dJ6_bitCount_0f7a4_52 : decode cJ6_bitCount_0f7a4 52 = .ok (.ireturn, 1) := by decide +kernel
theorem dJ9_max_7cf53_0 : decode cJ9_max_7cf53 0 = .ok (.iload_n 0, 1) := by decide +kernel
theorem dJ9_max_7cf53_1 : decode cJ9_max_7cf53 1 = .ok (.iload_n 1, 1) := by decide +kernel
theorem dJ9_max_7cf53_2 : decode cJ9_max_7cf53 2 = .ok (.if_icmp .lt 7, 3) := by decide +kernel
theorem dJ9_max_7cf53_5 : decode cJ9_max_7cf53 5 = .ok (.iload_n 0, 1) := by decide +kernel
theorem dJ9_max_7cf53_6 : decode cJ9_max_7cf53 6 = .ok (.goto 4, 3) := by decide +kernel
theorem dJ9_max_7cf53_9 : decode cJ9_max_7cf53 9 = .ok (.iload_n 1, 1) := by decide +kernel
theorem dJ9_max_7cf53_10 : decode cJ9_max_7cf53 10 = .ok (.ireturn, 1) := by decide +kernel
theorem dJ9_min_7cf53_0 : decode cJ9_min_7cf53 0 = .ok (.iload_n 0, 1) := by decide +kernel
theorem dJ9_min_7cf53_1 : decode cJ9_min_7cf53 1 = .ok (.iload_n 1, 1) := by decide +kernel
theorem dJ9_min_7cf53_2 : decode cJ9_min_7cf53 2 = .ok (.if_icmp .gt 7, 3) := by decide +kernel
theorem dJ9_min_7cf53_5 : decode cJ9_min_7cf53 5 = .ok (.iload_n 0, 1) := by decide +kernel
theorem dJ9_min_7cf53_6 : decode cJ9_min_7cf53 6 = .ok (.goto 4, 3) := by decide +kernel
theorem dJ9_min_7cf53_9 : decode cJ9_min_7cf53 9 = .ok (.iload_n 1, 1) := by decide +kernel
theorem dJ9_min_7cf53_10 : decode cJ9_min_7cf53 10 = .ok (.ireturn, 1) := by decide +kernel
