theorem dX6_waits_1 : decode cX6_waits 1 = .ok (.getfield 19, 3) := by decide +kernel
theorem dX6_waits_4 : decode cX6_waits 4 = .ok (.iload_n 1, 1) := by decide +kernel
theorem dX6_waits_5 : decode cX6_waits 5 = .ok (.invokevirtual 116, 3) := by decide +kernel
theorem dX6_waits_8 : decode cX6_waits 8 = .ok (.ifCond .eq 14, 3) := by decide +kernel
theorem dX6_waits_11 : decode cX6_waits 11 = .ok (.aload_n 0, 1) := by decide +kernel
theorem dX6_waits_12 : decode cX6_waits 12 = .ok (.getfield 19, 3) := by decide +kernel
theorem dX6_waits_15 : decode cX6_waits 15 = .ok (.iload_n 2, 1) := by decide +kernel
theorem dX6_waits_16 : decode cX6_waits 16 = .ok (.invokevirtual 99, 3) := by decide +kernel
theorem dX6_waits_19 : decode cX6_waits 19 = .ok (.ifCond .ne 5, 3) := by decide +kernel
theorem dX6_waits_22 : decode cX6_waits 22 = .ok (.iconst (-1), 1) := by decide +kernel
theorem dX6_waits_23 : decode cX6_waits 23 = .ok (.ireturn, 1) := by decide +kernel
theorem dX6_waits_24 : decode cX6_waits 24 = .ok (.iconst 0, 1) := by decide +kernel
theorem dX6_waits_25 : decode cX6_waits 25 = .ok (.istore_n 3, 1) := by decide +kernel
theorem dX6_waits_26 : decode cX6_waits 26 = .ok (.iconst 0, 1) := by decide +kernel
theorem dX6_waits_27 : decode cX6_waits 27 = .ok (.istore 4, 2) := by decide +kernel
theorem dX6_waits_29 : decode cX6_waits 29 = .ok (.iload 4, 2) := by decide +kernel
theorem dX6_waits_31 : decode cX6_waits 31 = .ok (.aload_n 0, 1) := by decide +kernel
theorem dX6_waits_32 : decode cX6_waits 32 = .ok (.getfield 19, 3) := by decide +kernel
theorem dX6_waits_35 : decode cX6_waits 35 = .ok (.iload_n 2, 1) := by decide +kernel
theorem dX6_waits_36 : decode cX6_waits 36 = .ok (.invokevirtual 103, 3) := by decide +kernel
theorem dX6_waits_39 : decode cX6_waits 39 = .ok (.if_icmp .ge 36, 3) := by decide +kernel
theorem dX6_waits_42 : decode cX6_waits 42 = .ok (.aload_n 0, 1) := by decide +kernel
theorem dX6_waits_43 : decode cX6_waits 43 = .ok (.getfield 19, 3) := by decide +kernel
theorem dX6_waits_46 : decode cX6_waits 46 = .ok (.iload_n 2, 1) := by decide +kernel
theorem dX6_waits_47 : decode cX6_waits 47 = .ok (.aload_n 0, 1) := by decide +kernel
theorem dX6_waits_48 : decode cX6_waits 48 = .ok (.getfield 19, 3) := by decide +kernel
theorem dX6_waits_51 : decode cX6_waits 51 = .ok (.iload_n 2, 1) := by decide +kernel
theorem dX6_waits_52 : decode cX6_waits 52 = .ok (.iload 4, 2) := by decide +kernel
theorem dX6_waits_54 : decode cX6_waits 54 = .ok (.invokevirtual 162, 3) := by decide +kernel
theorem dX6_waits_57 : decode cX6_waits 57 = .ok (.invokevirtual 109, 3) := by decide +kernel
theorem dX6_waits_60 : decode cX6_waits 60 = .ok (.iload_n 1, 1) := by decide +kernel
theorem dX6_waits_61 : decode cX6_waits 61 = .ok (.if_icmp .ne 8, 3) := by decide +kernel
theorem dX6_waits_64 : decode cX6_waits 64 = .ok (.iload 4, 2) := by decide +kernel
theorem dX6_waits_66 : decode cX6_waits 66 = .ok (.iconst 1, 1) := by decide +kernel
theorem dX6_waits_67 : decode cX6_waits 67 = .ok (.iadd, 1) := by decide +kernel
theorem dX6_waits_68 : decode cX6_waits 68 = .ok (.istore_n 3, 1) := by decide +kernel
theorem dX6_waits_69 : decode cX6_waits 69 = .ok (.iinc 4 1, 3) := by decide +kernel
theorem dX6_waits_72 : decode cX6_waits 72 = .ok (.goto (-43), 3) := by decide +kernel
theorem dX6_waits_75 : decode cX6_waits 75 = .ok (.iload_n 3, 1) := by decide +kernel
theorem dX6_waits_76 : decode cX6_waits 76 = .ok (.ireturn, 1) := by decide +kernel
set_option maxRecDepth 20000 in
theorem ggX6_route_X4_bestWay : GoodIn wsX6_route wsX4_bestWay := goodIn_r _ [5, 6, 7, 8, 9, 10, 11, 12, 13, 14, 15, 16, 17, 18, 19, 20, 21, 22, 4, 23, 24, 25, 26, 27, 28, 29, 30, 31, 32, 33, 34, 35, 36, 37, 38, 39, 40, 41, 42, 43, 44, 45, 46, 47, 48, 60, 61, 62, 63, 64] (by decide +kernel) (by decide +kernel)
set_option maxRecDepth 20000 in
theorem gX6_route_X4_bestWay : GoodIn wsX6_route (va_wsS RX6 165 yX4_bestWay wsX4_bestWay) := goodIn_app (goodIn_of _ (by decide +kernel)) ggX6_route_X4_bestWay
set_option maxRecDepth 20000 in
theorem ggX6_route_X4_losersBy : GoodIn wsX6_route wsX4_losersBy := goodIn_r _ [23, 24, 25, 26, 9, 27, 28, 29, 30, 31, 15, 32, 33, 34, 35, 36, 37, 7, 8, 10, 11, 12, 13, 14, 16, 17, 18, 19, 20, 38, 39, 40, 41, 42, 43, 44, 45, 46, 47, 48, 60, 61, 62, 63, 64] (by decide +kernel) (by decide +kernel)
set_option maxRecDepth 20000 in
theorem gX6_route_X4_losersBy : GoodIn wsX6_route (va_wsS RX6 171 yX4_losersBy wsX4_losersBy) := goodIn_app (goodIn_of _ (by decide +kernel)) ggX6_route_X4_losersBy
set_option maxRecDepth 20000 in
theorem ggX6_route_X4_figuresOf : GoodIn wsX6_route wsX4_figuresOf := goodIn_r _ [52, 60, 61, 62, 63, 64] (by decide +kernel) (by decide +kernel)
set_option maxRecDepth 20000 in
theorem gX6_route_X4_figuresOf : GoodIn wsX6_route (va_wsS RX6 174 yX4_figuresOf wsX4_figuresOf) := goodIn_app (goodIn_of _ (by decide +kernel)) ggX6_route_X4_figuresOf
theorem dX6_route_0 : decode cX6_route 0 = .ok (.iload_n 1, 1) := by decide +kernel
theorem dX6_route_1 : decode cX6_route 1 = .ok (.iconst 1, 1) := by decide +kernel
theorem dX6_route_2 : decode cX6_route 2 = .ok (.if_icmp .lt 18, 3) := by decide +kernel
theorem dX6_route_5 : decode cX6_route 5 = .ok (.iload_n 1, 1) := by decide +kernel
theorem dX6_route_6 : decode cX6_route 6 = .ok (.bipush 20, 2) := by decide +kernel
theorem dX6_route_8 : decode cX6_route 8 = .ok (.if_icmp .gt 12, 3) := by decide +kernel
theorem dX6_route_11 : decode cX6_route 11 = .ok (.iload_n 2, 1) := by decide +kernel
theorem dX6_route_12 : decode cX6_route 12 = .ok (.ifCond .lt 8, 3) := by decide +kernel
theorem dX6_route_15 : decode cX6_route 15 = .ok (.iload_n 2, 1) := by decide +kernel
theorem dX6_route_16 : decode cX6_route 16 = .ok (.iconst 1, 1) := by decide +kernel
theorem dX6_route_17 : decode cX6_route 17 = .ok (.if_icmp .le 6, 3) := by decide +kernel
theorem dX6_route_20 : decode cX6_route 20 = .ok (.bipush (-2), 2) := by decide +kernel
theorem dX6_route_22 : decode cX6_route 22 = .ok (.ireturn, 1) := by decide +kernel
theorem dX6_route_23 : decode cX6_route 23 = .ok (.aload_n 0, 1) := by decide +kernel
theorem dX6_route_24 : decode cX6_route 24 = .ok (.getfield 19, 3) := by decide +kernel
theorem dX6_route_27 : decode cX6_route 27 = .ok (.iload_n 1, 1) := by decide +kernel
theorem dX6_route_28 : decode cX6_route 28 = .ok (.invokestatic 165, 3) := by decide +kernel
theorem dX6_route_31 : decode cX6_route 31 = .ok (.istore_n 3, 1) := by decide +kernel
theorem dX6_route_32 : decode cX6_route 32 = .ok (.iload_n 3, 1) := by decide +kernel
theorem dX6_route_33 : decode cX6_route 33 = .ok (.bipush (-9), 2) := by decide +kernel
theorem dX6_route_35 : decode cX6_route 35 = .ok (.if_icmp .ne 6, 3) := by decide +kernel
theorem dX6_route_38 : decode cX6_route 38 = .ok (.bipush (-9), 2) := by decide +kernel
theorem dX6_route_40 : decode cX6_route 40 = .ok (.ireturn, 1) := by decide +kernel
theorem dX6_route_41 : decode cX6_route 41 = .ok (.iload_n 2, 1) := by decide +kernel
theorem dX6_route_42 : decode cX6_route 42 = .ok (.ifCond .ne 14, 3) := by decide +kernel
theorem dX6_route_45 : decode cX6_route 45 = .ok (.aload_n 0, 1) := by decide +kernel
theorem dX6_route_46 : decode cX6_route 46 = .ok (.getfield 19, 3) := by decide +kernel
theorem dX6_route_49 : decode cX6_route 49 = .ok (.iload_n 3, 1) := by decide +kernel
theorem dX6_route_50 : decode cX6_route 50 = .ok (.invokestatic 171, 3) := by decide +kernel
theorem dX6_route_53 : decode cX6_route 53 = .ok (.goto 11, 3) := by decide +kernel
theorem dX6_route_56 : decode cX6_route 56 = .ok (.aload_n 0, 1) := by decide +kernel
theorem dX6_route_57 : decode cX6_route 57 = .ok (.getfield 19, 3) := by decide +kernel
theorem dX6_route_60 : decode cX6_route 60 = .ok (.iload_n 3, 1) := by decide +kernel
theorem dX6_route_61 : decode cX6_route 61 = .ok (.invokestatic 174, 3) := by decide +kernel
theorem dX6_route_64 : decode cX6_route 64 = .ok (.ireturn, 1) := by decide +kernel
set_option maxRecDepth 20000 in
theorem ggX6_judge_X0_becomeAll : GoodIn wsX6_judge wsX0_becomeAll := goodIn_r _ [8, 9, 10, 11, 12, 13, 133, 134, 135, 136, 137] (by decide +kernel) (by decide +kernel)
set_option maxRecDepth 20000 in
theorem gX6_judge_X0_becomeAll : GoodIn wsX6_judge (wsV RX6 63 RX0 yX0_becomeAll wsX0_becomeAll) := goodIn_app (goodIn_of _ (by decide +kernel)) ggX6_judge_X0_becomeAll
set_option maxRecDepth 20000 in
theorem ggX6_judge_X0_canDo : GoodIn wsX6_judge wsX0_canDo := goodIn_r _ [17, 18, 19, 20, 7, 21, 9, 22, 23, 24, 25, 11, 26, 27, 28, 29, 30, 31, 32, 33, 34, 35, 36, 37, 13, 38, 39, 40, 41, 42, 43, 44, 45, 46, 47, 48, 49, 50, 51, 52, 53, 54, 55, 56, 57, 58, 59, 60, 61, 62, 63, 64, 65, 10, 66, 67, 68, 69, 70, 71, 72, 73, 74, 75, 76, 77, 12, 78, 79, 80, 81, 82, 83, 84, 85, 86, 87, 88, 89, 90, 91, 92, 93, 94, 95, 96, 97, 98, 99, 100, 101, 102, 103, 104, 105, 106, 107, 108, 109, 110, 111, 112, 113, 114, 115, 116, 117, 118, 119, 120, 121, 122, 123, 124, 125, 133, 134, 135, 136, 137] (by decide +kernel) (by decide +kernel)
set_option maxRecDepth 20000 in
theorem gX6_judge_X0_canDo : GoodIn wsX6_judge (wsV RX6 179 RX0 yX0_canDo wsX0_canDo) := goodIn_app (goodIn_of _ (by decide +kernel)) ggX6_judge_X0_canDo
theorem dX6_judge_0 : decode cX6_judge 0 = .ok (.iload_n 1, 1) := by decide +kernel
theorem dX6_judge_1 : decode cX6_judge 1 = .ok (.iconst 1, 1) := by decide +kernel
theorem dX6_judge_2 : decode cX6_judge 2 = .ok (.if_icmp .lt 14, 3) := by decide +kernel
theorem dX6_judge_5 : decode cX6_judge 5 = .ok (.iload_n 1, 1) := by decide +kernel
theorem dX6_judge_6 : decode cX6_judge 6 = .ok (.iconst 4, 1) := by decide +kernel
theorem dX6_judge_7 : decode cX6_judge 7 = .ok (.if_icmp .gt 9, 3) := by decide +kernel
theorem dX6_judge_10 : decode cX6_judge 10 = .ok (.lload_n 2, 1) := by decide +kernel
theorem dX6_judge_11 : decode cX6_judge 11 = .ok (.lconst 0, 1) := by decide +kernel
theorem dX6_judge_12 : decode cX6_judge 12 = .ok (.lcmp, 1) := by decide +kernel
theorem dX6_judge_13 : decode cX6_judge 13 = .ok (.ifCond .ge 6, 3) := by decide +kernel
theorem dX6_judge_16 : decode cX6_judge 16 = .ok (.bipush (-2), 2) := by decide +kernel
theorem dX6_judge_18 : decode cX6_judge 18 = .ok (.ireturn, 1) := by decide +kernel
theorem dX6_judge_19 : decode cX6_judge 19 = .ok (.lconst 1, 1) := by decide +kernel
theorem dX6_judge_20 : decode cX6_judge 20 = .ok (.lstore 4, 2) := by decide +kernel
theorem dX6_judge_22 : decode cX6_judge 22 = .ok (.iconst 0, 1) := by decide +kernel
theorem dX6_judge_23 : decode cX6_judge 23 = .ok (.istore 6, 2) := by decide +kernel
theorem dX6_judge_25 : decode cX6_judge 25 = .ok (.iload 6, 2) := by decide +kernel
theorem dX6_judge_27 : decode cX6_judge 27 = .ok (.iload_n 1, 1) := by decide +kernel
theorem dX6_judge_28 : decode cX6_judge 28 = .ok (.if_icmp .ge 17, 3) := by decide +kernel
theorem dX6_judge_31 : decode cX6_judge 31 = .ok (.lload 4, 2) := by decide +kernel
theorem dX6_judge_33 : decode cX6_judge 33 = .ok (.ldc2_w 177, 3) := by decide +kernel
theorem dX6_judge_36 : decode cX6_judge 36 = .ok (.lmul, 1) := by decide +kernel
theorem dX6_judge_37 : decode cX6_judge 37 = .ok (.lstore 4, 2) := by decide +kernel
theorem dX6_judge_39 : decode cX6_judge 39 = .ok (.iinc 6 1, 3) := by decide +kernel
theorem dX6_judge_42 : decode cX6_judge 42 = .ok (.goto (-17), 3) := by decide +kernel
theorem dX6_judge_45 : decode cX6_judge 45 = .ok (.lload_n 2, 1) := by decide +kernel
theorem dX6_judge_46 : decode cX6_judge 46 = .ok (.lload 4, 2) := by decide +kernel
theorem dX6_judge_48 : decode cX6_judge 48 = .ok (.lcmp, 1) := by decide +kernel
theorem dX6_judge_49 : decode cX6_judge 49 = .ok (.ifCond .lt 6, 3) := by decide +kernel
theorem dX6_judge_52 : decode cX6_judge 52 = .ok (.bipush (-2), 2) := by decide +kernel
theorem dX6_judge_54 : decode cX6_judge 54 = .ok (.ireturn, 1) := by decide +kernel
theorem dX6_judge_55 : decode cX6_judge 55 = .ok (.aload_n 0, 1) := by decide +kernel
theorem dX6_judge_56 : decode cX6_judge 56 = .ok (.getfield 23, 3) := by decide +kernel
theorem dX6_judge_59 : decode cX6_judge 59 = .ok (.aload_n 0, 1) := by decide +kernel
theorem dX6_judge_60 : decode cX6_judge 60 = .ok (.getfield 19, 3) := by decide +kernel
theorem dX6_judge_63 : decode cX6_judge 63 = .ok (.invokevirtual 63, 3) := by decide +kernel
theorem dX6_judge_66 : decode cX6_judge 66 = .ok (.iconst 0, 1) := by decide +kernel
theorem dX6_judge_67 : decode cX6_judge 67 = .ok (.istore 6, 2) := by decide +kernel
theorem dX6_judge_69 : decode cX6_judge 69 = .ok (.iload 6, 2) := by decide +kernel
theorem dX6_judge_71 : decode cX6_judge 71 = .ok (.iload_n 1, 1) := by decide +kernel
theorem dX6_judge_72 : decode cX6_judge 72 = .ok (.if_icmp .ge 70, 3) := by decide +kernel
theorem dX6_judge_75 : decode cX6_judge 75 = .ok (.lload 4, 2) := by decide +kernel
theorem dX6_judge_77 : decode cX6_judge 77 = .ok (.ldc2_w 177, 3) := by decide +kernel
theorem dX6_judge_80 : decode cX6_judge 80 = .ok (.ldiv, 1) := by decide +kernel
theorem dX6_judge_81 : decode cX6_judge 81 = .ok (.lstore 4, 2) := by decide +kernel
theorem dX6_judge_83 : decode cX6_judge 83 = .ok (.lload 4, 2) := by decide +kernel
theorem dX6_judge_85 : decode cX6_judge 85 = .ok (.lconst 0, 1) := by decide +kernel
theorem dX6_judge_86 : decode cX6_judge 86 = .ok (.lcmp, 1) := by decide +kernel
theorem dX6_judge_87 : decode cX6_judge 87 = .ok (.ifCond .le 15, 3) := by decide +kernel
theorem dX6_judge_90 : decode cX6_judge 90 = .ok (.lload_n 2, 1) := by decide +kernel
theorem dX6_judge_91 : decode cX6_judge 91 = .ok (.lload 4, 2) := by decide +kernel
theorem dX6_judge_93 : decode cX6_judge 93 = .ok (.ldiv, 1) := by decide +kernel
theorem dX6_judge_94 : decode cX6_judge 94 = .ok (.ldc2_w 177, 3) := by decide +kernel
theorem dX6_judge_97 : decode cX6_judge 97 = .ok (.lrem, 1) := by decide +kernel
theorem dX6_judge_98 : decode cX6_judge 98 = .ok (.l2i, 1) := by decide +kernel
theorem dX6_judge_99 : decode cX6_judge 99 = .ok (.goto 4, 3) := by decide +kernel
theorem dX6_judge_102 : decode cX6_judge 102 = .ok (.iconst 0, 1) := by decide +kernel
theorem dX6_judge_103 : decode cX6_judge 103 = .ok (.istore 7, 2) := by decide +kernel
theorem dX6_judge_105 : decode cX6_judge 105 = .ok (.aload_n 0, 1) := by decide +kernel
theorem dX6_judge_106 : decode cX6_judge 106 = .ok (.getfield 23, 3) := by decide +kernel
theorem dX6_judge_109 : decode cX6_judge 109 = .ok (.iload 7, 2) := by decide +kernel
theorem dX6_judge_111 : decode cX6_judge 111 = .ok (.bipush 100, 2) := by decide +kernel
theorem dX6_judge_113 : decode cX6_judge 113 = .ok (.idiv, 1) := by decide +kernel
theorem dX6_judge_114 : decode cX6_judge 114 = .ok (.iload 7, 2) := by decide +kernel
theorem dX6_judge_116 : decode cX6_judge 116 = .ok (.bipush 10, 2) := by decide +kernel
theorem dX6_judge_118 : decode cX6_judge 118 = .ok (.idiv, 1) := by decide +kernel
theorem dX6_judge_119 : decode cX6_judge 119 = .ok (.bipush 10, 2) := by decide +kernel
theorem dX6_judge_121 : decode cX6_judge 121 = .ok (.irem, 1) := by decide +kernel
theorem dX6_judge_122 : decode cX6_judge 122 = .ok (.iload 7, 2) := by decide +kernel
theorem dX6_judge_124 : decode cX6_judge 124 = .ok (.bipush 10, 2) := by decide +kernel
theorem dX6_judge_126 : decode cX6_judge 126 = .ok (.irem, 1) := by decide +kernel
theorem dX6_judge_127 : decode cX6_judge 127 = .ok (.invokevirtual 179, 3) := by decide +kernel
theorem dX6_judge_130 : decode cX6_judge 130 = .ok (.ifCond .ne 6, 3) := by decide +kernel
theorem dX6_judge_133 : decode cX6_judge 133 = .ok (.iload 6, 2) := by decide +kernel
theorem dX6_judge_135 : decode cX6_judge 135 = .ok (.ireturn, 1) := by decide +kernel
theorem dX6_judge_136 : decode cX6_judge 136 = .ok (.iinc 6 1, 3) := by decide +kernel
theorem dX6_judge_139 : decode cX6_judge 139 = .ok (.goto (-70), 3) := by decide +kernel
theorem dX6_judge_142 : decode cX6_judge 142 = .ok (.bipush (-9), 2) := by decide +kernel
theorem dX6_judge_144 : decode cX6_judge 144 = .ok (.ireturn, 1) := by decide +kernel
set_option maxRecDepth 20000 in
theorem ggX6_share_X0_isMan : GoodIn wsX6_share wsX0_isMan := goodIn_r _ [6, 7, 60, 61, 62, 63, 64] (by decide +kernel) (by decide +kernel)
set_option maxRecDepth 20000 in
theorem gX6_share_X0_isMan : GoodIn wsX6_share (wsV RX6 116 RX0 yX0_isMan wsX0_isMan) := goodIn_app (goodIn_of _ (by decide +kernel)) ggX6_share_X0_isMan
set_option maxRecDepth 20000 in
theorem ggX6_share_X4_shareOf : GoodIn wsX6_share wsX4_shareOf := goodIn_r _ [11, 12, 13, 14, 5, 15, 16, 17, 18, 19, 20, 21, 22, 23, 24, 25, 26, 27, 28, 29, 30, 31, 32, 33, 34, 35, 36, 37, 38, 39, 40, 41, 42, 43, 44, 45, 46, 47, 10, 48, 49, 50, 51, 52, 60, 61, 62, 63, 64] (by decide +kernel) (by decide +kernel)
set_option maxRecDepth 20000 in
theorem gX6_share_X4_shareOf : GoodIn wsX6_share (va_wsS RX6 183 yX4_shareOf wsX4_shareOf) := goodIn_app (goodIn_of _ (by decide +kernel)) ggX6_share_X4_shareOf
theorem dX6_share_0 : decode cX6_share 0 = .ok (.aload_n 0, 1) := by decide +kernel
theorem dX6_share_1 : decode cX6_share 1 = .ok (.getfield 19, 3) := by decide +kernel
theorem dX6_share_4 : decode cX6_share 4 = .ok (.iload_n 1, 1) := by decide +kernel
theorem dX6_share_5 : decode cX6_share 5 = .ok (.invokevirtual 116, 3) := by decide +kernel
theorem dX6_share_8 : decode cX6_share 8 = .ok (.ifCond .eq 15, 3) := by decide +kernel
theorem dX6_share_11 : decode cX6_share 11 = .ok (.aload_n 0, 1) := by decide +kernel
theorem dX6_share_12 : decode cX6_share 12 = .ok (.getfield 19, 3) := by decide +kernel
theorem dX6_share_15 : decode cX6_share 15 = .ok (.iload_n 1, 1) := by decide +kernel
theorem dX6_share_16 : decode cX6_share 16 = .ok (.iload_n 2, 1) := by decide +kernel
theorem dX6_share_17 : decode cX6_share 17 = .ok (.invokestatic 183, 3) := by decide +kernel
theorem dX6_share_20 : decode cX6_share 20 = .ok (.goto 4, 3) := by decide +kernel
theorem dX6_share_23 : decode cX6_share 23 = .ok (.iconst (-1), 1) := by decide +kernel
theorem dX6_share_24 : decode cX6_share 24 = .ok (.ireturn, 1) := by decide +kernel
set_option maxRecDepth 20000 in
theorem ggX6_feel_X0_isMan : GoodIn wsX6_feel wsX0_isMan := goodIn_r _ [7, 8, 31, 32, 33, 34, 35] (by decide +kernel) (by decide +kernel)
set_option maxRecDepth 20000 in
theorem gX6_feel_X0_isMan : GoodIn wsX6_feel (wsV RX6 116 RX0 yX0_isMan wsX0_isMan) := goodIn_app (goodIn_of _ (by decide +kernel)) ggX6_feel_X0_isMan
set_option maxRecDepth 20000 in
theorem ggX6_feel_X0_isBag : GoodIn wsX6_feel wsX0_isBag := goodIn_r _ [12, 13, 31, 32, 33, 34, 35] (by decide +kernel) (by decide +kernel)
set_option maxRecDepth 20000 in
theorem gX6_feel_X0_isBag : GoodIn wsX6_feel (wsV RX6 99 RX0 yX0_isBag wsX0_isBag) := goodIn_app (goodIn_of _ (by decide +kernel)) ggX6_feel_X0_isBag
set_option maxRecDepth 20000 in
theorem ggX6_feel_X1_add : GoodIn wsX6_feel wsX1_add := goodIn_r _ [18, 19, 20, 21, 22, 23, 36, 37, 38, 39, 40] (by decide +kernel) (by decide +kernel)
set_option maxRecDepth 20000 in
theorem gX6_feel_X1_add : GoodIn wsX6_feel (wsV RX6 187 RX1 yX1_add wsX1_add) := goodIn_app (goodIn_of _ (by decide +kernel)) ggX6_feel_X1_add
theorem dX6_feel_0 : decode cX6_feel 0 = .ok (.aload_n 0, 1) := by decide +kernel
theorem dX6_feel_1 : decode cX6_feel 1 = .ok (.getfield 19, 3) := by decide +kernel
theorem dX6_feel_4 : decode cX6_feel 4 = .ok (.iload_n 1, 1) := by decide +kernel
theorem dX6_feel_5 : decode cX6_feel 5 = .ok (.invokevirtual 116, 3) := by decide +kernel
theorem dX6_feel_8 : decode cX6_feel 8 = .ok (.ifCond .eq 14, 3) := by decide +kernel
theorem dX6_feel_11 : decode cX6_feel 11 = .ok (.aload_n 0, 1) := by decide +kernel
theorem dX6_feel_12 : decode cX6_feel 12 = .ok (.getfield 19, 3) := by decide +kernel
theorem dX6_feel_15 : decode cX6_feel 15 = .ok (.iload_n 2, 1) := by decide +kernel
theorem dX6_feel_16 : decode cX6_feel 16 = .ok (.invokevirtual 99, 3) := by decide +kernel
theorem dX6_feel_19 : decode cX6_feel 19 = .ok (.ifCond .ne 5, 3) := by decide +kernel
theorem dX6_feel_22 : decode cX6_feel 22 = .ok (.iconst (-1), 1) := by decide +kernel
theorem dX6_feel_23 : decode cX6_feel 23 = .ok (.ireturn, 1) := by decide +kernel
theorem dX6_feel_24 : decode cX6_feel 24 = .ok (.iload_n 3, 1) := by decide +kernel
theorem dX6_feel_25 : decode cX6_feel 25 = .ok (.iconst 1, 1) := by decide +kernel
theorem dX6_feel_26 : decode cX6_feel 26 = .ok (.if_icmp .lt 20, 3) := by decide +kernel
theorem dX6_feel_29 : decode cX6_feel 29 = .ok (.iload_n 3, 1) := by decide +kernel
theorem dX6_feel_30 : decode cX6_feel 30 = .ok (.bipush 9, 2) := by decide +kernel
theorem dX6_feel_32 : decode cX6_feel 32 = .ok (.if_icmp .gt 14, 3) := by decide +kernel
theorem dX6_feel_35 : decode cX6_feel 35 = .ok (.iload 4, 2) := by decide +kernel
theorem dX6_feel_37 : decode cX6_feel 37 = .ok (.ifCond .lt 9, 3) := by decide +kernel
theorem dX6_feel_40 : decode cX6_feel 40 = .ok (.iload 4, 2) := by decide +kernel
theorem dX6_feel_42 : decode cX6_feel 42 = .ok (.iconst 1, 1) := by decide +kernel
theorem dX6_feel_43 : decode cX6_feel 43 = .ok (.if_icmp .le 6, 3) := by decide +kernel
theorem dX6_feel_46 : decode cX6_feel 46 = .ok (.bipush (-2), 2) := by decide +kernel
theorem dX6_feel_48 : decode cX6_feel 48 = .ok (.ireturn, 1) := by decide +kernel
theorem dX6_feel_49 : decode cX6_feel 49 = .ok (.aload_n 0, 1) := by decide +kernel
theorem dX6_feel_50 : decode cX6_feel 50 = .ok (.getfield 43, 3) := by decide +kernel
theorem dX6_feel_53 : decode cX6_feel 53 = .ok (.iload_n 1, 1) := by decide +kernel
theorem dX6_feel_54 : decode cX6_feel 54 = .ok (.iload_n 2, 1) := by decide +kernel
theorem dX6_feel_55 : decode cX6_feel 55 = .ok (.iload_n 3, 1) := by decide +kernel
theorem dX6_feel_56 : decode cX6_feel 56 = .ok (.iload 4, 2) := by decide +kernel
theorem dX6_feel_58 : decode cX6_feel 58 = .ok (.invokevirtual 187, 3) := by decide +kernel
theorem dX6_feel_61 : decode cX6_feel 61 = .ok (.ireturn, 1) := by decide +kernel
set_option maxRecDepth 20000 in
theorem ggX6_unfeel_X1_clear : GoodIn wsX6_unfeel wsX1_clear := goodIn_r _ [6, 7, 15, 16, 17, 18, 19] (by decide +kernel) (by decide +kernel)
set_option maxRecDepth 20000 in
theorem gX6_unfeel_X1_clear : GoodIn wsX6_unfeel (wsV RX6 190 RX1 yX1_clear wsX1_clear) := goodIn_app (goodIn_of _ (by decide +kernel)) ggX6_unfeel_X1_clear
theorem dX6_unfeel_0 : decode cX6_unfeel 0 = .ok (.aload_n 0, 1) := by decide +kernel
theorem dX6_unfeel_1 : decode cX6_unfeel 1 = .ok (.getfield 43, 3) := by decide +kernel
theorem dX6_unfeel_4 : decode cX6_unfeel 4 = .ok (.invokevirtual 190, 3) := by decide +kernel
theorem dX6_unfeel_7 : decode cX6_unfeel 7 = .ok (.ireturn, 1) := by decide +kernel
set_option maxRecDepth 20000 in
theorem ggX6_which_X1_fits : GoodIn wsX6_which wsX1_fits := goodIn_r _ [7, 8, 9, 10, 11, 12, 13, 14, 15, 16, 17, 18, 19, 20, 21, 22, 23, 24, 25, 26, 27, 28, 29, 30, 31, 32, 33, 34, 35, 36, 37, 38, 39, 40, 41, 49, 50, 51, 52, 53, 54, 55, 56, 57, 58] (by decide +kernel) (by decide +kernel)
set_option maxRecDepth 20000 in
theorem gX6_which_X1_fits : GoodIn wsX6_which (wsV RX6 191 RX1 yX1_fits wsX1_fits) := goodIn_app (goodIn_of _ (by decide +kernel)) ggX6_which_X1_fits
theorem dX6_which_0 : decode cX6_which 0 = .ok (.iload_n 1, 1) := by decide +kernel
theorem dX6_which_1 : decode cX6_which 1 = .ok (.ifCond .lt 8, 3) := by decide +kernel
theorem dX6_which_4 : decode cX6_which 4 = .ok (.iload_n 1, 1) := by decide +kernel
theorem dX6_which_5 : decode cX6_which 5 = .ok (.iconst 1, 1) := by decide +kernel
theorem dX6_which_6 : decode cX6_which 6 = .ok (.if_icmp .le 6, 3) := by decide +kernel
theorem dX6_which_9 : decode cX6_which 9 = .ok (.bipush (-2), 2) := by decide +kernel
theorem dX6_which_11 : decode cX6_which 11 = .ok (.ireturn, 1) := by decide +kernel
theorem dX6_which_12 : decode cX6_which 12 = .ok (.iconst 0, 1) := by decide +kernel
theorem dX6_which_13 : decode cX6_which 13 = .ok (.istore_n 2, 1) := by decide +kernel
theorem dX6_which_14 : decode cX6_which 14 = .ok (.bipush (-9), 2) := by decide +kernel
theorem dX6_which_16 : decode cX6_which 16 = .ok (.istore_n 3, 1) := by decide +kernel
theorem dX6_which_17 : decode cX6_which 17 = .ok (.iconst 0, 1) := by decide +kernel
theorem dX6_which_18 : decode cX6_which 18 = .ok (.istore 4, 2) := by decide +kernel
theorem dX6_which_20 : decode cX6_which 20 = .ok (.iload 4, 2) := by decide +kernel
theorem dX6_which_22 : decode cX6_which 22 = .ok (.iconst 3, 1) := by decide +kernel
theorem dX6_which_23 : decode cX6_which 23 = .ok (.if_icmp .gt 65, 3) := by decide +kernel
theorem dX6_which_26 : decode cX6_which 26 = .ok (.iconst 0, 1) := by decide +kernel
theorem dX6_which_27 : decode cX6_which 27 = .ok (.istore 5, 2) := by decide +kernel
theorem dX6_which_29 : decode cX6_which 29 = .ok (.iload 5, 2) := by decide +kernel
theorem dX6_which_31 : decode cX6_which 31 = .ok (.bipush 9, 2) := by decide +kernel
theorem dX6_which_33 : decode cX6_which 33 = .ok (.if_icmp .gt 49, 3) := by decide +kernel
theorem dX6_which_36 : decode cX6_which 36 = .ok (.aload_n 0, 1) := by decide +kernel
theorem dX6_which_37 : decode cX6_which 37 = .ok (.getfield 43, 3) := by decide +kernel
theorem dX6_which_40 : decode cX6_which 40 = .ok (.aload_n 0, 1) := by decide +kernel
theorem dX6_which_41 : decode cX6_which 41 = .ok (.getfield 19, 3) := by decide +kernel
theorem dX6_which_44 : decode cX6_which 44 = .ok (.iload 4, 2) := by decide +kernel
theorem dX6_which_46 : decode cX6_which 46 = .ok (.iload 5, 2) := by decide +kernel
theorem dX6_which_48 : decode cX6_which 48 = .ok (.invokevirtual 191, 3) := by decide +kernel
theorem dX6_which_51 : decode cX6_which 51 = .ok (.ifCond .eq 25, 3) := by decide +kernel
theorem dX6_which_54 : decode cX6_which 54 = .ok (.iinc 2 1, 3) := by decide +kernel
theorem dX6_which_57 : decode cX6_which 57 = .ok (.iload_n 3, 1) := by decide +kernel
theorem dX6_which_58 : decode cX6_which 58 = .ok (.bipush (-9), 2) := by decide +kernel
theorem dX6_which_60 : decode cX6_which 60 = .ok (.if_icmp .ne 14, 3) := by decide +kernel
theorem dX6_which_63 : decode cX6_which 63 = .ok (.bipush 10, 2) := by decide +kernel
theorem dX6_which_65 : decode cX6_which 65 = .ok (.iload 4, 2) := by decide +kernel
theorem dX6_which_67 : decode cX6_which 67 = .ok (.imul, 1) := by decide +kernel
theorem dX6_which_68 : decode cX6_which 68 = .ok (.iload 5, 2) := by decide +kernel
theorem dX6_which_70 : decode cX6_which 70 = .ok (.iadd, 1) := by decide +kernel
theorem dX6_which_71 : decode cX6_which 71 = .ok (.goto 4, 3) := by decide +kernel
theorem dX6_which_74 : decode cX6_which 74 = .ok (.iload_n 3, 1) := by decide +kernel
theorem dX6_which_75 : decode cX6_which 75 = .ok (.istore_n 3, 1) := by decide +kernel
theorem dX6_which_76 : decode cX6_which 76 = .ok (.iinc 5 1, 3) := by decide +kernel
theorem dX6_which_79 : decode cX6_which 79 = .ok (.goto (-50), 3) := by decide +kernel
theorem dX6_which_82 : decode cX6_which 82 = .ok (.iinc 4 1, 3) := by decide +kernel
theorem dX6_which_85 : decode cX6_which 85 = .ok (.goto (-65), 3) := by decide +kernel
theorem dX6_which_88 : decode cX6_which 88 = .ok (.iload_n 1, 1) := by decide +kernel
theorem dX6_which_89 : decode cX6_which 89 = .ok (.ifCond .ne 7, 3) := by decide +kernel
theorem dX6_which_92 : decode cX6_which 92 = .ok (.iload_n 2, 1) := by decide +kernel
theorem dX6_which_93 : decode cX6_which 93 = .ok (.goto 4, 3) := by decide +kernel
theorem dX6_which_96 : decode cX6_which 96 = .ok (.iload_n 3, 1) := by decide +kernel
theorem dX6_which_97 : decode cX6_which 97 = .ok (.ireturn, 1) := by decide +kernel
set_option maxRecDepth 20000 in
theorem ggX6_rests_X0_isMan : GoodIn wsX6_rests wsX0_isMan := goodIn_r _ [6, 7, 100, 101, 102, 103, 104] (by decide +kernel) (by decide +kernel)
set_option maxRecDepth 20000 in
theorem gX6_rests_X0_isMan : GoodIn wsX6_rests (wsV RX6 116 RX0 yX0_isMan wsX0_isMan) := goodIn_app (goodIn_of _ (by decide +kernel)) ggX6_rests_X0_isMan
set_option maxRecDepth 20000 in
theorem ggX6_rests_X0_isBag : GoodIn wsX6_rests wsX0_isBag := goodIn_r _ [11, 12, 100, 101, 102, 103, 104] (by decide +kernel) (by decide +kernel)
set_option maxRecDepth 20000 in
theorem gX6_rests_X0_isBag : GoodIn wsX6_rests (wsV RX6 99 RX0 yX0_isBag wsX0_isBag) := goodIn_app (goodIn_of _ (by decide +kernel)) ggX6_rests_X0_isBag
set_option maxRecDepth 20000 in
theorem ggX6_rests_X6_isRest : GoodIn wsX6_rests wsX6_isRest := goodIn_r _ [17, 18, 19, 20, 16, 21, 22, 1, 23, 24, 25, 5, 26, 12, 7, 27, 28, 29, 30, 31, 32, 33, 34, 35, 36, 37, 38, 3, 4, 6, 39, 9, 10, 11, 40, 41, 42, 43, 44, 45, 46, 47, 48, 49, 50, 51, 52, 53, 54, 55, 56, 57, 58, 59, 60, 61, 62, 63, 64, 65, 66, 67, 68, 69, 70, 71, 72, 73, 74, 75, 76, 77, 78, 79, 80, 81, 82, 83, 84, 85, 86, 87, 88, 89, 90, 91, 92, 93, 94, 95, 96, 97, 98, 99, 100, 101, 102, 103, 104] (by decide +kernel) (by decide +kernel)
set_option maxRecDepth 20000 in
theorem gX6_rests_X6_isRest : GoodIn wsX6_rests (wsV RX6 195 RX6 yX6_isRest wsX6_isRest) := goodIn_app (goodIn_of _ (by decide +kernel)) ggX6_rests_X6_isRest
theorem dX6_rests_0 : decode cX6_rests 0 = .ok (.aload_n 0, 1) := by decide +kernel
theorem dX6_rests_1 : decode cX6_rests 1 = .ok (.getfield 19, 3) := by decide +kernel
theorem dX6_rests_4 : decode cX6_rests 4 = .ok (.iload_n 1, 1) := by decide +kernel
theorem dX6_rests_5 : decode cX6_rests 5 = .ok (.invokevirtual 116, 3) := by decide +kernel
theorem dX6_rests_8 : decode cX6_rests 8 = .ok (.ifCond .eq 25, 3) := by decide +kernel
theorem dX6_rests_11 : decode cX6_rests 11 = .ok (.aload_n 0, 1) := by decide +kernel
theorem dX6_rests_12 : decode cX6_rests 12 = .ok (.getfield 19, 3) := by decide +kernel
theorem dX6_rests_15 : decode cX6_rests 15 = .ok (.iload_n 2, 1) := by decide +kernel
theorem dX6_rests_16 : decode cX6_rests 16 = .ok (.invokevirtual 116, 3) := by decide +kernel
theorem dX6_rests_19 : decode cX6_rests 19 = .ok (.ifCond .eq 14, 3) := by decide +kernel
theorem dX6_rests_22 : decode cX6_rests 22 = .ok (.aload_n 0, 1) := by decide +kernel
theorem dX6_rests_23 : decode cX6_rests 23 = .ok (.getfield 19, 3) := by decide +kernel
theorem dX6_rests_26 : decode cX6_rests 26 = .ok (.iload_n 3, 1) := by decide +kernel
theorem dX6_rests_27 : decode cX6_rests 27 = .ok (.invokevirtual 99, 3) := by decide +kernel
theorem dX6_rests_30 : decode cX6_rests 30 = .ok (.ifCond .ne 5, 3) := by decide +kernel
theorem dX6_rests_33 : decode cX6_rests 33 = .ok (.iconst (-1), 1) := by decide +kernel
theorem dX6_rests_34 : decode cX6_rests 34 = .ok (.ireturn, 1) := by decide +kernel
theorem dX6_rests_35 : decode cX6_rests 35 = .ok (.iload_n 1, 1) := by decide +kernel
theorem dX6_rests_36 : decode cX6_rests 36 = .ok (.iload_n 2, 1) := by decide +kernel
theorem dX6_rests_37 : decode cX6_rests 37 = .ok (.if_icmp .eq 14, 3) := by decide +kernel
theorem dX6_rests_40 : decode cX6_rests 40 = .ok (.iload 4, 2) := by decide +kernel
theorem dX6_rests_42 : decode cX6_rests 42 = .ok (.ifCond .lt 9, 3) := by decide +kernel
theorem dX6_rests_45 : decode cX6_rests 45 = .ok (.iload 4, 2) := by decide +kernel
theorem dX6_rests_47 : decode cX6_rests 47 = .ok (.iconst 1, 1) := by decide +kernel
theorem dX6_rests_48 : decode cX6_rests 48 = .ok (.if_icmp .le 6, 3) := by decide +kernel
theorem dX6_rests_51 : decode cX6_rests 51 = .ok (.bipush (-2), 2) := by decide +kernel
theorem dX6_rests_53 : decode cX6_rests 53 = .ok (.ireturn, 1) := by decide +kernel
theorem dX6_rests_54 : decode cX6_rests 54 = .ok (.iconst 0, 1) := by decide +kernel
theorem dX6_rests_55 : decode cX6_rests 55 = .ok (.istore 5, 2) := by decide +kernel
theorem dX6_rests_57 : decode cX6_rests 57 = .ok (.bipush (-9), 2) := by decide +kernel
theorem dX6_rests_59 : decode cX6_rests 59 = .ok (.istore 6, 2) := by decide +kernel
theorem dX6_rests_61 : decode cX6_rests 61 = .ok (.iconst 0, 1) := by decide +kernel
theorem dX6_rests_62 : decode cX6_rests 62 = .ok (.istore 7, 2) := by decide +kernel
theorem dX6_rests_64 : decode cX6_rests 64 = .ok (.iload 7, 2) := by decide +kernel
theorem dX6_rests_66 : decode cX6_rests 66 = .ok (.iconst 4, 1) := by decide +kernel
theorem dX6_rests_67 : decode cX6_rests 67 = .ok (.if_icmp .ge 50, 3) := by decide +kernel
theorem dX6_rests_70 : decode cX6_rests 70 = .ok (.aload_n 0, 1) := by decide +kernel
theorem dX6_rests_71 : decode cX6_rests 71 = .ok (.iload_n 1, 1) := by decide +kernel
theorem dX6_rests_72 : decode cX6_rests 72 = .ok (.iload_n 2, 1) := by decide +kernel
theorem dX6_rests_73 : decode cX6_rests 73 = .ok (.iload_n 3, 1) := by decide +kernel
theorem dX6_rests_74 : decode cX6_rests 74 = .ok (.iload 7, 2) := by decide +kernel
theorem dX6_rests_76 : decode cX6_rests 76 = .ok (.invokevirtual 195, 3) := by decide +kernel
theorem dX6_rests_79 : decode cX6_rests 79 = .ok (.ifCond .eq 32, 3) := by decide +kernel
theorem dX6_rests_82 : decode cX6_rests 82 = .ok (.iinc 5 1, 3) := by decide +kernel
theorem dX6_rests_85 : decode cX6_rests 85 = .ok (.iload 6, 2) := by decide +kernel
theorem dX6_rests_87 : decode cX6_rests 87 = .ok (.bipush (-9), 2) := by decide +kernel
theorem dX6_rests_89 : decode cX6_rests 89 = .ok (.if_icmp .ne 18, 3) := by decide +kernel
theorem dX6_rests_92 : decode cX6_rests 92 = .ok (.bipush 10, 2) := by decide +kernel
theorem dX6_rests_94 : decode cX6_rests 94 = .ok (.iload 7, 2) := by decide +kernel
theorem dX6_rests_96 : decode cX6_rests 96 = .ok (.iconst 2, 1) := by decide +kernel
theorem dX6_rests_97 : decode cX6_rests 97 = .ok (.idiv, 1) := by decide +kernel
theorem dX6_rests_98 : decode cX6_rests 98 = .ok (.imul, 1) := by decide +kernel
theorem dX6_rests_99 : decode cX6_rests 99 = .ok (.iload 7, 2) := by decide +kernel
theorem dX6_rests_101 : decode cX6_rests 101 = .ok (.iconst 2, 1) := by decide +kernel
theorem dX6_rests_102 : decode cX6_rests 102 = .ok (.irem, 1) := by decide +kernel
theorem dX6_rests_103 : decode cX6_rests 103 = .ok (.iadd, 1) := by decide +kernel
theorem dX6_rests_104 : decode cX6_rests 104 = .ok (.goto 5, 3) := by decide +kernel
theorem dX6_rests_107 : decode cX6_rests 107 = .ok (.iload 6, 2) := by decide +kernel
theorem dX6_rests_109 : decode cX6_rests 109 = .ok (.istore 6, 2) := by decide +kernel
theorem dX6_rests_111 : decode cX6_rests 111 = .ok (.iinc 7 1, 3) := by decide +kernel
theorem dX6_rests_114 : decode cX6_rests 114 = .ok (.goto (-50), 3) := by decide +kernel
theorem dX6_rests_117 : decode cX6_rests 117 = .ok (.iload 4, 2) := by decide +kernel
theorem dX6_rests_119 : decode cX6_rests 119 = .ok (.ifCond .ne 8, 3) := by decide +kernel
theorem dX6_rests_122 : decode cX6_rests 122 = .ok (.iload 5, 2) := by decide +kernel
theorem dX6_rests_124 : decode cX6_rests 124 = .ok (.goto 5, 3) := by decide +kernel
theorem dX6_rests_127 : decode cX6_rests 127 = .ok (.iload 6, 2) := by decide +kernel
theorem dX6_rests_129 : decode cX6_rests 129 = .ok (.ireturn, 1) := by decide +kernel
set_option maxRecDepth 20000 in
theorem ggX6_isRest_X6_tryClaims : GoodIn wsX6_isRest wsX6_tryClaims := goodIn_r _ [5, 6, 7, 8, 9, 10, 11, 12, 13, 14, 15, 16, 17, 18, 19, 20, 21, 22, 23, 24, 25, 26, 27, 28, 29, 30, 31, 32, 33, 34, 35, 36, 37, 38, 39, 40, 41, 42, 43, 44, 45, 46, 47, 48, 49, 50, 51, 52, 53, 54, 55, 56, 57, 58, 59, 60, 61, 62, 63, 64, 65, 66, 67, 68, 69, 70, 71, 72, 73, 74, 75, 76, 77, 87, 88, 89, 90, 91, 92, 93, 94, 95, 96, 97, 98] (by decide +kernel) (by decide +kernel)
set_option maxRecDepth 20000 in
theorem gX6_isRest_X6_tryClaims : GoodIn wsX6_isRest (wsV RX6 199 RX6 yX6_tryClaims wsX6_tryClaims) := goodIn_app (goodIn_of _ (by decide +kernel)) ggX6_isRest_X6_tryClaims
set_option maxRecDepth 20000 in
theorem ggX6_isRest_X6_gainOf : GoodIn wsX6_isRest wsX6_gainOf := goodIn_r _ [81, 7, 6, 82, 83, 84, 11, 85, 50, 51, 52, 53, 30, 31, 32, 33, 13, 42, 43, 44, 45, 17, 58, 59, 60, 61, 86, 87, 88, 89, 90, 91, 92, 93, 94, 95, 96, 97, 98] (by decide +kernel) (by decide +kernel)
set_option maxRecDepth 20000 in
theorem gX6_isRest_X6_gainOf : GoodIn wsX6_isRest (wsV RX6 203 RX6 yX6_gainOf wsX6_gainOf) := goodIn_app (goodIn_of _ (by decide +kernel)) ggX6_isRest_X6_gainOf
theorem dX6_isRest_0 : decode cX6_isRest 0 = .ok (.aload_n 0, 1) := by decide +kernel
theorem dX6_isRest_1 : decode cX6_isRest 1 = .ok (.iload_n 1, 1) := by decide +kernel
theorem dX6_isRest_2 : decode cX6_isRest 2 = .ok (.iload_n 2, 1) := by decide +kernel
theorem dX6_isRest_3 : decode cX6_isRest 3 = .ok (.iload_n 3, 1) := by decide +kernel
theorem dX6_isRest_4 : decode cX6_isRest 4 = .ok (.iload 4, 2) := by decide +kernel
theorem dX6_isRest_6 : decode cX6_isRest 6 = .ok (.iconst 2, 1) := by decide +kernel
theorem dX6_isRest_7 : decode cX6_isRest 7 = .ok (.ixor, 1) := by decide +kernel
theorem dX6_isRest_8 : decode cX6_isRest 8 = .ok (.invokevirtual 199, 3) := by decide +kernel
theorem dX6_isRest_11 : decode cX6_isRest 11 = .ok (.aload_n 0, 1) := by decide +kernel
theorem dX6_isRest_12 : decode cX6_isRest 12 = .ok (.iload_n 1, 1) := by decide +kernel
theorem dX6_isRest_13 : decode cX6_isRest 13 = .ok (.iload_n 3, 1) := by decide +kernel
theorem dX6_isRest_14 : decode cX6_isRest 14 = .ok (.invokevirtual 203, 3) := by decide +kernel
theorem dX6_isRest_17 : decode cX6_isRest 17 = .ok (.istore 5, 2) := by decide +kernel
theorem dX6_isRest_19 : decode cX6_isRest 19 = .ok (.aload_n 0, 1) := by decide +kernel
theorem dX6_isRest_20 : decode cX6_isRest 20 = .ok (.iload_n 1, 1) := by decide +kernel
theorem dX6_isRest_21 : decode cX6_isRest 21 = .ok (.iload_n 2, 1) := by decide +kernel
theorem dX6_isRest_22 : decode cX6_isRest 22 = .ok (.iload_n 3, 1) := by decide +kernel
theorem dX6_isRest_23 : decode cX6_isRest 23 = .ok (.iload 4, 2) := by decide +kernel
theorem dX6_isRest_25 : decode cX6_isRest 25 = .ok (.iconst 1, 1) := by decide +kernel
theorem dX6_isRest_26 : decode cX6_isRest 26 = .ok (.ixor, 1) := by decide +kernel
theorem dX6_isRest_27 : decode cX6_isRest 27 = .ok (.invokevirtual 199, 3) := by decide +kernel
theorem dX6_isRest_30 : decode cX6_isRest 30 = .ok (.aload_n 0, 1) := by decide +kernel
theorem dX6_isRest_31 : decode cX6_isRest 31 = .ok (.iload_n 2, 1) := by decide +kernel
theorem dX6_isRest_32 : decode cX6_isRest 32 = .ok (.iload_n 3, 1) := by decide +kernel
theorem dX6_isRest_33 : decode cX6_isRest 33 = .ok (.invokevirtual 203, 3) := by decide +kernel
theorem dX6_isRest_36 : decode cX6_isRest 36 = .ok (.istore 6, 2) := by decide +kernel
theorem dX6_isRest_38 : decode cX6_isRest 38 = .ok (.aload_n 0, 1) := by decide +kernel
theorem dX6_isRest_39 : decode cX6_isRest 39 = .ok (.iload_n 1, 1) := by decide +kernel
theorem dX6_isRest_40 : decode cX6_isRest 40 = .ok (.iload_n 2, 1) := by decide +kernel
theorem dX6_isRest_41 : decode cX6_isRest 41 = .ok (.iload_n 3, 1) := by decide +kernel
theorem dX6_isRest_42 : decode cX6_isRest 42 = .ok (.iload 4, 2) := by decide +kernel
theorem dX6_isRest_44 : decode cX6_isRest 44 = .ok (.invokevirtual 199, 3) := by decide +kernel
theorem dX6_isRest_47 : decode cX6_isRest 47 = .ok (.aload_n 0, 1) := by decide +kernel
theorem dX6_isRest_48 : decode cX6_isRest 48 = .ok (.iload_n 1, 1) := by decide +kernel
theorem dX6_isRest_49 : decode cX6_isRest 49 = .ok (.iload_n 3, 1) := by decide +kernel
theorem dX6_isRest_50 : decode cX6_isRest 50 = .ok (.invokevirtual 203, 3) := by decide +kernel
theorem dX6_isRest_53 : decode cX6_isRest 53 = .ok (.iload 5, 2) := by decide +kernel
theorem dX6_isRest_55 : decode cX6_isRest 55 = .ok (.if_icmp .lt 18, 3) := by decide +kernel
theorem dX6_isRest_58 : decode cX6_isRest 58 = .ok (.aload_n 0, 1) := by decide +kernel
theorem dX6_isRest_59 : decode cX6_isRest 59 = .ok (.iload_n 2, 1) := by decide +kernel
theorem dX6_isRest_60 : decode cX6_isRest 60 = .ok (.iload_n 3, 1) := by decide +kernel
theorem dX6_isRest_61 : decode cX6_isRest 61 = .ok (.invokevirtual 203, 3) := by decide +kernel
theorem dX6_isRest_64 : decode cX6_isRest 64 = .ok (.iload 6, 2) := by decide +kernel
theorem dX6_isRest_66 : decode cX6_isRest 66 = .ok (.if_icmp .lt 7, 3) := by decide +kernel
theorem dX6_isRest_69 : decode cX6_isRest 69 = .ok (.iconst 1, 1) := by decide +kernel
theorem dX6_isRest_70 : decode cX6_isRest 70 = .ok (.goto 4, 3) := by decide +kernel
theorem dX6_isRest_73 : decode cX6_isRest 73 = .ok (.iconst 0, 1) := by decide +kernel
theorem dX6_isRest_74 : decode cX6_isRest 74 = .ok (.ireturn, 1) := by decide +kernel
set_option maxRecDepth 20000 in
theorem ggX6_tryClaims_X0_becomeAll : GoodIn wsX6_tryClaims wsX0_becomeAll := goodIn_r _ [7, 8, 9, 10, 11, 12, 80, 81, 82, 83, 84] (by decide +kernel) (by decide +kernel)
set_option maxRecDepth 20000 in
theorem gX6_tryClaims_X0_becomeAll : GoodIn wsX6_tryClaims (wsV RX6 63 RX0 yX0_becomeAll wsX0_becomeAll) := goodIn_app (goodIn_of _ (by decide +kernel)) ggX6_tryClaims_X0_becomeAll
set_option maxRecDepth 20000 in
theorem ggX6_tryClaims_X0_takeBack : GoodIn wsX6_tryClaims wsX0_takeBack := goodIn_r _ [16, 17, 18, 19, 20, 21, 22, 23, 6, 24, 9, 25, 26, 27, 28, 8, 29, 30, 31, 32, 33, 34, 35, 36, 37, 38, 39, 40, 12, 41, 42, 43, 44, 10, 45, 46, 47, 48, 49, 50, 51, 52, 53, 54, 55, 56, 57, 58, 59, 60, 61, 62, 63, 64, 65, 66, 67, 68, 69, 70, 71, 72, 80, 81, 82, 83, 84] (by decide +kernel) (by decide +kernel)
set_option maxRecDepth 20000 in
theorem gX6_tryClaims_X0_takeBack : GoodIn wsX6_tryClaims (wsV RX6 140 RX0 yX0_takeBack wsX0_takeBack) := goodIn_app (goodIn_of _ (by decide +kernel)) ggX6_tryClaims_X0_takeBack
theorem dX6_tryClaims_0 : decode cX6_tryClaims 0 = .ok (.aload_n 0, 1) := by decide +kernel
theorem dX6_tryClaims_1 : decode cX6_tryClaims 1 = .ok (.getfield 23, 3) := by decide +kernel
theorem dX6_tryClaims_4 : decode cX6_tryClaims 4 = .ok (.aload_n 0, 1) := by decide +kernel
theorem dX6_tryClaims_5 : decode cX6_tryClaims 5 = .ok (.getfield 19, 3) := by decide +kernel
theorem dX6_tryClaims_8 : decode cX6_tryClaims 8 = .ok (.invokevirtual 63, 3) := by decide +kernel
theorem dX6_tryClaims_11 : decode cX6_tryClaims 11 = .ok (.iload 4, 2) := by decide +kernel
theorem dX6_tryClaims_13 : decode cX6_tryClaims 13 = .ok (.iconst 2, 1) := by decide +kernel
theorem dX6_tryClaims_14 : decode cX6_tryClaims 14 = .ok (.idiv, 1) := by decide +kernel
theorem dX6_tryClaims_15 : decode cX6_tryClaims 15 = .ok (.iconst 1, 1) := by decide +kernel
theorem dX6_tryClaims_16 : decode cX6_tryClaims 16 = .ok (.if_icmp .ne 13, 3) := by decide +kernel
theorem dX6_tryClaims_19 : decode cX6_tryClaims 19 = .ok (.aload_n 0, 1) := by decide +kernel
theorem dX6_tryClaims_20 : decode cX6_tryClaims 20 = .ok (.getfield 23, 3) := by decide +kernel
theorem dX6_tryClaims_23 : decode cX6_tryClaims 23 = .ok (.iload_n 1, 1) := by decide +kernel
theorem dX6_tryClaims_24 : decode cX6_tryClaims 24 = .ok (.iload_n 3, 1) := by decide +kernel
theorem dX6_tryClaims_25 : decode cX6_tryClaims 25 = .ok (.invokevirtual 140, 3) := by decide +kernel
theorem dX6_tryClaims_28 : decode cX6_tryClaims 28 = .ok (.pop, 1) := by decide +kernel
theorem dX6_tryClaims_29 : decode cX6_tryClaims 29 = .ok (.iload 4, 2) := by decide +kernel
theorem dX6_tryClaims_31 : decode cX6_tryClaims 31 = .ok (.iconst 2, 1) := by decide +kernel
theorem dX6_tryClaims_32 : decode cX6_tryClaims 32 = .ok (.irem, 1) := by decide +kernel
theorem dX6_tryClaims_33 : decode cX6_tryClaims 33 = .ok (.iconst 1, 1) := by decide +kernel
theorem dX6_tryClaims_34 : decode cX6_tryClaims 34 = .ok (.if_icmp .ne 13, 3) := by decide +kernel
theorem dX6_tryClaims_37 : decode cX6_tryClaims 37 = .ok (.aload_n 0, 1) := by decide +kernel
theorem dX6_tryClaims_38 : decode cX6_tryClaims 38 = .ok (.getfield 23, 3) := by decide +kernel
theorem dX6_tryClaims_41 : decode cX6_tryClaims 41 = .ok (.iload_n 2, 1) := by decide +kernel
theorem dX6_tryClaims_42 : decode cX6_tryClaims 42 = .ok (.iload_n 3, 1) := by decide +kernel
theorem dX6_tryClaims_43 : decode cX6_tryClaims 43 = .ok (.invokevirtual 140, 3) := by decide +kernel
theorem dX6_tryClaims_46 : decode cX6_tryClaims 46 = .ok (.pop, 1) := by decide +kernel
theorem dX6_tryClaims_47 : decode cX6_tryClaims 47 = .ok (.return_, 1) := by decide +kernel
set_option maxRecDepth 20000 in
theorem ggX6_gainOf_X0_breathsOfIn : GoodIn wsX6_gainOf wsX0_breathsOfIn := goodIn_r _ [7, 8, 9, 10, 6, 11, 12, 13, 14, 15, 16, 17, 18, 19, 20, 21, 22, 23, 24, 25, 34, 35, 36, 37, 38] (by decide +kernel) (by decide +kernel)
set_option maxRecDepth 20000 in
theorem gX6_gainOf_X0_breathsOfIn : GoodIn wsX6_gainOf (wsV RX6 206 RX0 yX0_breathsOfIn wsX0_breathsOfIn) := goodIn_app (goodIn_of _ (by decide +kernel)) ggX6_gainOf_X0_breathsOfIn
set_option maxRecDepth 20000 in
theorem ggX6_gainOf_X0_breathsIn : GoodIn wsX6_gainOf wsX0_breathsIn := goodIn_r _ [11, 12, 13, 14, 6, 15, 16, 17, 18, 19, 20, 21, 34, 35, 36, 37, 38] (by decide +kernel) (by decide +kernel)
set_option maxRecDepth 20000 in
theorem gX6_gainOf_X0_breathsIn : GoodIn wsX6_gainOf (wsV RX6 103 RX0 yX0_breathsIn wsX0_breathsIn) := goodIn_app (goodIn_of _ (by decide +kernel)) ggX6_gainOf_X0_breathsIn
theorem dX6_gainOf_0 : decode cX6_gainOf 0 = .ok (.aload_n 0, 1) := by decide +kernel
theorem dX6_gainOf_1 : decode cX6_gainOf 1 = .ok (.getfield 19, 3) := by decide +kernel
theorem dX6_gainOf_4 : decode cX6_gainOf 4 = .ok (.iload_n 1, 1) := by decide +kernel
theorem dX6_gainOf_5 : decode cX6_gainOf 5 = .ok (.iload_n 2, 1) := by decide +kernel
theorem dX6_gainOf_6 : decode cX6_gainOf 6 = .ok (.invokevirtual 206, 3) := by decide +kernel
theorem dX6_gainOf_9 : decode cX6_gainOf 9 = .ok (.istore_n 3, 1) := by decide +kernel
theorem dX6_gainOf_10 : decode cX6_gainOf 10 = .ok (.aload_n 0, 1) := by decide +kernel
theorem dX6_gainOf_11 : decode cX6_gainOf 11 = .ok (.getfield 23, 3) := by decide +kernel
theorem dX6_gainOf_14 : decode cX6_gainOf 14 = .ok (.iload_n 1, 1) := by decide +kernel
theorem dX6_gainOf_15 : decode cX6_gainOf 15 = .ok (.iload_n 2, 1) := by decide +kernel
theorem dX6_gainOf_16 : decode cX6_gainOf 16 = .ok (.invokevirtual 206, 3) := by decide +kernel
theorem dX6_gainOf_19 : decode cX6_gainOf 19 = .ok (.istore 4, 2) := by decide +kernel
theorem dX6_gainOf_21 : decode cX6_gainOf 21 = .ok (.iload 4, 2) := by decide +kernel
theorem dX6_gainOf_23 : decode cX6_gainOf 23 = .ok (.iload_n 3, 1) := by decide +kernel
theorem dX6_gainOf_24 : decode cX6_gainOf 24 = .ok (.if_icmp .ge 10, 3) := by decide +kernel
theorem dX6_gainOf_27 : decode cX6_gainOf 27 = .ok (.iconst 2, 1) := by decide +kernel
theorem dX6_gainOf_28 : decode cX6_gainOf 28 = .ok (.iload 4, 2) := by decide +kernel
theorem dX6_gainOf_30 : decode cX6_gainOf 30 = .ok (.iadd, 1) := by decide +kernel
theorem dX6_gainOf_31 : decode cX6_gainOf 31 = .ok (.goto 5, 3) := by decide +kernel
theorem dX6_gainOf_34 : decode cX6_gainOf 34 = .ok (.iload 4, 2) := by decide +kernel
theorem dX6_gainOf_36 : decode cX6_gainOf 36 = .ok (.istore 5, 2) := by decide +kernel
theorem dX6_gainOf_38 : decode cX6_gainOf 38 = .ok (.aload_n 0, 1) := by decide +kernel
theorem dX6_gainOf_39 : decode cX6_gainOf 39 = .ok (.getfield 23, 3) := by decide +kernel
theorem dX6_gainOf_42 : decode cX6_gainOf 42 = .ok (.iload_n 2, 1) := by decide +kernel
theorem dX6_gainOf_43 : decode cX6_gainOf 43 = .ok (.invokevirtual 103, 3) := by decide +kernel
theorem dX6_gainOf_46 : decode cX6_gainOf 46 = .ok (.iconst 3, 1) := by decide +kernel
theorem dX6_gainOf_47 : decode cX6_gainOf 47 = .ok (.if_icmp .lt 10, 3) := by decide +kernel
theorem dX6_gainOf_50 : decode cX6_gainOf 50 = .ok (.iload 5, 2) := by decide +kernel
theorem dX6_gainOf_52 : decode cX6_gainOf 52 = .ok (.iconst 3, 1) := by decide +kernel
theorem dX6_gainOf_53 : decode cX6_gainOf 53 = .ok (.iadd, 1) := by decide +kernel
theorem dX6_gainOf_54 : decode cX6_gainOf 54 = .ok (.goto 5, 3) := by decide +kernel
theorem dX6_gainOf_57 : decode cX6_gainOf 57 = .ok (.iload 5, 2) := by decide +kernel
theorem dX6_gainOf_59 : decode cX6_gainOf 59 = .ok (.ireturn, 1) := by decide +kernel
set_option maxRecDepth 20000 in
theorem ggX6_battle_X4_chanceOfLeft : GoodIn wsX6_battle wsX4_chanceOfLeft := goodIn_r _ [5, 6, 7, 8, 9, 10, 11, 12, 13, 14, 15, 16, 17, 18, 19, 20, 21, 22, 23, 24, 25, 26, 27, 28, 29, 30, 31, 32, 33, 34, 35, 36, 37, 38, 39, 40, 4, 41, 42, 43, 44, 52, 53, 54, 55, 56] (by decide +kernel) (by decide +kernel)
set_option maxRecDepth 20000 in
theorem gX6_battle_X4_chanceOfLeft : GoodIn wsX6_battle (va_wsS RX6 209 yX4_chanceOfLeft wsX4_chanceOfLeft) := goodIn_app (goodIn_of _ (by decide +kernel)) ggX6_battle_X4_chanceOfLeft
theorem dX6_battle_0 : decode cX6_battle 0 = .ok (.iload_n 1, 1) := by decide +kernel
theorem dX6_battle_1 : decode cX6_battle 1 = .ok (.ifCond .lt 19, 3) := by decide +kernel
theorem dX6_battle_4 : decode cX6_battle 4 = .ok (.iload_n 1, 1) := by decide +kernel
theorem dX6_battle_5 : decode cX6_battle 5 = .ok (.bipush 27, 2) := by decide +kernel
theorem dX6_battle_7 : decode cX6_battle 7 = .ok (.if_icmp .gt 13, 3) := by decide +kernel
theorem dX6_battle_10 : decode cX6_battle 10 = .ok (.iload_n 2, 1) := by decide +kernel
theorem dX6_battle_11 : decode cX6_battle 11 = .ok (.ifCond .lt 9, 3) := by decide +kernel
theorem dX6_battle_14 : decode cX6_battle 14 = .ok (.iload_n 2, 1) := by decide +kernel
theorem dX6_battle_15 : decode cX6_battle 15 = .ok (.bipush 10, 2) := by decide +kernel
theorem dX6_battle_17 : decode cX6_battle 17 = .ok (.if_icmp .le 6, 3) := by decide +kernel
theorem dX6_battle_20 : decode cX6_battle 20 = .ok (.bipush (-2), 2) := by decide +kernel
theorem dX6_battle_22 : decode cX6_battle 22 = .ok (.ireturn, 1) := by decide +kernel
theorem dX6_battle_23 : decode cX6_battle 23 = .ok (.aload_n 0, 1) := by decide +kernel
theorem dX6_battle_24 : decode cX6_battle 24 = .ok (.getfield 19, 3) := by decide +kernel
theorem dX6_battle_27 : decode cX6_battle 27 = .ok (.iload_n 1, 1) := by decide +kernel
theorem dX6_battle_28 : decode cX6_battle 28 = .ok (.iload_n 2, 1) := by decide +kernel
theorem dX6_battle_29 : decode cX6_battle 29 = .ok (.iload_n 3, 1) := by decide +kernel
theorem dX6_battle_30 : decode cX6_battle 30 = .ok (.invokestatic 209, 3) := by decide +kernel
theorem dX6_battle_33 : decode cX6_battle 33 = .ok (.ireturn, 1) := by decide +kernel
theorem dX6_seed_0 : decode cX6_seed 0 = .ok (.aload_n 0, 1) := by decide +kernel
theorem dX6_seed_1 : decode cX6_seed 1 = .ok (.getfield 47, 3) := by decide +kernel
theorem dX6_seed_4 : decode cX6_seed 4 = .ok (.lstore_n 3, 1) := by decide +kernel
theorem dX6_seed_5 : decode cX6_seed 5 = .ok (.aload_n 0, 1) := by decide +kernel
theorem dX6_seed_6 : decode cX6_seed 6 = .ok (.lload_n 1, 1) := by decide +kernel
theorem dX6_seed_7 : decode cX6_seed 7 = .ok (.putfield 47, 3) := by decide +kernel
theorem dX6_seed_10 : decode cX6_seed 10 = .ok (.lload_n 3, 1) := by decide +kernel
theorem dX6_seed_11 : decode cX6_seed 11 = .ok (.lreturn, 1) := by decide +kernel
set_option maxRecDepth 20000 in
theorem ggX6_years_X0_becomeAll : GoodIn wsX6_years wsX0_becomeAll := goodIn_r _ [11, 12, 13, 14, 15, 16, 125, 126, 127, 128, 129] (by decide +kernel) (by decide +kernel)
set_option maxRecDepth 20000 in
theorem gX6_years_X0_becomeAll : GoodIn wsX6_years (wsV RX6 63 RX0 yX0_becomeAll wsX0_becomeAll) := goodIn_app (goodIn_of _ (by decide +kernel)) ggX6_years_X0_becomeAll
set_option maxRecDepth 20000 in
theorem ggX6_years_X6_tryLot : GoodIn wsX6_years wsX6_tryLot := goodIn_r _ [21, 1, 22, 23, 24, 10, 25, 26, 27, 28, 29, 13, 30, 31, 32, 33, 12, 34, 35, 36, 37, 38, 39, 40, 41, 42, 43, 44, 45, 16, 46, 47, 48, 49, 50, 51, 52, 53, 54, 55, 56, 57, 58, 59, 60, 61, 62, 63, 64, 65, 66, 67, 68, 69, 70, 71, 72, 73, 74, 75, 76, 77, 14, 78, 79, 80, 81, 82, 83, 84, 85, 86, 87, 88, 89, 90, 91, 92, 93, 94, 95, 96, 97, 98, 99, 100, 101, 102, 103, 104, 105, 106, 107, 108, 109, 110, 111, 112, 113, 15, 118, 119, 120, 121, 122, 123, 124, 125, 126, 127, 128, 129] (by decide +kernel) (by decide +kernel)
set_option maxRecDepth 20000 in
theorem gX6_years_X6_tryLot : GoodIn wsX6_years (wsV RX6 219 RX6 yX6_tryLot wsX6_tryLot) := goodIn_app (goodIn_of _ (by decide +kernel)) ggX6_years_X6_tryLot
set_option maxRecDepth 20000 in
theorem ggX6_years_X0_breathsInAll : GoodIn wsX6_years wsX0_breathsInAll := goodIn_r _ [117, 12, 42, 43, 44, 10, 45, 16, 125, 126, 127, 128, 129] (by decide +kernel) (by decide +kernel)
set_option maxRecDepth 20000 in
theorem gX6_years_X0_breathsInAll : GoodIn wsX6_years (wsV RX6 77 RX0 yX0_breathsInAll wsX0_breathsInAll) := goodIn_app (goodIn_of _ (by decide +kernel)) ggX6_years_X0_breathsInAll
theorem dX6_years_0 : decode cX6_years 0 = .ok (.iload_n 1, 1) := by decide +kernel
theorem dX6_years_1 : decode cX6_years 1 = .ok (.iconst 1, 1) := by decide +kernel
theorem dX6_years_2 : decode cX6_years 2 = .ok (.if_icmp .lt 9, 3) := by decide +kernel
theorem dX6_years_5 : decode cX6_years 5 = .ok (.iload_n 1, 1) := by decide +kernel
theorem dX6_years_6 : decode cX6_years 6 = .ok (.bipush 30, 2) := by decide +kernel
theorem dX6_years_8 : decode cX6_years 8 = .ok (.if_icmp .le 6, 3) := by decide +kernel
theorem dX6_years_11 : decode cX6_years 11 = .ok (.bipush (-2), 2) := by decide +kernel
theorem dX6_years_13 : decode cX6_years 13 = .ok (.ireturn, 1) := by decide +kernel
theorem dX6_years_14 : decode cX6_years 14 = .ok (.aload_n 0, 1) := by decide +kernel
theorem dX6_years_15 : decode cX6_years 15 = .ok (.getfield 23, 3) := by decide +kernel
theorem dX6_years_18 : decode cX6_years 18 = .ok (.aload_n 0, 1) := by decide +kernel
theorem dX6_years_19 : decode cX6_years 19 = .ok (.getfield 19, 3) := by decide +kernel
theorem dX6_years_22 : decode cX6_years 22 = .ok (.invokevirtual 63, 3) := by decide +kernel
theorem dX6_years_25 : decode cX6_years 25 = .ok (.iconst 0, 1) := by decide +kernel
theorem dX6_years_26 : decode cX6_years 26 = .ok (.istore_n 2, 1) := by decide +kernel
theorem dX6_years_27 : decode cX6_years 27 = .ok (.iconst 0, 1) := by decide +kernel
theorem dX6_years_28 : decode cX6_years 28 = .ok (.istore_n 3, 1) := by decide +kernel
theorem dX6_years_29 : decode cX6_years 29 = .ok (.iload_n 3, 1) := by decide +kernel
theorem dX6_years_30 : decode cX6_years 30 = .ok (.iload_n 1, 1) := by decide +kernel
theorem dX6_years_31 : decode cX6_years 31 = .ok (.if_icmp .ge 51, 3) := by decide +kernel
theorem dX6_years_34 : decode cX6_years 34 = .ok (.aload_n 0, 1) := by decide +kernel
theorem dX6_years_35 : decode cX6_years 35 = .ok (.aload_n 0, 1) := by decide +kernel
theorem dX6_years_36 : decode cX6_years 36 = .ok (.getfield 47, 3) := by decide +kernel
theorem dX6_years_39 : decode cX6_years 39 = .ok (.ldc2_w 213, 3) := by decide +kernel
theorem dX6_years_42 : decode cX6_years 42 = .ok (.lmul, 1) := by decide +kernel
theorem dX6_years_43 : decode cX6_years 43 = .ok (.ldc2_w 215, 3) := by decide +kernel
theorem dX6_years_46 : decode cX6_years 46 = .ok (.ladd, 1) := by decide +kernel
theorem dX6_years_47 : decode cX6_years 47 = .ok (.putfield 47, 3) := by decide +kernel
theorem dX6_years_50 : decode cX6_years 50 = .ok (.aload_n 0, 1) := by decide +kernel
theorem dX6_years_51 : decode cX6_years 51 = .ok (.aload_n 0, 1) := by decide +kernel
theorem dX6_years_52 : decode cX6_years 52 = .ok (.getfield 47, 3) := by decide +kernel
theorem dX6_years_55 : decode cX6_years 55 = .ok (.bipush 33, 2) := by decide +kernel
theorem dX6_years_57 : decode cX6_years 57 = .ok (.lushr, 1) := by decide +kernel
theorem dX6_years_58 : decode cX6_years 58 = .ok (.ldc2_w 217, 3) := by decide +kernel
theorem dX6_years_61 : decode cX6_years 61 = .ok (.lrem, 1) := by decide +kernel
theorem dX6_years_62 : decode cX6_years 62 = .ok (.l2i, 1) := by decide +kernel
theorem dX6_years_63 : decode cX6_years 63 = .ok (.invokevirtual 219, 3) := by decide +kernel
theorem dX6_years_66 : decode cX6_years 66 = .ok (.iload_n 2, 1) := by decide +kernel
theorem dX6_years_67 : decode cX6_years 67 = .ok (.aload_n 0, 1) := by decide +kernel
theorem dX6_years_68 : decode cX6_years 68 = .ok (.getfield 23, 3) := by decide +kernel
theorem dX6_years_71 : decode cX6_years 71 = .ok (.invokevirtual 77, 3) := by decide +kernel
theorem dX6_years_74 : decode cX6_years 74 = .ok (.iadd, 1) := by decide +kernel
theorem dX6_years_75 : decode cX6_years 75 = .ok (.istore_n 2, 1) := by decide +kernel
theorem dX6_years_76 : decode cX6_years 76 = .ok (.iinc 3 1, 3) := by decide +kernel
theorem dX6_years_79 : decode cX6_years 79 = .ok (.goto (-50), 3) := by decide +kernel
theorem dX6_years_82 : decode cX6_years 82 = .ok (.iload_n 2, 1) := by decide +kernel
theorem dX6_years_83 : decode cX6_years 83 = .ok (.ireturn, 1) := by decide +kernel
set_option maxRecDepth 20000 in
theorem ggX6_tryLot_X0_giveBreath : GoodIn wsX6_tryLot wsX0_giveBreath := goodIn_r _ [6, 7, 8, 9, 5, 10, 11, 12, 13, 14, 15, 16, 17, 18, 19, 20, 21, 22, 23, 24, 25, 26, 27, 28, 29, 30, 31, 32, 33, 34, 35, 36, 37, 38, 39, 40, 41, 42, 43, 44, 45, 46, 47, 48, 49, 107, 108, 109, 110, 111] (by decide +kernel) (by decide +kernel)
set_option maxRecDepth 20000 in
theorem gX6_tryLot_X0_giveBreath : GoodIn wsX6_tryLot (wsV RX6 131 RX0 yX0_giveBreath wsX0_giveBreath) := goodIn_app (goodIn_of _ (by decide +kernel)) ggX6_tryLot_X0_giveBreath
set_option maxRecDepth 20000 in
theorem ggX6_tryLot_X0_takeBack : GoodIn wsX6_tryLot wsX0_takeBack := goodIn_r _ [53, 54, 55, 56, 57, 7, 8, 9, 5, 10, 11, 12, 13, 14, 15, 16, 17, 18, 19, 20, 21, 22, 23, 24, 25, 26, 27, 28, 29, 58, 59, 60, 61, 62, 34, 35, 36, 37, 63, 64, 65, 66, 67, 68, 69, 70, 71, 72, 73, 74, 42, 43, 44, 45, 38, 39, 40, 41, 30, 31, 32, 33, 107, 108, 109, 110, 111] (by decide +kernel) (by decide +kernel)
set_option maxRecDepth 20000 in
theorem gX6_tryLot_X0_takeBack : GoodIn wsX6_tryLot (wsV RX6 140 RX0 yX0_takeBack wsX0_takeBack) := goodIn_app (goodIn_of _ (by decide +kernel)) ggX6_tryLot_X0_takeBack
set_option maxRecDepth 20000 in
theorem ggX6_tryLot_X0_playBreaths : GoodIn wsX6_tryLot wsX0_playBreaths := goodIn_r _ [78, 12, 13, 14, 5, 15, 16, 34, 35, 36, 37, 25, 26, 27, 28, 29, 63, 64, 65, 66, 58, 59, 60, 61, 62, 79, 80, 81, 82, 67, 68, 69, 70, 38, 39, 40, 41, 42, 43, 44, 45, 71, 72, 73, 74, 107, 108, 109, 110, 111] (by decide +kernel) (by decide +kernel)
set_option maxRecDepth 20000 in
theorem gX6_tryLot_X0_playBreaths : GoodIn wsX6_tryLot (wsV RX6 137 RX0 yX0_playBreaths wsX0_playBreaths) := goodIn_app (goodIn_of _ (by decide +kernel)) ggX6_tryLot_X0_playBreaths
set_option maxRecDepth 20000 in
theorem ggX6_tryLot_X0_passDay : GoodIn wsX6_tryLot wsX0_passDay := goodIn_r _ [86, 16, 58, 59, 60, 5, 61, 62, 34, 35, 36, 37, 12, 13, 14, 15, 25, 26, 27, 28, 29, 79, 80, 81, 82, 67, 68, 69, 70, 38, 39, 40, 41, 42, 43, 44, 45, 71, 72, 73, 74, 87, 88, 89, 90, 91, 92, 93, 94, 11, 17, 18, 19, 20, 21, 22, 23, 24, 95, 96, 97, 98, 99, 30, 31, 32, 33, 7, 8, 9, 10, 107, 108, 109, 110, 111] (by decide +kernel) (by decide +kernel)
set_option maxRecDepth 20000 in
theorem gX6_tryLot_X0_passDay : GoodIn wsX6_tryLot (wsV RX6 149 RX0 yX0_passDay wsX0_passDay) := goodIn_app (goodIn_of _ (by decide +kernel)) ggX6_tryLot_X0_passDay
theorem dX6_tryLot_0 : decode cX6_tryLot 0 = .ok (.iload_n 1, 1) := by decide +kernel
theorem dX6_tryLot_1 : decode cX6_tryLot 1 = .ok (.bipush 15, 2) := by decide +kernel
theorem dX6_tryLot_3 : decode cX6_tryLot 3 = .ok (.if_icmp .ge 20, 3) := by decide +kernel
theorem dX6_tryLot_6 : decode cX6_tryLot 6 = .ok (.aload_n 0, 1) := by decide +kernel
theorem dX6_tryLot_7 : decode cX6_tryLot 7 = .ok (.getfield 23, 3) := by decide +kernel
theorem dX6_tryLot_10 : decode cX6_tryLot 10 = .ok (.iload_n 1, 1) := by decide +kernel
theorem dX6_tryLot_11 : decode cX6_tryLot 11 = .ok (.iconst 3, 1) := by decide +kernel
theorem dX6_tryLot_12 : decode cX6_tryLot 12 = .ok (.idiv, 1) := by decide +kernel
theorem dX6_tryLot_13 : decode cX6_tryLot 13 = .ok (.iload_n 1, 1) := by decide +kernel
theorem dX6_tryLot_14 : decode cX6_tryLot 14 = .ok (.iconst 3, 1) := by decide +kernel
theorem dX6_tryLot_15 : decode cX6_tryLot 15 = .ok (.irem, 1) := by decide +kernel
theorem dX6_tryLot_16 : decode cX6_tryLot 16 = .ok (.invokevirtual 131, 3) := by decide +kernel
theorem dX6_tryLot_19 : decode cX6_tryLot 19 = .ok (.pop, 1) := by decide +kernel
theorem dX6_tryLot_20 : decode cX6_tryLot 20 = .ok (.goto 62, 3) := by decide +kernel
theorem dX6_tryLot_23 : decode cX6_tryLot 23 = .ok (.iload_n 1, 1) := by decide +kernel
theorem dX6_tryLot_24 : decode cX6_tryLot 24 = .ok (.bipush 30, 2) := by decide +kernel
theorem dX6_tryLot_26 : decode cX6_tryLot 26 = .ok (.if_icmp .ge 26, 3) := by decide +kernel
theorem dX6_tryLot_29 : decode cX6_tryLot 29 = .ok (.aload_n 0, 1) := by decide +kernel
theorem dX6_tryLot_30 : decode cX6_tryLot 30 = .ok (.getfield 23, 3) := by decide +kernel
theorem dX6_tryLot_33 : decode cX6_tryLot 33 = .ok (.iload_n 1, 1) := by decide +kernel
theorem dX6_tryLot_34 : decode cX6_tryLot 34 = .ok (.bipush 15, 2) := by decide +kernel
theorem dX6_tryLot_36 : decode cX6_tryLot 36 = .ok (.isub, 1) := by decide +kernel
theorem dX6_tryLot_37 : decode cX6_tryLot 37 = .ok (.iconst 3, 1) := by decide +kernel
theorem dX6_tryLot_38 : decode cX6_tryLot 38 = .ok (.idiv, 1) := by decide +kernel
theorem dX6_tryLot_39 : decode cX6_tryLot 39 = .ok (.iload_n 1, 1) := by decide +kernel
theorem dX6_tryLot_40 : decode cX6_tryLot 40 = .ok (.bipush 15, 2) := by decide +kernel
theorem dX6_tryLot_42 : decode cX6_tryLot 42 = .ok (.isub, 1) := by decide +kernel
theorem dX6_tryLot_43 : decode cX6_tryLot 43 = .ok (.iconst 3, 1) := by decide +kernel
theorem dX6_tryLot_44 : decode cX6_tryLot 44 = .ok (.irem, 1) := by decide +kernel
theorem dX6_tryLot_45 : decode cX6_tryLot 45 = .ok (.invokevirtual 140, 3) := by decide +kernel
theorem dX6_tryLot_48 : decode cX6_tryLot 48 = .ok (.pop, 1) := by decide +kernel
theorem dX6_tryLot_49 : decode cX6_tryLot 49 = .ok (.goto 33, 3) := by decide +kernel
theorem dX6_tryLot_52 : decode cX6_tryLot 52 = .ok (.iload_n 1, 1) := by decide +kernel
theorem dX6_tryLot_53 : decode cX6_tryLot 53 = .ok (.bipush 33, 2) := by decide +kernel
theorem dX6_tryLot_55 : decode cX6_tryLot 55 = .ok (.if_icmp .ge 19, 3) := by decide +kernel
theorem dX6_tryLot_58 : decode cX6_tryLot 58 = .ok (.aload_n 0, 1) := by decide +kernel
theorem dX6_tryLot_59 : decode cX6_tryLot 59 = .ok (.getfield 23, 3) := by decide +kernel
theorem dX6_tryLot_62 : decode cX6_tryLot 62 = .ok (.iload_n 1, 1) := by decide +kernel
theorem dX6_tryLot_63 : decode cX6_tryLot 63 = .ok (.bipush 30, 2) := by decide +kernel
theorem dX6_tryLot_65 : decode cX6_tryLot 65 = .ok (.isub, 1) := by decide +kernel
theorem dX6_tryLot_66 : decode cX6_tryLot 66 = .ok (.iconst 1, 1) := by decide +kernel
theorem dX6_tryLot_67 : decode cX6_tryLot 67 = .ok (.invokevirtual 137, 3) := by decide +kernel
theorem dX6_tryLot_70 : decode cX6_tryLot 70 = .ok (.pop, 1) := by decide +kernel
theorem dX6_tryLot_71 : decode cX6_tryLot 71 = .ok (.goto 11, 3) := by decide +kernel
theorem dX6_tryLot_74 : decode cX6_tryLot 74 = .ok (.aload_n 0, 1) := by decide +kernel
theorem dX6_tryLot_75 : decode cX6_tryLot 75 = .ok (.getfield 23, 3) := by decide +kernel
theorem dX6_tryLot_78 : decode cX6_tryLot 78 = .ok (.invokevirtual 149, 3) := by decide +kernel
theorem dX6_tryLot_81 : decode cX6_tryLot 81 = .ok (.pop, 1) := by decide +kernel
theorem dX6_tryLot_82 : decode cX6_tryLot 82 = .ok (.return_, 1) := by decide +kernel
set_option maxRecDepth 20000 in
theorem ggX6_keep_X3_isSlot : GoodIn wsX6_keep wsX3_isSlot := goodIn_r _ [7] (by decide +kernel) (by decide +kernel)
set_option maxRecDepth 20000 in
theorem gX6_keep_X3_isSlot : GoodIn wsX6_keep (wsV RX6 222 RX3 yX3_isSlot wsX3_isSlot) := goodIn_app (goodIn_of _ (by decide +kernel)) ggX6_keep_X3_isSlot
set_option maxRecDepth 20000 in
theorem ggX6_keep_X3_store : GoodIn wsX6_keep wsX3_store := goodIn_r _ [11, 12, 13, 14, 15, 16, 17, 18, 19, 35, 36, 37, 38, 39, 40, 41] (by decide +kernel) (by decide +kernel)
set_option maxRecDepth 20000 in
theorem gX6_keep_X3_store : GoodIn wsX6_keep (wsV RX6 225 RX3 yX3_store wsX3_store) := goodIn_app (goodIn_of _ (by decide +kernel)) ggX6_keep_X3_store
set_option maxRecDepth 20000 in
theorem ggX6_keep_X0_today : GoodIn wsX6_keep wsX0_today := goodIn_r _ [23, 24, 25, 26, 17, 27, 19, 37, 38, 39, 40, 41] (by decide +kernel) (by decide +kernel)
set_option maxRecDepth 20000 in
theorem gX6_keep_X0_today : GoodIn wsX6_keep (wsV RX6 80 RX0 yX0_today wsX0_today) := goodIn_app (goodIn_of _ (by decide +kernel)) ggX6_keep_X0_today
theorem dX6_keep_0 : decode cX6_keep 0 = .ok (.aload_n 0, 1) := by decide +kernel
theorem dX6_keep_1 : decode cX6_keep 1 = .ok (.getfield 36, 3) := by decide +kernel
theorem dX6_keep_4 : decode cX6_keep 4 = .ok (.iload_n 1, 1) := by decide +kernel
theorem dX6_keep_5 : decode cX6_keep 5 = .ok (.invokevirtual 222, 3) := by decide +kernel
theorem dX6_keep_8 : decode cX6_keep 8 = .ok (.ifCond .ne 5, 3) := by decide +kernel
theorem dX6_keep_11 : decode cX6_keep 11 = .ok (.iconst (-1), 1) := by decide +kernel
theorem dX6_keep_12 : decode cX6_keep 12 = .ok (.ireturn, 1) := by decide +kernel
theorem dX6_keep_13 : decode cX6_keep 13 = .ok (.aload_n 0, 1) := by decide +kernel
theorem dX6_keep_14 : decode cX6_keep 14 = .ok (.getfield 36, 3) := by decide +kernel
theorem dX6_keep_17 : decode cX6_keep 17 = .ok (.iload_n 1, 1) := by decide +kernel
theorem dX6_keep_18 : decode cX6_keep 18 = .ok (.aload_n 0, 1) := by decide +kernel
theorem dX6_keep_19 : decode cX6_keep 19 = .ok (.getfield 19, 3) := by decide +kernel
theorem dX6_keep_22 : decode cX6_keep 22 = .ok (.invokevirtual 225, 3) := by decide +kernel
theorem dX6_keep_25 : decode cX6_keep 25 = .ok (.aload_n 0, 1) := by decide +kernel
theorem dX6_keep_26 : decode cX6_keep 26 = .ok (.getfield 19, 3) := by decide +kernel
theorem dX6_keep_29 : decode cX6_keep 29 = .ok (.invokevirtual 80, 3) := by decide +kernel
theorem dX6_keep_32 : decode cX6_keep 32 = .ok (.ireturn, 1) := by decide +kernel
set_option maxRecDepth 20000 in
theorem ggX6_again_X3_isSlot : GoodIn wsX6_again wsX3_isSlot := goodIn_r _ [8] (by decide +kernel) (by decide +kernel)
set_option maxRecDepth 20000 in
theorem gX6_again_X3_isSlot : GoodIn wsX6_again (wsV RX6 222 RX3 yX3_isSlot wsX3_isSlot) := goodIn_app (goodIn_of _ (by decide +kernel)) ggX6_again_X3_isSlot
set_option maxRecDepth 20000 in
theorem ggX6_again_X3_isKept : GoodIn wsX6_again wsX3_isKept := goodIn_r _ [12, 13, 47, 48] (by decide +kernel) (by decide +kernel)
set_option maxRecDepth 20000 in
theorem gX6_again_X3_isKept : GoodIn wsX6_again (wsV RX6 229 RX3 yX3_isKept wsX3_isKept) := goodIn_app (goodIn_of _ (by decide +kernel)) ggX6_again_X3_isKept
set_option maxRecDepth 20000 in
theorem ggX6_again_X3_fetch : GoodIn wsX6_again wsX3_fetch := goodIn_r _ [17, 18, 19, 20, 21, 22, 23, 24, 47, 48, 49, 50, 51, 52, 53] (by decide +kernel) (by decide +kernel)
set_option maxRecDepth 20000 in
theorem gX6_again_X3_fetch : GoodIn wsX6_again (wsV RX6 232 RX3 yX3_fetch wsX3_fetch) := goodIn_app (goodIn_of _ (by decide +kernel)) ggX6_again_X3_fetch
set_option maxRecDepth 20000 in
theorem ggX6_again_X2_clear : GoodIn wsX6_again wsX2_clear := goodIn_r _ [29, 30, 31, 54, 55, 56] (by decide +kernel) (by decide +kernel)
set_option maxRecDepth 20000 in
theorem gX6_again_X2_clear : GoodIn wsX6_again (wsV RX6 67 RX2 yX2_clear wsX2_clear) := goodIn_app (goodIn_of _ (by decide +kernel)) ggX6_again_X2_clear
set_option maxRecDepth 20000 in
theorem ggX6_again_X0_today : GoodIn wsX6_again wsX0_today := goodIn_r _ [35, 36, 37, 38, 22, 39, 24, 49, 50, 51, 52, 53] (by decide +kernel) (by decide +kernel)
set_option maxRecDepth 20000 in
theorem gX6_again_X0_today : GoodIn wsX6_again (wsV RX6 80 RX0 yX0_today wsX0_today) := goodIn_app (goodIn_of _ (by decide +kernel)) ggX6_again_X0_today
theorem dX6_again_0 : decode cX6_again 0 = .ok (.aload_n 0, 1) := by decide +kernel
theorem dX6_again_1 : decode cX6_again 1 = .ok (.getfield 36, 3) := by decide +kernel
theorem dX6_again_4 : decode cX6_again 4 = .ok (.iload_n 1, 1) := by decide +kernel
theorem dX6_again_5 : decode cX6_again 5 = .ok (.invokevirtual 222, 3) := by decide +kernel
theorem dX6_again_8 : decode cX6_again 8 = .ok (.ifCond .ne 5, 3) := by decide +kernel
theorem dX6_again_11 : decode cX6_again 11 = .ok (.iconst (-1), 1) := by decide +kernel
theorem dX6_again_12 : decode cX6_again 12 = .ok (.ireturn, 1) := by decide +kernel
theorem dX6_again_13 : decode cX6_again 13 = .ok (.aload_n 0, 1) := by decide +kernel
theorem dX6_again_14 : decode cX6_again 14 = .ok (.getfield 36, 3) := by decide +kernel
theorem dX6_again_17 : decode cX6_again 17 = .ok (.iload_n 1, 1) := by decide +kernel
theorem dX6_again_18 : decode cX6_again 18 = .ok (.invokevirtual 229, 3) := by decide +kernel
theorem dX6_again_21 : decode cX6_again 21 = .ok (.ifCond .ne 6, 3) := by decide +kernel
theorem dX6_again_24 : decode cX6_again 24 = .ok (.bipush (-3), 2) := by decide +kernel
theorem dX6_again_26 : decode cX6_again 26 = .ok (.ireturn, 1) := by decide +kernel
theorem dX6_again_27 : decode cX6_again 27 = .ok (.aload_n 0, 1) := by decide +kernel
theorem dX6_again_28 : decode cX6_again 28 = .ok (.getfield 36, 3) := by decide +kernel
theorem dX6_again_31 : decode cX6_again 31 = .ok (.iload_n 1, 1) := by decide +kernel
theorem dX6_again_32 : decode cX6_again 32 = .ok (.aload_n 0, 1) := by decide +kernel
theorem dX6_again_33 : decode cX6_again 33 = .ok (.getfield 19, 3) := by decide +kernel
theorem dX6_again_36 : decode cX6_again 36 = .ok (.invokevirtual 232, 3) := by decide +kernel
theorem dX6_again_39 : decode cX6_again 39 = .ok (.aload_n 0, 1) := by decide +kernel
theorem dX6_again_40 : decode cX6_again 40 = .ok (.getfield 29, 3) := by decide +kernel
theorem dX6_again_43 : decode cX6_again 43 = .ok (.invokevirtual 67, 3) := by decide +kernel
theorem dX6_again_46 : decode cX6_again 46 = .ok (.aload_n 0, 1) := by decide +kernel
theorem dX6_again_47 : decode cX6_again 47 = .ok (.getfield 19, 3) := by decide +kernel
theorem dX6_again_50 : decode cX6_again 50 = .ok (.invokevirtual 80, 3) := by decide +kernel
theorem dX6_again_53 : decode cX6_again 53 = .ok (.ireturn, 1) := by decide +kernel
theorem dX7_init_0 : decode cX7_init 0 = .ok (.aload_n 0, 1) := by decide +kernel
theorem dX7_init_1 : decode cX7_init 1 = .ok (.invokespecial 1, 3) := by decide +kernel
theorem dX7_init_4 : decode cX7_init 4 = .ok (.aload_n 0, 1) := by decide +kernel
theorem dX7_init_5 : decode cX7_init 5 = .ok (.bipush 60, 2) := by decide +kernel
theorem dX7_init_7 : decode cX7_init 7 = .ok (.newarray .int, 2) := by decide +kernel
theorem dX7_init_9 : decode cX7_init 9 = .ok (.putfield 7, 3) := by decide +kernel
theorem dX7_init_12 : decode cX7_init 12 = .ok (.aload_n 0, 1) := by decide +kernel
theorem dX7_init_13 : decode cX7_init 13 = .ok (.iconst 3, 1) := by decide +kernel
theorem dX7_init_14 : decode cX7_init 14 = .ok (.newarray .int, 2) := by decide +kernel
theorem dX7_init_16 : decode cX7_init 16 = .ok (.putfield 13, 3) := by decide +kernel
theorem dX7_init_19 : decode cX7_init 19 = .ok (.aload_n 0, 1) := by decide +kernel
theorem dX7_init_20 : decode cX7_init 20 = .ok (.iconst 5, 1) := by decide +kernel
theorem dX7_init_21 : decode cX7_init 21 = .ok (.newarray .int, 2) := by decide +kernel
theorem dX7_init_23 : decode cX7_init 23 = .ok (.putfield 16, 3) := by decide +kernel
theorem dX7_init_26 : decode cX7_init 26 = .ok (.aload_n 0, 1) := by decide +kernel
theorem dX7_init_27 : decode cX7_init 27 = .ok (.iconst 3, 1) := by decide +kernel
theorem dX7_init_28 : decode cX7_init 28 = .ok (.newarray .int, 2) := by decide +kernel
theorem dX7_init_30 : decode cX7_init 30 = .ok (.putfield 19, 3) := by decide +kernel
theorem dX7_init_33 : decode cX7_init 33 = .ok (.aload_n 0, 1) := by decide +kernel
theorem dX7_init_34 : decode cX7_init 34 = .ok (.bipush 10, 2) := by decide +kernel
theorem dX7_init_36 : decode cX7_init 36 = .ok (.newarray .int, 2) := by decide +kernel
theorem dX7_init_38 : decode cX7_init 38 = .ok (.putfield 22, 3) := by decide +kernel
theorem dX7_init_41 : decode cX7_init 41 = .ok (.aload_n 0, 1) := by decide +kernel
theorem dX7_init_42 : decode cX7_init 42 = .ok (.bipush 47, 2) := by decide +kernel
theorem dX7_init_44 : decode cX7_init 44 = .ok (.newarray .int, 2) := by decide +kernel
theorem dX7_init_46 : decode cX7_init 46 = .ok (.putfield 25, 3) := by decide +kernel
theorem dX7_init_49 : decode cX7_init 49 = .ok (.aload_n 0, 1) := by decide +kernel
theorem dX7_init_50 : decode cX7_init 50 = .ok (.bipush 47, 2) := by decide +kernel
theorem dX7_init_52 : decode cX7_init 52 = .ok (.newarray .int, 2) := by decide +kernel
theorem dX7_init_54 : decode cX7_init 54 = .ok (.putfield 28, 3) := by decide +kernel
theorem dX7_init_57 : decode cX7_init 57 = .ok (.aload_n 0, 1) := by decide +kernel
theorem dX7_init_58 : decode cX7_init 58 = .ok (.bipush 47, 2) := by decide +kernel
theorem dX7_init_60 : decode cX7_init 60 = .ok (.newarray .int, 2) := by decide +kernel
theorem dX7_init_62 : decode cX7_init 62 = .ok (.putfield 31, 3) := by decide +kernel
theorem dX7_init_65 : decode cX7_init 65 = .ok (.aload_n 0, 1) := by decide +kernel
theorem dX7_init_66 : decode cX7_init 66 = .ok (.sipush 658, 3) := by decide +kernel
theorem dX7_init_69 : decode cX7_init 69 = .ok (.newarray .int, 2) := by decide +kernel
theorem dX7_init_71 : decode cX7_init 71 = .ok (.putfield 34, 3) := by decide +kernel
theorem dX7_init_74 : decode cX7_init 74 = .ok (.aload_n 0, 1) := by decide +kernel
theorem dX7_init_75 : decode cX7_init 75 = .ok (.bipush 94, 2) := by decide +kernel
theorem dX7_init_77 : decode cX7_init 77 = .ok (.newarray .int, 2) := by decide +kernel
theorem dX7_init_79 : decode cX7_init 79 = .ok (.putfield 37, 3) := by decide +kernel
theorem dX7_init_82 : decode cX7_init 82 = .ok (.aload_n 0, 1) := by decide +kernel
theorem dX7_init_83 : decode cX7_init 83 = .ok (.iconst 2, 1) := by decide +kernel
theorem dX7_init_84 : decode cX7_init 84 = .ok (.newarray .boolean, 2) := by decide +kernel
theorem dX7_init_86 : decode cX7_init 86 = .ok (.putfield 40, 3) := by decide +kernel
theorem dX7_init_89 : decode cX7_init 89 = .ok (.aload_n 0, 1) := by decide +kernel
theorem dX7_init_90 : decode cX7_init 90 = .ok (.bipush 6, 2) := by decide +kernel
theorem dX7_init_92 : decode cX7_init 92 = .ok (.newarray .int, 2) := by decide +kernel
theorem dX7_init_94 : decode cX7_init 94 = .ok (.putfield 44, 3) := by decide +kernel
theorem dX7_init_97 : decode cX7_init 97 = .ok (.aload_n 0, 1) := by decide +kernel
theorem dX7_init_98 : decode cX7_init 98 = .ok (.bipush 6, 2) := by decide +kernel
theorem dX7_init_100 : decode cX7_init 100 = .ok (.newarray .int, 2) := by decide +kernel
theorem dX7_init_102 : decode cX7_init 102 = .ok (.putfield 47, 3) := by decide +kernel
theorem dX7_init_105 : decode cX7_init 105 = .ok (.aload_n 0, 1) := by decide +kernel
theorem dX7_init_106 : decode cX7_init 106 = .ok (.bipush 6, 2) := by decide +kernel
theorem dX7_init_108 : decode cX7_init 108 = .ok (.newarray .int, 2) := by decide +kernel
theorem dX7_init_110 : decode cX7_init 110 = .ok (.putfield 50, 3) := by decide +kernel
theorem dX7_init_113 : decode cX7_init 113 = .ok (.aload_n 0, 1) := by decide +kernel
theorem dX7_init_114 : decode cX7_init 114 = .ok (.bipush 6, 2) := by decide +kernel
theorem dX7_init_116 : decode cX7_init 116 = .ok (.newarray .int, 2) := by decide +kernel
theorem dX7_init_118 : decode cX7_init 118 = .ok (.putfield 53, 3) := by decide +kernel
theorem dX7_init_121 : decode cX7_init 121 = .ok (.aload_n 0, 1) := by decide +kernel
theorem dX7_init_122 : decode cX7_init 122 = .ok (.bipush 8, 2) := by decide +kernel
theorem dX7_init_124 : decode cX7_init 124 = .ok (.newarray .int, 2) := by decide +kernel
theorem dX7_init_126 : decode cX7_init 126 = .ok (.putfield 56, 3) := by decide +kernel
theorem dX7_init_129 : decode cX7_init 129 = .ok (.aload_n 0, 1) := by decide +kernel
theorem dX7_init_130 : decode cX7_init 130 = .ok (.bipush 32, 2) := by decide +kernel
theorem dX7_init_132 : decode cX7_init 132 = .ok (.newarray .int, 2) := by decide +kernel
theorem dX7_init_134 : decode cX7_init 134 = .ok (.putfield 59, 3) := by decide +kernel
theorem dX7_init_137 : decode cX7_init 137 = .ok (.return_, 1) := by decide +kernel
theorem dX7_in_0 : decode cX7_in 0 = .ok (.lload_n 0, 1) := by decide +kernel
theorem dX7_in_1 : decode cX7_in 1 = .ok (.lload_n 2, 1) := by decide +kernel
theorem dX7_in_2 : decode cX7_in 2 = .ok (.lcmp, 1) := by decide +kernel
theorem dX7_in_3 : decode cX7_in 3 = .ok (.ifCond .lt 14, 3) := by decide +kernel
theorem dX7_in_6 : decode cX7_in 6 = .ok (.lload_n 0, 1) := by decide +kernel
theorem dX7_in_7 : decode cX7_in 7 = .ok (.lload 4, 2) := by decide +kernel
theorem dX7_in_9 : decode cX7_in 9 = .ok (.lcmp, 1) := by decide +kernel
theorem dX7_in_10 : decode cX7_in 10 = .ok (.ifCond .gt 7, 3) := by decide +kernel
theorem dX7_in_13 : decode cX7_in 13 = .ok (.iconst 1, 1) := by decide +kernel
theorem dX7_in_14 : decode cX7_in 14 = .ok (.goto 4, 3) := by decide +kernel
theorem dX7_in_17 : decode cX7_in 17 = .ok (.iconst 0, 1) := by decide +kernel
theorem dX7_in_18 : decode cX7_in 18 = .ok (.ireturn, 1) := by decide +kernel
theorem dX7_has_0 : decode cX7_has 0 = .ok (.iload_n 0, 1) := by decide +kernel
theorem dX7_has_1 : decode cX7_has 1 = .ok (.iload_n 1, 1) := by decide +kernel
theorem dX7_has_2 : decode cX7_has 2 = .ok (.ishr, 1) := by decide +kernel
theorem dX7_has_3 : decode cX7_has 3 = .ok (.iconst 1, 1) := by decide +kernel
theorem dX7_has_4 : decode cX7_has 4 = .ok (.iand, 1) := by decide +kernel
theorem dX7_has_5 : decode cX7_has 5 = .ok (.iconst 1, 1) := by decide +kernel
theorem dX7_has_6 : decode cX7_has 6 = .ok (.if_icmp .ne 7, 3) := by decide +kernel
theorem dX7_has_9 : decode cX7_has 9 = .ok (.iconst 1, 1) := by decide +kernel
theorem dX7_has_10 : decode cX7_has 10 = .ok (.goto 4, 3) := by decide +kernel
theorem dX7_has_13 : decode cX7_has 13 = .ok (.iconst 0, 1) := by decide +kernel
theorem dX7_has_14 : decode cX7_has 14 = .ok (.ireturn, 1) := by decide +kernel
theorem dX7_many_0 : decode cX7_many 0 = .ok (.iconst 0, 1) := by decide +kernel
theorem dX7_many_1 : decode cX7_many 1 = .ok (.istore_n 1, 1) := by decide +kernel
theorem dX7_many_2 : decode cX7_many 2 = .ok (.iconst 0, 1) := by decide +kernel
theorem dX7_many_3 : decode cX7_many 3 = .ok (.istore_n 2, 1) := by decide +kernel
theorem dX7_many_4 : decode cX7_many 4 = .ok (.iload_n 2, 1) := by decide +kernel
theorem dX7_many_5 : decode cX7_many 5 = .ok (.iconst 5, 1) := by decide +kernel
theorem dX7_many_6 : decode cX7_many 6 = .ok (.if_icmp .ge 17, 3) := by decide +kernel
theorem dX7_many_9 : decode cX7_many 9 = .ok (.iload_n 1, 1) := by decide +kernel
theorem dX7_many_10 : decode cX7_many 10 = .ok (.iload_n 0, 1) := by decide +kernel
theorem dX7_many_11 : decode cX7_many 11 = .ok (.iload_n 2, 1) := by decide +kernel
theorem dX7_many_12 : decode cX7_many 12 = .ok (.ishr, 1) := by decide +kernel
theorem dX7_many_13 : decode cX7_many 13 = .ok (.iconst 1, 1) := by decide +kernel
theorem dX7_many_14 : decode cX7_many 14 = .ok (.iand, 1) := by decide +kernel
theorem dX7_many_15 : decode cX7_many 15 = .ok (.iadd, 1) := by decide +kernel
theorem dX7_many_16 : decode cX7_many 16 = .ok (.istore_n 1, 1) := by decide +kernel
theorem dX7_many_17 : decode cX7_many 17 = .ok (.iinc 2 1, 3) := by decide +kernel
theorem dX7_many_20 : decode cX7_many 20 = .ok (.goto (-16), 3) := by decide +kernel
theorem dX7_many_23 : decode cX7_many 23 = .ok (.iload_n 1, 1) := by decide +kernel
theorem dX7_many_24 : decode cX7_many 24 = .ok (.ireturn, 1) := by decide +kernel
theorem dX7_power_0 : decode cX7_power 0 = .ok (.iconst 1, 1) := by decide +kernel
theorem dX7_power_1 : decode cX7_power 1 = .ok (.istore_n 2, 1) := by decide +kernel
theorem dX7_power_2 : decode cX7_power 2 = .ok (.iconst 0, 1) := by decide +kernel
theorem dX7_power_3 : decode cX7_power 3 = .ok (.istore_n 3, 1) := by decide +kernel
theorem dX7_power_4 : decode cX7_power 4 = .ok (.iload_n 3, 1) := by decide +kernel
theorem dX7_power_5 : decode cX7_power 5 = .ok (.iload_n 1, 1) := by decide +kernel
theorem dX7_power_6 : decode cX7_power 6 = .ok (.if_icmp .ge 13, 3) := by decide +kernel
theorem dX7_power_9 : decode cX7_power 9 = .ok (.iload_n 2, 1) := by decide +kernel
theorem dX7_power_10 : decode cX7_power 10 = .ok (.iload_n 0, 1) := by decide +kernel
theorem dX7_power_11 : decode cX7_power 11 = .ok (.imul, 1) := by decide +kernel
theorem dX7_power_12 : decode cX7_power 12 = .ok (.istore_n 2, 1) := by decide +kernel
theorem dX7_power_13 : decode cX7_power 13 = .ok (.iinc 3 1, 3) := by decide +kernel
theorem dX7_power_16 : decode cX7_power 16 = .ok (.goto (-12), 3) := by decide +kernel
theorem dX7_power_19 : decode cX7_power 19 = .ok (.iload_n 2, 1) := by decide +kernel
theorem dX7_power_20 : decode cX7_power 20 = .ok (.ireturn, 1) := by decide +kernel
set_option maxRecDepth 20000 in
theorem ggX7_noBag_X7_in : GoodIn wsX7_noBag wsX7_in := goodIn_r _ [5] (by decide +kernel) (by decide +kernel)
set_option maxRecDepth 20000 in
theorem gX7_noBag_X7_in : GoodIn wsX7_noBag (va_wsS RX7 69 yX7_in wsX7_in) := goodIn_app (goodIn_of _ (by decide +kernel)) ggX7_noBag_X7_in
theorem dX7_noBag_0 : decode cX7_noBag 0 = .ok (.iload_n 1, 1) := by decide +kernel
theorem dX7_noBag_1 : decode cX7_noBag 1 = .ok (.i2l, 1) := by decide +kernel
theorem dX7_noBag_2 : decode cX7_noBag 2 = .ok (.lconst 0, 1) := by decide +kernel
theorem dX7_noBag_3 : decode cX7_noBag 3 = .ok (.aload_n 0, 1) := by decide +kernel
theorem dX7_noBag_4 : decode cX7_noBag 4 = .ok (.getfield 66, 3) := by decide +kernel
theorem dX7_noBag_7 : decode cX7_noBag 7 = .ok (.iconst 1, 1) := by decide +kernel
theorem dX7_noBag_8 : decode cX7_noBag 8 = .ok (.isub, 1) := by decide +kernel
theorem dX7_noBag_9 : decode cX7_noBag 9 = .ok (.i2l, 1) := by decide +kernel
theorem dX7_noBag_10 : decode cX7_noBag 10 = .ok (.invokestatic 69, 3) := by decide +kernel
theorem dX7_noBag_13 : decode cX7_noBag 13 = .ok (.ifCond .ne 7, 3) := by decide +kernel
theorem dX7_noBag_16 : decode cX7_noBag 16 = .ok (.iconst 1, 1) := by decide +kernel
theorem dX7_noBag_17 : decode cX7_noBag 17 = .ok (.goto 4, 3) := by decide +kernel
theorem dX7_noBag_20 : decode cX7_noBag 20 = .ok (.iconst 0, 1) := by decide +kernel
theorem dX7_noBag_21 : decode cX7_noBag 21 = .ok (.ireturn, 1) := by decide +kernel
set_option maxRecDepth 20000 in
theorem ggX7_noMan_X7_in : GoodIn wsX7_noMan wsX7_in := goodIn_r _ [5] (by decide +kernel) (by decide +kernel)
set_option maxRecDepth 20000 in
theorem gX7_noMan_X7_in : GoodIn wsX7_noMan (va_wsS RX7 69 yX7_in wsX7_in) := goodIn_app (goodIn_of _ (by decide +kernel)) ggX7_noMan_X7_in
theorem dX7_noMan_0 : decode cX7_noMan 0 = .ok (.iload_n 1, 1) := by decide +kernel
theorem dX7_noMan_1 : decode cX7_noMan 1 = .ok (.i2l, 1) := by decide +kernel
theorem dX7_noMan_2 : decode cX7_noMan 2 = .ok (.lconst 0, 1) := by decide +kernel
theorem dX7_noMan_3 : decode cX7_noMan 3 = .ok (.aload_n 0, 1) := by decide +kernel
theorem dX7_noMan_4 : decode cX7_noMan 4 = .ok (.getfield 73, 3) := by decide +kernel
theorem dX7_noMan_7 : decode cX7_noMan 7 = .ok (.iconst 1, 1) := by decide +kernel
theorem dX7_noMan_8 : decode cX7_noMan 8 = .ok (.isub, 1) := by decide +kernel
theorem dX7_noMan_9 : decode cX7_noMan 9 = .ok (.i2l, 1) := by decide +kernel
theorem dX7_noMan_10 : decode cX7_noMan 10 = .ok (.invokestatic 69, 3) := by decide +kernel
theorem dX7_noMan_13 : decode cX7_noMan 13 = .ok (.ifCond .ne 7, 3) := by decide +kernel
theorem dX7_noMan_16 : decode cX7_noMan 16 = .ok (.iconst 1, 1) := by decide +kernel
theorem dX7_noMan_17 : decode cX7_noMan 17 = .ok (.goto 4, 3) := by decide +kernel
theorem dX7_noMan_20 : decode cX7_noMan 20 = .ok (.iconst 0, 1) := by decide +kernel
theorem dX7_noMan_21 : decode cX7_noMan 21 = .ok (.ireturn, 1) := by decide +kernel
set_option maxRecDepth 20000 in
theorem ggX7_write_X7_in : GoodIn wsX7_write wsX7_in := goodIn_r _ [8] (by decide +kernel) (by decide +kernel)
set_option maxRecDepth 20000 in
theorem gX7_write_X7_in : GoodIn wsX7_write (va_wsS RX7 69 yX7_in wsX7_in) := goodIn_app (goodIn_of _ (by decide +kernel)) ggX7_write_X7_in
theorem dX7_write_0 : decode cX7_write 0 = .ok (.aload_n 0, 1) := by decide +kernel
theorem dX7_write_1 : decode cX7_write 1 = .ok (.iconst 0, 1) := by decide +kernel
theorem dX7_write_2 : decode cX7_write 2 = .ok (.putfield 62, 3) := by decide +kernel
theorem dX7_write_5 : decode cX7_write 5 = .ok (.iload_n 1, 1) := by decide +kernel
theorem dX7_write_6 : decode cX7_write 6 = .ok (.i2l, 1) := by decide +kernel
theorem dX7_write_7 : decode cX7_write 7 = .ok (.lconst 0, 1) := by decide +kernel
theorem dX7_write_8 : decode cX7_write 8 = .ok (.ldc2_w 76, 3) := by decide +kernel
theorem dX7_write_11 : decode cX7_write 11 = .ok (.invokestatic 69, 3) := by decide +kernel
theorem dX7_write_14 : decode cX7_write 14 = .ok (.ifCond .ne 6, 3) := by decide +kernel
theorem dX7_write_17 : decode cX7_write 17 = .ok (.bipush (-2), 2) := by decide +kernel
theorem dX7_write_19 : decode cX7_write 19 = .ok (.ireturn, 1) := by decide +kernel
theorem dX7_write_20 : decode cX7_write 20 = .ok (.aload_n 0, 1) := by decide +kernel
theorem dX7_write_21 : decode cX7_write 21 = .ok (.getfield 78, 3) := by decide +kernel
theorem dX7_write_24 : decode cX7_write 24 = .ok (.bipush 60, 2) := by decide +kernel
theorem dX7_write_26 : decode cX7_write 26 = .ok (.if_icmp .ne 6, 3) := by decide +kernel
theorem dX7_write_29 : decode cX7_write 29 = .ok (.bipush (-4), 2) := by decide +kernel
theorem dX7_write_31 : decode cX7_write 31 = .ok (.ireturn, 1) := by decide +kernel
theorem dX7_write_32 : decode cX7_write 32 = .ok (.aload_n 0, 1) := by decide +kernel
theorem dX7_write_33 : decode cX7_write 33 = .ok (.getfield 7, 3) := by decide +kernel
theorem dX7_write_36 : decode cX7_write 36 = .ok (.aload_n 0, 1) := by decide +kernel
theorem dX7_write_37 : decode cX7_write 37 = .ok (.getfield 78, 3) := by decide +kernel
theorem dX7_write_40 : decode cX7_write 40 = .ok (.iload_n 1, 1) := by decide +kernel
theorem dX7_write_41 : decode cX7_write 41 = .ok (.iastore, 1) := by decide +kernel
theorem dX7_write_42 : decode cX7_write 42 = .ok (.aload_n 0, 1) := by decide +kernel
theorem dX7_write_43 : decode cX7_write 43 = .ok (.dup, 1) := by decide +kernel
theorem dX7_write_44 : decode cX7_write 44 = .ok (.getfield 78, 3) := by decide +kernel
theorem dX7_write_47 : decode cX7_write 47 = .ok (.iconst 1, 1) := by decide +kernel
theorem dX7_write_48 : decode cX7_write 48 = .ok (.iadd, 1) := by decide +kernel
theorem dX7_write_49 : decode cX7_write 49 = .ok (.putfield 78, 3) := by decide +kernel
theorem dX7_write_52 : decode cX7_write 52 = .ok (.aload_n 0, 1) := by decide +kernel
theorem dX7_write_53 : decode cX7_write 53 = .ok (.getfield 78, 3) := by decide +kernel
theorem dX7_write_56 : decode cX7_write 56 = .ok (.ireturn, 1) := by decide +kernel
theorem dX7_wipe_0 : decode cX7_wipe 0 = .ok (.aload_n 0, 1) := by decide +kernel
theorem dX7_wipe_1 : decode cX7_wipe 1 = .ok (.iconst 0, 1) := by decide +kernel
theorem dX7_wipe_2 : decode cX7_wipe 2 = .ok (.putfield 62, 3) := by decide +kernel
theorem dX7_wipe_5 : decode cX7_wipe 5 = .ok (.aload_n 0, 1) := by decide +kernel
theorem dX7_wipe_6 : decode cX7_wipe 6 = .ok (.getfield 78, 3) := by decide +kernel
theorem dX7_wipe_9 : decode cX7_wipe 9 = .ok (.istore_n 1, 1) := by decide +kernel
theorem dX7_wipe_10 : decode cX7_wipe 10 = .ok (.aload_n 0, 1) := by decide +kernel
theorem dX7_wipe_11 : decode cX7_wipe 11 = .ok (.iconst 0, 1) := by decide +kernel
theorem dX7_wipe_12 : decode cX7_wipe 12 = .ok (.putfield 78, 3) := by decide +kernel
theorem dX7_wipe_15 : decode cX7_wipe 15 = .ok (.iload_n 1, 1) := by decide +kernel
theorem dX7_wipe_16 : decode cX7_wipe 16 = .ok (.ireturn, 1) := by decide +kernel
set_option maxRecDepth 20000 in
theorem ggX7_figure_X7_in : GoodIn wsX7_figure wsX7_in := goodIn_r _ [7] (by decide +kernel) (by decide +kernel)
set_option maxRecDepth 20000 in
theorem gX7_figure_X7_in : GoodIn wsX7_figure (va_wsS RX7 69 yX7_in wsX7_in) := goodIn_app (goodIn_of _ (by decide +kernel)) ggX7_figure_X7_in
theorem dX7_figure_0 : decode cX7_figure 0 = .ok (.aload_n 0, 1) := by decide +kernel
theorem dX7_figure_1 : decode cX7_figure 1 = .ok (.getfield 81, 3) := by decide +kernel
theorem dX7_figure_4 : decode cX7_figure 4 = .ok (.aload_n 0, 1) := by decide +kernel
theorem dX7_figure_5 : decode cX7_figure 5 = .ok (.getfield 78, 3) := by decide +kernel
theorem dX7_figure_8 : decode cX7_figure 8 = .ok (.if_icmp .eq 25, 3) := by decide +kernel
theorem dX7_figure_11 : decode cX7_figure 11 = .ok (.aload_n 0, 1) := by decide +kernel
theorem dX7_figure_12 : decode cX7_figure 12 = .ok (.getfield 7, 3) := by decide +kernel
theorem dX7_figure_15 : decode cX7_figure 15 = .ok (.aload_n 0, 1) := by decide +kernel
theorem dX7_figure_16 : decode cX7_figure 16 = .ok (.getfield 81, 3) := by decide +kernel
theorem dX7_figure_19 : decode cX7_figure 19 = .ok (.iaload, 1) := by decide +kernel
theorem dX7_figure_20 : decode cX7_figure 20 = .ok (.bipush 48, 2) := by decide +kernel
theorem dX7_figure_22 : decode cX7_figure 22 = .ok (.isub, 1) := by decide +kernel
theorem dX7_figure_23 : decode cX7_figure 23 = .ok (.i2l, 1) := by decide +kernel
theorem dX7_figure_24 : decode cX7_figure 24 = .ok (.lconst 0, 1) := by decide +kernel
theorem dX7_figure_25 : decode cX7_figure 25 = .ok (.iload_n 1, 1) := by decide +kernel
theorem dX7_figure_26 : decode cX7_figure 26 = .ok (.i2l, 1) := by decide +kernel
theorem dX7_figure_27 : decode cX7_figure 27 = .ok (.invokestatic 69, 3) := by decide +kernel
theorem dX7_figure_30 : decode cX7_figure 30 = .ok (.ifCond .ne 6, 3) := by decide +kernel
theorem dX7_figure_33 : decode cX7_figure 33 = .ok (.bipush (-9), 2) := by decide +kernel
theorem dX7_figure_35 : decode cX7_figure 35 = .ok (.ireturn, 1) := by decide +kernel
theorem dX7_figure_36 : decode cX7_figure 36 = .ok (.aload_n 0, 1) := by decide +kernel
theorem dX7_figure_37 : decode cX7_figure 37 = .ok (.dup, 1) := by decide +kernel
theorem dX7_figure_38 : decode cX7_figure 38 = .ok (.getfield 81, 3) := by decide +kernel
theorem dX7_figure_41 : decode cX7_figure 41 = .ok (.iconst 1, 1) := by decide +kernel
theorem dX7_figure_42 : decode cX7_figure 42 = .ok (.iadd, 1) := by decide +kernel
theorem dX7_figure_43 : decode cX7_figure 43 = .ok (.putfield 81, 3) := by decide +kernel
theorem dX7_figure_46 : decode cX7_figure 46 = .ok (.aload_n 0, 1) := by decide +kernel
theorem dX7_figure_47 : decode cX7_figure 47 = .ok (.getfield 7, 3) := by decide +kernel
theorem dX7_figure_50 : decode cX7_figure 50 = .ok (.aload_n 0, 1) := by decide +kernel
theorem dX7_figure_51 : decode cX7_figure 51 = .ok (.getfield 81, 3) := by decide +kernel
theorem dX7_figure_54 : decode cX7_figure 54 = .ok (.iconst 1, 1) := by decide +kernel
theorem dX7_figure_55 : decode cX7_figure 55 = .ok (.isub, 1) := by decide +kernel
theorem dX7_figure_56 : decode cX7_figure 56 = .ok (.iaload, 1) := by decide +kernel
theorem dX7_figure_57 : decode cX7_figure 57 = .ok (.bipush 48, 2) := by decide +kernel
theorem dX7_figure_59 : decode cX7_figure 59 = .ok (.isub, 1) := by decide +kernel
theorem dX7_figure_60 : decode cX7_figure 60 = .ok (.ireturn, 1) := by decide +kernel
set_option maxRecDepth 20000 in
theorem ggX7_readOneBag_X7_figure : GoodIn wsX7_readOneBag wsX7_figure := goodIn_r _ [7, 8, 9, 10, 11, 12, 6, 13, 14, 15, 16, 17, 18, 19, 20, 21, 22, 23, 24, 25, 26, 27, 28, 29, 30, 31, 32, 33, 34, 35, 36, 37, 38, 39, 40, 41, 42, 43, 44, 45, 46] (by decide +kernel) (by decide +kernel)
set_option maxRecDepth 20000 in
theorem gX7_readOneBag_X7_figure : GoodIn wsX7_readOneBag (wsV RX7 84 RX7 yX7_figure wsX7_figure) := goodIn_app (goodIn_of _ (by decide +kernel)) ggX7_readOneBag_X7_figure
theorem dX7_readOneBag_0 : decode cX7_readOneBag 0 = .ok (.aload_n 0, 1) := by decide +kernel
theorem dX7_readOneBag_1 : decode cX7_readOneBag 1 = .ok (.iconst 3, 1) := by decide +kernel
theorem dX7_readOneBag_2 : decode cX7_readOneBag 2 = .ok (.invokevirtual 84, 3) := by decide +kernel
theorem dX7_readOneBag_5 : decode cX7_readOneBag 5 = .ok (.istore_n 1, 1) := by decide +kernel
theorem dX7_readOneBag_6 : decode cX7_readOneBag 6 = .ok (.iload_n 1, 1) := by decide +kernel
theorem dX7_readOneBag_7 : decode cX7_readOneBag 7 = .ok (.bipush (-9), 2) := by decide +kernel
theorem dX7_readOneBag_9 : decode cX7_readOneBag 9 = .ok (.if_icmp .ne 5, 3) := by decide +kernel
theorem dX7_readOneBag_12 : decode cX7_readOneBag 12 = .ok (.iconst 0, 1) := by decide +kernel
theorem dX7_readOneBag_13 : decode cX7_readOneBag 13 = .ok (.ireturn, 1) := by decide +kernel
theorem dX7_readOneBag_14 : decode cX7_readOneBag 14 = .ok (.aload_n 0, 1) := by decide +kernel
theorem dX7_readOneBag_15 : decode cX7_readOneBag 15 = .ok (.getfield 19, 3) := by decide +kernel
theorem dX7_readOneBag_18 : decode cX7_readOneBag 18 = .ok (.aload_n 0, 1) := by decide +kernel
theorem dX7_readOneBag_19 : decode cX7_readOneBag 19 = .ok (.getfield 88, 3) := by decide +kernel
theorem dX7_readOneBag_22 : decode cX7_readOneBag 22 = .ok (.iload_n 1, 1) := by decide +kernel
theorem dX7_readOneBag_23 : decode cX7_readOneBag 23 = .ok (.iastore, 1) := by decide +kernel
theorem dX7_readOneBag_24 : decode cX7_readOneBag 24 = .ok (.aload_n 0, 1) := by decide +kernel
theorem dX7_readOneBag_25 : decode cX7_readOneBag 25 = .ok (.dup, 1) := by decide +kernel
theorem dX7_readOneBag_26 : decode cX7_readOneBag 26 = .ok (.getfield 88, 3) := by decide +kernel
theorem dX7_readOneBag_29 : decode cX7_readOneBag 29 = .ok (.iconst 1, 1) := by decide +kernel
theorem dX7_readOneBag_30 : decode cX7_readOneBag 30 = .ok (.iadd, 1) := by decide +kernel
theorem dX7_readOneBag_31 : decode cX7_readOneBag 31 = .ok (.putfield 88, 3) := by decide +kernel
theorem dX7_readOneBag_34 : decode cX7_readOneBag 34 = .ok (.iconst 1, 1) := by decide +kernel
theorem dX7_readOneBag_35 : decode cX7_readOneBag 35 = .ok (.ireturn, 1) := by decide +kernel
set_option maxRecDepth 20000 in
theorem ggX7_readOneMan_X7_figure : GoodIn wsX7_readOneMan wsX7_figure := goodIn_r _ [7, 8, 9, 10, 11, 12, 6, 13, 14, 15, 16, 17, 18, 19, 20, 21, 22, 23, 24, 25, 26, 27, 28, 29, 30, 31, 32, 33, 34, 35, 36, 37, 38, 39, 40, 41, 42, 43, 44, 45, 46] (by decide +kernel) (by decide +kernel)
set_option maxRecDepth 20000 in
theorem gX7_readOneMan_X7_figure : GoodIn wsX7_readOneMan (wsV RX7 84 RX7 yX7_figure wsX7_figure) := goodIn_app (goodIn_of _ (by decide +kernel)) ggX7_readOneMan_X7_figure
theorem dX7_readOneMan_0 : decode cX7_readOneMan 0 = .ok (.aload_n 0, 1) := by decide +kernel
theorem dX7_readOneMan_1 : decode cX7_readOneMan 1 = .ok (.bipush 9, 2) := by decide +kernel
theorem dX7_readOneMan_3 : decode cX7_readOneMan 3 = .ok (.invokevirtual 84, 3) := by decide +kernel
theorem dX7_readOneMan_6 : decode cX7_readOneMan 6 = .ok (.istore_n 1, 1) := by decide +kernel
theorem dX7_readOneMan_7 : decode cX7_readOneMan 7 = .ok (.iload_n 1, 1) := by decide +kernel
theorem dX7_readOneMan_8 : decode cX7_readOneMan 8 = .ok (.bipush (-9), 2) := by decide +kernel
theorem dX7_readOneMan_10 : decode cX7_readOneMan 10 = .ok (.if_icmp .ne 8, 3) := by decide +kernel
theorem dX7_readOneMan_13 : decode cX7_readOneMan 13 = .ok (.bipush (-9), 2) := by decide +kernel
theorem dX7_readOneMan_15 : decode cX7_readOneMan 15 = .ok (.goto 8, 3) := by decide +kernel
theorem dX7_readOneMan_18 : decode cX7_readOneMan 18 = .ok (.aload_n 0, 1) := by decide +kernel
theorem dX7_readOneMan_19 : decode cX7_readOneMan 19 = .ok (.iconst 3, 1) := by decide +kernel
theorem dX7_readOneMan_20 : decode cX7_readOneMan 20 = .ok (.invokevirtual 84, 3) := by decide +kernel
theorem dX7_readOneMan_23 : decode cX7_readOneMan 23 = .ok (.istore_n 2, 1) := by decide +kernel
theorem dX7_readOneMan_24 : decode cX7_readOneMan 24 = .ok (.iload_n 2, 1) := by decide +kernel
theorem dX7_readOneMan_25 : decode cX7_readOneMan 25 = .ok (.bipush (-9), 2) := by decide +kernel
theorem dX7_readOneMan_27 : decode cX7_readOneMan 27 = .ok (.if_icmp .ne 5, 3) := by decide +kernel
theorem dX7_readOneMan_30 : decode cX7_readOneMan 30 = .ok (.iconst 0, 1) := by decide +kernel
theorem dX7_readOneMan_31 : decode cX7_readOneMan 31 = .ok (.ireturn, 1) := by decide +kernel
theorem dX7_readOneMan_32 : decode cX7_readOneMan 32 = .ok (.aload_n 0, 1) := by decide +kernel
theorem dX7_readOneMan_33 : decode cX7_readOneMan 33 = .ok (.getfield 22, 3) := by decide +kernel
theorem dX7_readOneMan_36 : decode cX7_readOneMan 36 = .ok (.iconst 2, 1) := by decide +kernel
theorem dX7_readOneMan_37 : decode cX7_readOneMan 37 = .ok (.aload_n 0, 1) := by decide +kernel
theorem dX7_readOneMan_38 : decode cX7_readOneMan 38 = .ok (.getfield 91, 3) := by decide +kernel
theorem dX7_readOneMan_41 : decode cX7_readOneMan 41 = .ok (.imul, 1) := by decide +kernel
theorem dX7_readOneMan_42 : decode cX7_readOneMan 42 = .ok (.iload_n 1, 1) := by decide +kernel
theorem dX7_readOneMan_43 : decode cX7_readOneMan 43 = .ok (.iastore, 1) := by decide +kernel
theorem dX7_readOneMan_44 : decode cX7_readOneMan 44 = .ok (.aload_n 0, 1) := by decide +kernel
theorem dX7_readOneMan_45 : decode cX7_readOneMan 45 = .ok (.getfield 22, 3) := by decide +kernel
theorem dX7_readOneMan_48 : decode cX7_readOneMan 48 = .ok (.iconst 2, 1) := by decide +kernel
theorem dX7_readOneMan_49 : decode cX7_readOneMan 49 = .ok (.aload_n 0, 1) := by decide +kernel
theorem dX7_readOneMan_50 : decode cX7_readOneMan 50 = .ok (.getfield 91, 3) := by decide +kernel
theorem dX7_readOneMan_53 : decode cX7_readOneMan 53 = .ok (.imul, 1) := by decide +kernel
theorem dX7_readOneMan_54 : decode cX7_readOneMan 54 = .ok (.iconst 1, 1) := by decide +kernel
theorem dX7_readOneMan_55 : decode cX7_readOneMan 55 = .ok (.iadd, 1) := by decide +kernel
theorem dX7_readOneMan_56 : decode cX7_readOneMan 56 = .ok (.iload_n 2, 1) := by decide +kernel
theorem dX7_readOneMan_57 : decode cX7_readOneMan 57 = .ok (.iastore, 1) := by decide +kernel
theorem dX7_readOneMan_58 : decode cX7_readOneMan 58 = .ok (.aload_n 0, 1) := by decide +kernel
theorem dX7_readOneMan_59 : decode cX7_readOneMan 59 = .ok (.dup, 1) := by decide +kernel
theorem dX7_readOneMan_60 : decode cX7_readOneMan 60 = .ok (.getfield 91, 3) := by decide +kernel
theorem dX7_readOneMan_63 : decode cX7_readOneMan 63 = .ok (.iconst 1, 1) := by decide +kernel
theorem dX7_readOneMan_64 : decode cX7_readOneMan 64 = .ok (.iadd, 1) := by decide +kernel
theorem dX7_readOneMan_65 : decode cX7_readOneMan 65 = .ok (.putfield 91, 3) := by decide +kernel
theorem dX7_readOneMan_68 : decode cX7_readOneMan 68 = .ok (.iconst 1, 1) := by decide +kernel
theorem dX7_readOneMan_69 : decode cX7_readOneMan 69 = .ok (.ireturn, 1) := by decide +kernel
theorem dX7_lay_0 : decode cX7_lay 0 = .ok (.aload_n 0, 1) := by decide +kernel
theorem dX7_lay_1 : decode cX7_lay 1 = .ok (.iconst 3, 1) := by decide +kernel
theorem dX7_lay_2 : decode cX7_lay 2 = .ok (.bipush 9, 2) := by decide +kernel
theorem dX7_lay_4 : decode cX7_lay 4 = .ok (.iload_n 2, 1) := by decide +kernel
theorem dX7_lay_5 : decode cX7_lay 5 = .ok (.imul, 1) := by decide +kernel
theorem dX7_lay_6 : decode cX7_lay 6 = .ok (.iadd, 1) := by decide +kernel
theorem dX7_lay_7 : decode cX7_lay 7 = .ok (.aload_n 0, 1) := by decide +kernel
theorem dX7_lay_8 : decode cX7_lay 8 = .ok (.iload_n 2, 1) := by decide +kernel
theorem dX7_lay_9 : decode cX7_lay 9 = .ok (.iaload, 1) := by decide +kernel
theorem dX7_lay_10 : decode cX7_lay 10 = .ok (.iadd, 1) := by decide +kernel
theorem dX7_lay_11 : decode cX7_lay 11 = .ok (.iload_n 1, 1) := by decide +kernel
theorem dX7_lay_12 : decode cX7_lay 12 = .ok (.iastore, 1) := by decide +kernel
theorem dX7_lay_13 : decode cX7_lay 13 = .ok (.aload_n 0, 1) := by decide +kernel
theorem dX7_lay_14 : decode cX7_lay 14 = .ok (.iload_n 2, 1) := by decide +kernel
theorem dX7_lay_15 : decode cX7_lay 15 = .ok (.dup2, 1) := by decide +kernel
theorem dX7_lay_16 : decode cX7_lay 16 = .ok (.iaload, 1) := by decide +kernel
theorem dX7_lay_17 : decode cX7_lay 17 = .ok (.iconst 1, 1) := by decide +kernel
theorem dX7_lay_18 : decode cX7_lay 18 = .ok (.iadd, 1) := by decide +kernel
theorem dX7_lay_19 : decode cX7_lay 19 = .ok (.iastore, 1) := by decide +kernel
theorem dX7_lay_20 : decode cX7_lay 20 = .ok (.return_, 1) := by decide +kernel
set_option maxRecDepth 20000 in
theorem ggX7_readOneBreath_X7_figure : GoodIn wsX7_readOneBreath wsX7_figure := goodIn_r _ [11, 2, 3, 4, 12, 13, 10, 14, 18, 19, 20, 21, 22, 23, 24, 25, 26, 27, 28, 29, 30, 31, 32, 33, 34, 35, 36, 37, 38, 39, 40, 41, 42, 43, 44, 45, 46, 47, 48, 49, 50] (by decide +kernel) (by decide +kernel)
set_option maxRecDepth 20000 in
theorem gX7_readOneBreath_X7_figure : GoodIn wsX7_readOneBreath (wsV RX7 84 RX7 yX7_figure wsX7_figure) := goodIn_app (goodIn_of _ (by decide +kernel)) ggX7_readOneBreath_X7_figure
set_option maxRecDepth 20000 in
theorem ggX7_readOneBreath_X7_in : GoodIn wsX7_readOneBreath wsX7_in := goodIn_r _ [14] (by decide +kernel) (by decide +kernel)
set_option maxRecDepth 20000 in
theorem gX7_readOneBreath_X7_in : GoodIn wsX7_readOneBreath (va_wsS RX7 69 yX7_in wsX7_in) := goodIn_app (goodIn_of _ (by decide +kernel)) ggX7_readOneBreath_X7_in
set_option maxRecDepth 20000 in
theorem ggX7_readOneBreath_X7_lay : GoodIn wsX7_readOneBreath wsX7_lay := goodIn_r _ [17] (by decide +kernel) (by decide +kernel)
set_option maxRecDepth 20000 in
theorem gX7_readOneBreath_X7_lay : GoodIn wsX7_readOneBreath (va_wsS RX7 94 yX7_lay wsX7_lay) := goodIn_app (goodIn_of _ (by decide +kernel)) ggX7_readOneBreath_X7_lay
theorem dX7_readOneBreath_0 : decode cX7_readOneBreath 0 = .ok (.aload_n 0, 1) := by decide +kernel
theorem dX7_readOneBreath_1 : decode cX7_readOneBreath 1 = .ok (.aload_n 0, 1) := by decide +kernel
theorem dX7_readOneBreath_2 : decode cX7_readOneBreath 2 = .ok (.getfield 91, 3) := by decide +kernel
theorem dX7_readOneBreath_5 : decode cX7_readOneBreath 5 = .ok (.iconst 1, 1) := by decide +kernel
theorem dX7_readOneBreath_6 : decode cX7_readOneBreath 6 = .ok (.isub, 1) := by decide +kernel
theorem dX7_readOneBreath_7 : decode cX7_readOneBreath 7 = .ok (.invokevirtual 84, 3) := by decide +kernel
theorem dX7_readOneBreath_10 : decode cX7_readOneBreath 10 = .ok (.istore_n 1, 1) := by decide +kernel
theorem dX7_readOneBreath_11 : decode cX7_readOneBreath 11 = .ok (.iload_n 1, 1) := by decide +kernel
theorem dX7_readOneBreath_12 : decode cX7_readOneBreath 12 = .ok (.bipush (-9), 2) := by decide +kernel
theorem dX7_readOneBreath_14 : decode cX7_readOneBreath 14 = .ok (.if_icmp .ne 5, 3) := by decide +kernel
theorem dX7_readOneBreath_17 : decode cX7_readOneBreath 17 = .ok (.iconst 0, 1) := by decide +kernel
theorem dX7_readOneBreath_18 : decode cX7_readOneBreath 18 = .ok (.ireturn, 1) := by decide +kernel
theorem dX7_readOneBreath_19 : decode cX7_readOneBreath 19 = .ok (.aload_n 0, 1) := by decide +kernel
theorem dX7_readOneBreath_20 : decode cX7_readOneBreath 20 = .ok (.getfield 81, 3) := by decide +kernel
theorem dX7_readOneBreath_23 : decode cX7_readOneBreath 23 = .ok (.aload_n 0, 1) := by decide +kernel
theorem dX7_readOneBreath_24 : decode cX7_readOneBreath 24 = .ok (.getfield 78, 3) := by decide +kernel
theorem dX7_readOneBreath_27 : decode cX7_readOneBreath 27 = .ok (.if_icmp .ge 18, 3) := by decide +kernel
theorem dX7_readOneBreath_30 : decode cX7_readOneBreath 30 = .ok (.aload_n 0, 1) := by decide +kernel
theorem dX7_readOneBreath_31 : decode cX7_readOneBreath 31 = .ok (.getfield 7, 3) := by decide +kernel
theorem dX7_readOneBreath_34 : decode cX7_readOneBreath 34 = .ok (.aload_n 0, 1) := by decide +kernel
theorem dX7_readOneBreath_35 : decode cX7_readOneBreath 35 = .ok (.getfield 81, 3) := by decide +kernel
theorem dX7_readOneBreath_38 : decode cX7_readOneBreath 38 = .ok (.iaload, 1) := by decide +kernel
theorem dX7_readOneBreath_39 : decode cX7_readOneBreath 39 = .ok (.bipush 48, 2) := by decide +kernel
theorem dX7_readOneBreath_41 : decode cX7_readOneBreath 41 = .ok (.isub, 1) := by decide +kernel
theorem dX7_readOneBreath_42 : decode cX7_readOneBreath 42 = .ok (.goto 5, 3) := by decide +kernel
theorem dX7_readOneBreath_45 : decode cX7_readOneBreath 45 = .ok (.bipush (-9), 2) := by decide +kernel
theorem dX7_readOneBreath_47 : decode cX7_readOneBreath 47 = .ok (.istore_n 2, 1) := by decide +kernel
theorem dX7_readOneBreath_48 : decode cX7_readOneBreath 48 = .ok (.iload_n 2, 1) := by decide +kernel
theorem dX7_readOneBreath_49 : decode cX7_readOneBreath 49 = .ok (.i2l, 1) := by decide +kernel
theorem dX7_readOneBreath_50 : decode cX7_readOneBreath 50 = .ok (.lconst 0, 1) := by decide +kernel
theorem dX7_readOneBreath_51 : decode cX7_readOneBreath 51 = .ok (.aload_n 0, 1) := by decide +kernel
theorem dX7_readOneBreath_52 : decode cX7_readOneBreath 52 = .ok (.getfield 88, 3) := by decide +kernel
theorem dX7_readOneBreath_55 : decode cX7_readOneBreath 55 = .ok (.iconst 1, 1) := by decide +kernel
theorem dX7_readOneBreath_56 : decode cX7_readOneBreath 56 = .ok (.isub, 1) := by decide +kernel
theorem dX7_readOneBreath_57 : decode cX7_readOneBreath 57 = .ok (.i2l, 1) := by decide +kernel
theorem dX7_readOneBreath_58 : decode cX7_readOneBreath 58 = .ok (.invokestatic 69, 3) := by decide +kernel
theorem dX7_readOneBreath_61 : decode cX7_readOneBreath 61 = .ok (.ifCond .eq 14, 3) := by decide +kernel
theorem dX7_readOneBreath_64 : decode cX7_readOneBreath 64 = .ok (.aload_n 0, 1) := by decide +kernel
theorem dX7_readOneBreath_65 : decode cX7_readOneBreath 65 = .ok (.getfield 25, 3) := by decide +kernel
theorem dX7_readOneBreath_68 : decode cX7_readOneBreath 68 = .ok (.iload_n 2, 1) := by decide +kernel
theorem dX7_readOneBreath_69 : decode cX7_readOneBreath 69 = .ok (.iaload, 1) := by decide +kernel
theorem dX7_readOneBreath_70 : decode cX7_readOneBreath 70 = .ok (.bipush 9, 2) := by decide +kernel
theorem dX7_readOneBreath_72 : decode cX7_readOneBreath 72 = .ok (.if_icmp .ne 5, 3) := by decide +kernel
theorem dX7_readOneBreath_75 : decode cX7_readOneBreath 75 = .ok (.iconst 0, 1) := by decide +kernel
theorem dX7_readOneBreath_76 : decode cX7_readOneBreath 76 = .ok (.ireturn, 1) := by decide +kernel
theorem dX7_readOneBreath_77 : decode cX7_readOneBreath 77 = .ok (.aload_n 0, 1) := by decide +kernel
theorem dX7_readOneBreath_78 : decode cX7_readOneBreath 78 = .ok (.dup, 1) := by decide +kernel
theorem dX7_readOneBreath_79 : decode cX7_readOneBreath 79 = .ok (.getfield 81, 3) := by decide +kernel
theorem dX7_readOneBreath_82 : decode cX7_readOneBreath 82 = .ok (.iconst 1, 1) := by decide +kernel
theorem dX7_readOneBreath_83 : decode cX7_readOneBreath 83 = .ok (.iadd, 1) := by decide +kernel
theorem dX7_readOneBreath_84 : decode cX7_readOneBreath 84 = .ok (.putfield 81, 3) := by decide +kernel
theorem dX7_readOneBreath_87 : decode cX7_readOneBreath 87 = .ok (.aload_n 0, 1) := by decide +kernel
theorem dX7_readOneBreath_88 : decode cX7_readOneBreath 88 = .ok (.getfield 25, 3) := by decide +kernel
theorem dX7_readOneBreath_91 : decode cX7_readOneBreath 91 = .ok (.iload_n 1, 1) := by decide +kernel
theorem dX7_readOneBreath_92 : decode cX7_readOneBreath 92 = .ok (.iload_n 2, 1) := by decide +kernel
theorem dX7_readOneBreath_93 : decode cX7_readOneBreath 93 = .ok (.invokestatic 94, 3) := by decide +kernel
theorem dX7_readOneBreath_96 : decode cX7_readOneBreath 96 = .ok (.iconst 1, 1) := by decide +kernel
theorem dX7_readOneBreath_97 : decode cX7_readOneBreath 97 = .ok (.ireturn, 1) := by decide +kernel
theorem dX7_hasRoom_0 : decode cX7_hasRoom 0 = .ok (.iconst 0, 1) := by decide +kernel
theorem dX7_hasRoom_1 : decode cX7_hasRoom 1 = .ok (.istore_n 1, 1) := by decide +kernel
theorem dX7_hasRoom_2 : decode cX7_hasRoom 2 = .ok (.iconst 0, 1) := by decide +kernel
theorem dX7_hasRoom_3 : decode cX7_hasRoom 3 = .ok (.istore_n 2, 1) := by decide +kernel
theorem dX7_hasRoom_4 : decode cX7_hasRoom 4 = .ok (.iload_n 2, 1) := by decide +kernel
theorem dX7_hasRoom_5 : decode cX7_hasRoom 5 = .ok (.aload_n 0, 1) := by decide +kernel
theorem dX7_hasRoom_6 : decode cX7_hasRoom 6 = .ok (.getfield 88, 3) := by decide +kernel
theorem dX7_hasRoom_9 : decode cX7_hasRoom 9 = .ok (.if_icmp .ge 30, 3) := by decide +kernel
theorem dX7_hasRoom_12 : decode cX7_hasRoom 12 = .ok (.iload_n 1, 1) := by decide +kernel
theorem dX7_hasRoom_13 : decode cX7_hasRoom 13 = .ok (.ifCond .ne 14, 3) := by decide +kernel
theorem dX7_hasRoom_16 : decode cX7_hasRoom 16 = .ok (.aload_n 0, 1) := by decide +kernel
theorem dX7_hasRoom_17 : decode cX7_hasRoom 17 = .ok (.getfield 25, 3) := by decide +kernel
theorem dX7_hasRoom_20 : decode cX7_hasRoom 20 = .ok (.iload_n 2, 1) := by decide +kernel
theorem dX7_hasRoom_21 : decode cX7_hasRoom 21 = .ok (.iaload, 1) := by decide +kernel
theorem dX7_hasRoom_22 : decode cX7_hasRoom 22 = .ok (.bipush 9, 2) := by decide +kernel
theorem dX7_hasRoom_24 : decode cX7_hasRoom 24 = .ok (.if_icmp .ge 7, 3) := by decide +kernel
theorem dX7_hasRoom_27 : decode cX7_hasRoom 27 = .ok (.iconst 1, 1) := by decide +kernel
theorem dX7_hasRoom_28 : decode cX7_hasRoom 28 = .ok (.goto 4, 3) := by decide +kernel
theorem dX7_hasRoom_31 : decode cX7_hasRoom 31 = .ok (.iconst 0, 1) := by decide +kernel
theorem dX7_hasRoom_32 : decode cX7_hasRoom 32 = .ok (.istore_n 1, 1) := by decide +kernel
theorem dX7_hasRoom_33 : decode cX7_hasRoom 33 = .ok (.iinc 2 1, 3) := by decide +kernel
theorem dX7_hasRoom_36 : decode cX7_hasRoom 36 = .ok (.goto (-32), 3) := by decide +kernel
theorem dX7_hasRoom_39 : decode cX7_hasRoom 39 = .ok (.iload_n 1, 1) := by decide +kernel
theorem dX7_hasRoom_40 : decode cX7_hasRoom 40 = .ok (.ireturn, 1) := by decide +kernel
set_option maxRecDepth 20000 in
theorem ggX7_readThing_X7_readOneBag : GoodIn wsX7_readThing wsX7_readOneBag := goodIn_r _ [9, 10, 3, 11, 12, 13, 8, 14, 2, 15, 1, 16, 17, 18, 36, 37, 38, 39, 40, 41, 42, 43, 44, 45, 46, 47, 48, 49, 50, 51, 52, 53, 54, 55, 56, 57, 58, 59, 60, 61, 62, 63, 64, 65, 66, 67, 68] (by decide +kernel) (by decide +kernel)
set_option maxRecDepth 20000 in
theorem gX7_readThing_X7_readOneBag : GoodIn wsX7_readThing (wsV RX7 98 RX7 yX7_readOneBag wsX7_readOneBag) := goodIn_app (goodIn_of _ (by decide +kernel)) ggX7_readThing_X7_readOneBag
set_option maxRecDepth 20000 in
theorem ggX7_readThing_X7_readOneMan : GoodIn wsX7_readThing wsX7_readOneMan := goodIn_r _ [22, 23, 4, 11, 12, 13, 8, 14, 2, 15, 1, 16, 17, 18, 36, 37, 38, 39, 40, 41, 42, 43, 44, 45, 46, 47, 48, 49, 50, 51, 52, 53, 54, 55, 56, 57, 58, 59, 60, 61, 62, 63, 64, 65, 66, 67, 68] (by decide +kernel) (by decide +kernel)
set_option maxRecDepth 20000 in
theorem gX7_readThing_X7_readOneMan : GoodIn wsX7_readThing (wsV RX7 102 RX7 yX7_readOneMan wsX7_readOneMan) := goodIn_app (goodIn_of _ (by decide +kernel)) ggX7_readThing_X7_readOneMan
set_option maxRecDepth 20000 in
theorem ggX7_readThing_X7_hasRoom : GoodIn wsX7_readThing wsX7_hasRoom := goodIn_r _ [27, 3, 28, 36, 37, 38, 39, 40, 41, 42, 43, 44, 45, 46, 47, 48, 49, 50, 51, 52, 53, 54, 55, 56, 57, 58, 59, 60, 61, 62, 63, 64, 65, 66, 67, 68] (by decide +kernel) (by decide +kernel)
set_option maxRecDepth 20000 in
theorem gX7_readThing_X7_hasRoom : GoodIn wsX7_readThing (wsV RX7 105 RX7 yX7_hasRoom wsX7_hasRoom) := goodIn_app (goodIn_of _ (by decide +kernel)) ggX7_readThing_X7_hasRoom
set_option maxRecDepth 20000 in
theorem ggX7_readThing_X7_readOneBreath : GoodIn wsX7_readThing wsX7_readOneBreath := goodIn_r _ [32, 4, 2, 15, 1, 3, 28, 11, 12, 13, 8, 14, 16, 17, 18, 33, 34, 35, 36, 37, 38, 39, 40, 41, 42, 43, 44, 45, 46, 47, 48, 49, 50, 51, 52, 53, 54, 55, 56, 57, 58, 59, 60, 61, 62, 63, 64, 65, 66, 67, 68] (by decide +kernel) (by decide +kernel)
set_option maxRecDepth 20000 in
theorem gX7_readThing_X7_readOneBreath : GoodIn wsX7_readThing (wsV RX7 108 RX7 yX7_readOneBreath wsX7_readOneBreath) := goodIn_app (goodIn_of _ (by decide +kernel)) ggX7_readThing_X7_readOneBreath
theorem dX7_readThing_0 : decode cX7_readThing 0 = .ok (.aload_n 0, 1) := by decide +kernel
theorem dX7_readThing_1 : decode cX7_readThing 1 = .ok (.getfield 7, 3) := by decide +kernel
theorem dX7_readThing_4 : decode cX7_readThing 4 = .ok (.aload_n 0, 1) := by decide +kernel
theorem dX7_readThing_5 : decode cX7_readThing 5 = .ok (.getfield 81, 3) := by decide +kernel
theorem dX7_readThing_8 : decode cX7_readThing 8 = .ok (.iaload, 1) := by decide +kernel
theorem dX7_readThing_9 : decode cX7_readThing 9 = .ok (.istore_n 1, 1) := by decide +kernel
theorem dX7_readThing_10 : decode cX7_readThing 10 = .ok (.aload_n 0, 1) := by decide +kernel
theorem dX7_readThing_11 : decode cX7_readThing 11 = .ok (.dup, 1) := by decide +kernel
theorem dX7_readThing_12 : decode cX7_readThing 12 = .ok (.getfield 81, 3) := by decide +kernel
theorem dX7_readThing_15 : decode cX7_readThing 15 = .ok (.iconst 1, 1) := by decide +kernel
theorem dX7_readThing_16 : decode cX7_readThing 16 = .ok (.iadd, 1) := by decide +kernel
theorem dX7_readThing_17 : decode cX7_readThing 17 = .ok (.putfield 81, 3) := by decide +kernel
theorem dX7_readThing_20 : decode cX7_readThing 20 = .ok (.iload_n 1, 1) := by decide +kernel
theorem dX7_readThing_21 : decode cX7_readThing 21 = .ok (.bipush 71, 2) := by decide +kernel
theorem dX7_readThing_23 : decode cX7_readThing 23 = .ok (.if_icmp .ne 16, 3) := by decide +kernel
theorem dX7_readThing_26 : decode cX7_readThing 26 = .ok (.aload_n 0, 1) := by decide +kernel
theorem dX7_readThing_27 : decode cX7_readThing 27 = .ok (.getfield 88, 3) := by decide +kernel
theorem dX7_readThing_30 : decode cX7_readThing 30 = .ok (.iconst 3, 1) := by decide +kernel
theorem dX7_readThing_31 : decode cX7_readThing 31 = .ok (.if_icmp .ge 8, 3) := by decide +kernel
theorem dX7_readThing_34 : decode cX7_readThing 34 = .ok (.aload_n 0, 1) := by decide +kernel
theorem dX7_readThing_35 : decode cX7_readThing 35 = .ok (.invokevirtual 98, 3) := by decide +kernel
theorem dX7_readThing_38 : decode cX7_readThing 38 = .ok (.ireturn, 1) := by decide +kernel
theorem dX7_readThing_39 : decode cX7_readThing 39 = .ok (.iload_n 1, 1) := by decide +kernel
theorem dX7_readThing_40 : decode cX7_readThing 40 = .ok (.bipush 77, 2) := by decide +kernel
theorem dX7_readThing_42 : decode cX7_readThing 42 = .ok (.if_icmp .ne 16, 3) := by decide +kernel
theorem dX7_readThing_45 : decode cX7_readThing 45 = .ok (.aload_n 0, 1) := by decide +kernel
theorem dX7_readThing_46 : decode cX7_readThing 46 = .ok (.getfield 91, 3) := by decide +kernel
theorem dX7_readThing_49 : decode cX7_readThing 49 = .ok (.iconst 5, 1) := by decide +kernel
theorem dX7_readThing_50 : decode cX7_readThing 50 = .ok (.if_icmp .ge 8, 3) := by decide +kernel
theorem dX7_readThing_53 : decode cX7_readThing 53 = .ok (.aload_n 0, 1) := by decide +kernel
theorem dX7_readThing_54 : decode cX7_readThing 54 = .ok (.invokevirtual 102, 3) := by decide +kernel
theorem dX7_readThing_57 : decode cX7_readThing 57 = .ok (.ireturn, 1) := by decide +kernel
theorem dX7_readThing_58 : decode cX7_readThing 58 = .ok (.iload_n 1, 1) := by decide +kernel
theorem dX7_readThing_59 : decode cX7_readThing 59 = .ok (.bipush 80, 2) := by decide +kernel
theorem dX7_readThing_61 : decode cX7_readThing 61 = .ok (.if_icmp .ne 22, 3) := by decide +kernel
theorem dX7_readThing_64 : decode cX7_readThing 64 = .ok (.aload_n 0, 1) := by decide +kernel
theorem dX7_readThing_65 : decode cX7_readThing 65 = .ok (.getfield 91, 3) := by decide +kernel
theorem dX7_readThing_68 : decode cX7_readThing 68 = .ok (.ifCond .le 15, 3) := by decide +kernel
theorem dX7_readThing_71 : decode cX7_readThing 71 = .ok (.aload_n 0, 1) := by decide +kernel
theorem dX7_readThing_72 : decode cX7_readThing 72 = .ok (.invokevirtual 105, 3) := by decide +kernel
theorem dX7_readThing_75 : decode cX7_readThing 75 = .ok (.ifCond .eq 8, 3) := by decide +kernel
theorem dX7_readThing_78 : decode cX7_readThing 78 = .ok (.aload_n 0, 1) := by decide +kernel
theorem dX7_readThing_79 : decode cX7_readThing 79 = .ok (.invokevirtual 108, 3) := by decide +kernel
theorem dX7_readThing_82 : decode cX7_readThing 82 = .ok (.ireturn, 1) := by decide +kernel
theorem dX7_readThing_83 : decode cX7_readThing 83 = .ok (.aload_n 0, 1) := by decide +kernel
theorem dX7_readThing_84 : decode cX7_readThing 84 = .ok (.dup, 1) := by decide +kernel
theorem dX7_readThing_85 : decode cX7_readThing 85 = .ok (.getfield 81, 3) := by decide +kernel
theorem dX7_readThing_88 : decode cX7_readThing 88 = .ok (.iconst 1, 1) := by decide +kernel
theorem dX7_readThing_89 : decode cX7_readThing 89 = .ok (.isub, 1) := by decide +kernel
theorem dX7_readThing_90 : decode cX7_readThing 90 = .ok (.putfield 81, 3) := by decide +kernel
theorem dX7_readThing_93 : decode cX7_readThing 93 = .ok (.iconst 0, 1) := by decide +kernel
theorem dX7_readThing_94 : decode cX7_readThing 94 = .ok (.ireturn, 1) := by decide +kernel
set_option maxRecDepth 20000 in
theorem ggX7_readRegiment_X7_readThing : GoodIn wsX7_readRegiment wsX7_readThing := goodIn_r _ [11, 6, 1, 2, 3, 12, 13, 14, 10, 15, 16, 17, 18, 19, 20, 5, 21, 22, 23, 24, 25, 26, 27, 28, 29, 30, 31, 32, 4, 33, 34, 35, 36, 37, 38, 39, 40, 41, 42, 43, 44, 45, 46, 47, 48, 49, 50, 51, 52, 53, 54, 55, 56, 57, 58, 59, 60, 61, 62, 63, 64, 65, 66, 67, 68, 69, 70, 71, 72] (by decide +kernel) (by decide +kernel)
set_option maxRecDepth 20000 in
theorem gX7_readRegiment_X7_readThing : GoodIn wsX7_readRegiment (wsV RX7 111 RX7 yX7_readThing wsX7_readThing) := goodIn_app (goodIn_of _ (by decide +kernel)) ggX7_readRegiment_X7_readThing
theorem dX7_readRegiment_0 : decode cX7_readRegiment 0 = .ok (.aload_n 0, 1) := by decide +kernel
theorem dX7_readRegiment_1 : decode cX7_readRegiment 1 = .ok (.iconst 0, 1) := by decide +kernel
theorem dX7_readRegiment_2 : decode cX7_readRegiment 2 = .ok (.putfield 81, 3) := by decide +kernel
theorem dX7_readRegiment_5 : decode cX7_readRegiment 5 = .ok (.aload_n 0, 1) := by decide +kernel
theorem dX7_readRegiment_6 : decode cX7_readRegiment 6 = .ok (.iconst 0, 1) := by decide +kernel
theorem dX7_readRegiment_7 : decode cX7_readRegiment 7 = .ok (.putfield 88, 3) := by decide +kernel
theorem dX7_readRegiment_10 : decode cX7_readRegiment 10 = .ok (.aload_n 0, 1) := by decide +kernel
theorem dX7_readRegiment_11 : decode cX7_readRegiment 11 = .ok (.iconst 0, 1) := by decide +kernel
theorem dX7_readRegiment_12 : decode cX7_readRegiment 12 = .ok (.putfield 91, 3) := by decide +kernel
theorem dX7_readRegiment_15 : decode cX7_readRegiment 15 = .ok (.iconst 0, 1) := by decide +kernel
theorem dX7_readRegiment_16 : decode cX7_readRegiment 16 = .ok (.istore_n 1, 1) := by decide +kernel
theorem dX7_readRegiment_17 : decode cX7_readRegiment 17 = .ok (.iload_n 1, 1) := by decide +kernel
theorem dX7_readRegiment_18 : decode cX7_readRegiment 18 = .ok (.bipush 47, 2) := by decide +kernel
theorem dX7_readRegiment_20 : decode cX7_readRegiment 20 = .ok (.if_icmp .ge 16, 3) := by decide +kernel
theorem dX7_readRegiment_23 : decode cX7_readRegiment 23 = .ok (.aload_n 0, 1) := by decide +kernel
theorem dX7_readRegiment_24 : decode cX7_readRegiment 24 = .ok (.getfield 25, 3) := by decide +kernel
theorem dX7_readRegiment_27 : decode cX7_readRegiment 27 = .ok (.iload_n 1, 1) := by decide +kernel
theorem dX7_readRegiment_28 : decode cX7_readRegiment 28 = .ok (.iconst 0, 1) := by decide +kernel
theorem dX7_readRegiment_29 : decode cX7_readRegiment 29 = .ok (.iastore, 1) := by decide +kernel
theorem dX7_readRegiment_30 : decode cX7_readRegiment 30 = .ok (.iinc 1 1, 3) := by decide +kernel
theorem dX7_readRegiment_33 : decode cX7_readRegiment 33 = .ok (.goto (-16), 3) := by decide +kernel
theorem dX7_readRegiment_36 : decode cX7_readRegiment 36 = .ok (.aload_n 0, 1) := by decide +kernel
theorem dX7_readRegiment_37 : decode cX7_readRegiment 37 = .ok (.getfield 78, 3) := by decide +kernel
theorem dX7_readRegiment_40 : decode cX7_readRegiment 40 = .ok (.ifCond .eq 14, 3) := by decide +kernel
theorem dX7_readRegiment_43 : decode cX7_readRegiment 43 = .ok (.aload_n 0, 1) := by decide +kernel
theorem dX7_readRegiment_44 : decode cX7_readRegiment 44 = .ok (.getfield 7, 3) := by decide +kernel
theorem dX7_readRegiment_47 : decode cX7_readRegiment 47 = .ok (.iconst 0, 1) := by decide +kernel
theorem dX7_readRegiment_48 : decode cX7_readRegiment 48 = .ok (.iaload, 1) := by decide +kernel
theorem dX7_readRegiment_49 : decode cX7_readRegiment 49 = .ok (.bipush 66, 2) := by decide +kernel
theorem dX7_readRegiment_51 : decode cX7_readRegiment 51 = .ok (.if_icmp .eq 5, 3) := by decide +kernel
theorem dX7_readRegiment_54 : decode cX7_readRegiment 54 = .ok (.iconst 0, 1) := by decide +kernel
theorem dX7_readRegiment_55 : decode cX7_readRegiment 55 = .ok (.ireturn, 1) := by decide +kernel
theorem dX7_readRegiment_56 : decode cX7_readRegiment 56 = .ok (.aload_n 0, 1) := by decide +kernel
theorem dX7_readRegiment_57 : decode cX7_readRegiment 57 = .ok (.iconst 1, 1) := by decide +kernel
theorem dX7_readRegiment_58 : decode cX7_readRegiment 58 = .ok (.putfield 81, 3) := by decide +kernel
theorem dX7_readRegiment_61 : decode cX7_readRegiment 61 = .ok (.aload_n 0, 1) := by decide +kernel
theorem dX7_readRegiment_62 : decode cX7_readRegiment 62 = .ok (.getfield 81, 3) := by decide +kernel
theorem dX7_readRegiment_65 : decode cX7_readRegiment 65 = .ok (.aload_n 0, 1) := by decide +kernel
theorem dX7_readRegiment_66 : decode cX7_readRegiment 66 = .ok (.getfield 78, 3) := by decide +kernel
theorem dX7_readRegiment_69 : decode cX7_readRegiment 69 = .ok (.if_icmp .ge 15, 3) := by decide +kernel
theorem dX7_readRegiment_72 : decode cX7_readRegiment 72 = .ok (.aload_n 0, 1) := by decide +kernel
theorem dX7_readRegiment_73 : decode cX7_readRegiment 73 = .ok (.invokevirtual 111, 3) := by decide +kernel
theorem dX7_readRegiment_76 : decode cX7_readRegiment 76 = .ok (.ifCond .ne (-15), 3) := by decide +kernel
theorem dX7_readRegiment_79 : decode cX7_readRegiment 79 = .ok (.aload_n 0, 1) := by decide +kernel
theorem dX7_readRegiment_80 : decode cX7_readRegiment 80 = .ok (.getfield 81, 3) := by decide +kernel
theorem dX7_readRegiment_83 : decode cX7_readRegiment 83 = .ok (.ireturn, 1) := by decide +kernel
theorem dX7_readRegiment_84 : decode cX7_readRegiment 84 = .ok (.bipush (-9), 2) := by decide +kernel
theorem dX7_readRegiment_86 : decode cX7_readRegiment 86 = .ok (.ireturn, 1) := by decide +kernel
set_option maxRecDepth 20000 in
theorem ggX7_fault_X7_readRegiment : GoodIn wsX7_fault wsX7_readRegiment := goodIn_r _ [6, 7, 8, 9, 10, 11, 12, 13, 14, 15, 5, 16, 17, 18, 19, 20, 21, 22, 23, 24, 25, 26, 27, 28, 29, 30, 31, 32, 33, 34, 35, 36, 37, 38, 39, 40, 41, 42, 43, 44, 45, 46, 47, 48, 49, 50, 51, 52, 53, 54, 55, 56, 57, 58, 59, 60, 61, 62, 63, 64, 65, 66, 67, 68, 69, 70, 71, 72, 73, 74, 75, 76, 77] (by decide +kernel) (by decide +kernel)
set_option maxRecDepth 20000 in
theorem gX7_fault_X7_readRegiment : GoodIn wsX7_fault (wsV RX7 114 RX7 yX7_readRegiment wsX7_readRegiment) := goodIn_app (goodIn_of _ (by decide +kernel)) ggX7_fault_X7_readRegiment
theorem dX7_fault_0 : decode cX7_fault 0 = .ok (.aload_n 0, 1) := by decide +kernel
theorem dX7_fault_1 : decode cX7_fault 1 = .ok (.iconst 0, 1) := by decide +kernel
theorem dX7_fault_2 : decode cX7_fault 2 = .ok (.putfield 62, 3) := by decide +kernel
theorem dX7_fault_5 : decode cX7_fault 5 = .ok (.aload_n 0, 1) := by decide +kernel
theorem dX7_fault_6 : decode cX7_fault 6 = .ok (.invokevirtual 114, 3) := by decide +kernel
theorem dX7_fault_9 : decode cX7_fault 9 = .ok (.ireturn, 1) := by decide +kernel
set_option maxRecDepth 20000 in
theorem ggX7_regiment_X7_readRegiment : GoodIn wsX7_regiment wsX7_readRegiment := goodIn_r _ [18, 19, 2, 4, 7, 20, 21, 22, 23, 24, 17, 25, 26, 27, 28, 29, 9, 30, 31, 32, 33, 34, 35, 36, 37, 38, 39, 40, 10, 41, 42, 43, 44, 45, 46, 47, 48, 49, 50, 51, 52, 53, 54, 55, 56, 57, 58, 59, 60, 61, 62, 63, 64, 65, 66, 67, 68, 69, 70, 71, 72, 73, 74, 75, 76, 77, 78, 79, 80, 81, 82, 83, 84] (by decide +kernel) (by decide +kernel)
set_option maxRecDepth 20000 in
theorem gX7_regiment_X7_readRegiment : GoodIn wsX7_regiment (wsV RX7 114 RX7 yX7_readRegiment wsX7_readRegiment) := goodIn_app (goodIn_of _ (by decide +kernel)) ggX7_regiment_X7_readRegiment
theorem dX7_regiment_0 : decode cX7_regiment 0 = .ok (.aload_n 0, 1) := by decide +kernel
theorem dX7_regiment_1 : decode cX7_regiment 1 = .ok (.iconst 0, 1) := by decide +kernel
theorem dX7_regiment_2 : decode cX7_regiment 2 = .ok (.putfield 62, 3) := by decide +kernel
theorem dX7_regiment_5 : decode cX7_regiment 5 = .ok (.aload_n 0, 1) := by decide +kernel
theorem dX7_regiment_6 : decode cX7_regiment 6 = .ok (.invokevirtual 114, 3) := by decide +kernel
theorem dX7_regiment_9 : decode cX7_regiment 9 = .ok (.bipush (-9), 2) := by decide +kernel
theorem dX7_regiment_11 : decode cX7_regiment 11 = .ok (.if_icmp .eq 6, 3) := by decide +kernel
theorem dX7_regiment_14 : decode cX7_regiment 14 = .ok (.bipush (-3), 2) := by decide +kernel
theorem dX7_regiment_16 : decode cX7_regiment 16 = .ok (.ireturn, 1) := by decide +kernel
theorem dX7_regiment_17 : decode cX7_regiment 17 = .ok (.aload_n 0, 1) := by decide +kernel
theorem dX7_regiment_18 : decode cX7_regiment 18 = .ok (.aload_n 0, 1) := by decide +kernel
theorem dX7_regiment_19 : decode cX7_regiment 19 = .ok (.getfield 88, 3) := by decide +kernel
theorem dX7_regiment_22 : decode cX7_regiment 22 = .ok (.putfield 66, 3) := by decide +kernel
theorem dX7_regiment_25 : decode cX7_regiment 25 = .ok (.aload_n 0, 1) := by decide +kernel
theorem dX7_regiment_26 : decode cX7_regiment 26 = .ok (.aload_n 0, 1) := by decide +kernel
theorem dX7_regiment_27 : decode cX7_regiment 27 = .ok (.getfield 91, 3) := by decide +kernel
theorem dX7_regiment_30 : decode cX7_regiment 30 = .ok (.putfield 73, 3) := by decide +kernel
theorem dX7_regiment_33 : decode cX7_regiment 33 = .ok (.iconst 0, 1) := by decide +kernel
theorem dX7_regiment_34 : decode cX7_regiment 34 = .ok (.istore_n 1, 1) := by decide +kernel
theorem dX7_regiment_35 : decode cX7_regiment 35 = .ok (.iload_n 1, 1) := by decide +kernel
theorem dX7_regiment_36 : decode cX7_regiment 36 = .ok (.bipush 47, 2) := by decide +kernel
theorem dX7_regiment_38 : decode cX7_regiment 38 = .ok (.if_icmp .ge 21, 3) := by decide +kernel
theorem dX7_regiment_41 : decode cX7_regiment 41 = .ok (.aload_n 0, 1) := by decide +kernel
theorem dX7_regiment_42 : decode cX7_regiment 42 = .ok (.getfield 28, 3) := by decide +kernel
theorem dX7_regiment_45 : decode cX7_regiment 45 = .ok (.iload_n 1, 1) := by decide +kernel
theorem dX7_regiment_46 : decode cX7_regiment 46 = .ok (.aload_n 0, 1) := by decide +kernel
theorem dX7_regiment_47 : decode cX7_regiment 47 = .ok (.getfield 25, 3) := by decide +kernel
theorem dX7_regiment_50 : decode cX7_regiment 50 = .ok (.iload_n 1, 1) := by decide +kernel
theorem dX7_regiment_51 : decode cX7_regiment 51 = .ok (.iaload, 1) := by decide +kernel
theorem dX7_regiment_52 : decode cX7_regiment 52 = .ok (.iastore, 1) := by decide +kernel
theorem dX7_regiment_53 : decode cX7_regiment 53 = .ok (.iinc 1 1, 3) := by decide +kernel
theorem dX7_regiment_56 : decode cX7_regiment 56 = .ok (.goto (-21), 3) := by decide +kernel
theorem dX7_regiment_59 : decode cX7_regiment 59 = .ok (.iconst 0, 1) := by decide +kernel
theorem dX7_regiment_60 : decode cX7_regiment 60 = .ok (.istore_n 1, 1) := by decide +kernel
theorem dX7_regiment_61 : decode cX7_regiment 61 = .ok (.iload_n 1, 1) := by decide +kernel
theorem dX7_regiment_62 : decode cX7_regiment 62 = .ok (.aload_n 0, 1) := by decide +kernel
theorem dX7_regiment_63 : decode cX7_regiment 63 = .ok (.getfield 66, 3) := by decide +kernel
theorem dX7_regiment_66 : decode cX7_regiment 66 = .ok (.if_icmp .ge 21, 3) := by decide +kernel
theorem dX7_regiment_69 : decode cX7_regiment 69 = .ok (.aload_n 0, 1) := by decide +kernel
theorem dX7_regiment_70 : decode cX7_regiment 70 = .ok (.getfield 13, 3) := by decide +kernel
theorem dX7_regiment_73 : decode cX7_regiment 73 = .ok (.iload_n 1, 1) := by decide +kernel
theorem dX7_regiment_74 : decode cX7_regiment 74 = .ok (.aload_n 0, 1) := by decide +kernel
theorem dX7_regiment_75 : decode cX7_regiment 75 = .ok (.getfield 19, 3) := by decide +kernel
theorem dX7_regiment_78 : decode cX7_regiment 78 = .ok (.iload_n 1, 1) := by decide +kernel
theorem dX7_regiment_79 : decode cX7_regiment 79 = .ok (.iaload, 1) := by decide +kernel
theorem dX7_regiment_80 : decode cX7_regiment 80 = .ok (.iastore, 1) := by decide +kernel
theorem dX7_regiment_81 : decode cX7_regiment 81 = .ok (.iinc 1 1, 3) := by decide +kernel
theorem dX7_regiment_84 : decode cX7_regiment 84 = .ok (.goto (-23), 3) := by decide +kernel
theorem dX7_regiment_87 : decode cX7_regiment 87 = .ok (.iconst 0, 1) := by decide +kernel
theorem dX7_regiment_88 : decode cX7_regiment 88 = .ok (.istore_n 1, 1) := by decide +kernel
theorem dX7_regiment_89 : decode cX7_regiment 89 = .ok (.iload_n 1, 1) := by decide +kernel
theorem dX7_regiment_90 : decode cX7_regiment 90 = .ok (.aload_n 0, 1) := by decide +kernel
theorem dX7_regiment_91 : decode cX7_regiment 91 = .ok (.getfield 73, 3) := by decide +kernel
theorem dX7_regiment_94 : decode cX7_regiment 94 = .ok (.if_icmp .ge 42, 3) := by decide +kernel
theorem dX7_regiment_97 : decode cX7_regiment 97 = .ok (.aload_n 0, 1) := by decide +kernel
theorem dX7_regiment_98 : decode cX7_regiment 98 = .ok (.getfield 28, 3) := by decide +kernel
theorem dX7_regiment_101 : decode cX7_regiment 101 = .ok (.bipush 30, 2) := by decide +kernel
theorem dX7_regiment_103 : decode cX7_regiment 103 = .ok (.iload_n 1, 1) := by decide +kernel
theorem dX7_regiment_104 : decode cX7_regiment 104 = .ok (.iadd, 1) := by decide +kernel
theorem dX7_regiment_105 : decode cX7_regiment 105 = .ok (.aload_n 0, 1) := by decide +kernel
theorem dX7_regiment_106 : decode cX7_regiment 106 = .ok (.getfield 22, 3) := by decide +kernel
theorem dX7_regiment_109 : decode cX7_regiment 109 = .ok (.iconst 2, 1) := by decide +kernel
theorem dX7_regiment_110 : decode cX7_regiment 110 = .ok (.iload_n 1, 1) := by decide +kernel
theorem dX7_regiment_111 : decode cX7_regiment 111 = .ok (.imul, 1) := by decide +kernel
theorem dX7_regiment_112 : decode cX7_regiment 112 = .ok (.iaload, 1) := by decide +kernel
theorem dX7_regiment_113 : decode cX7_regiment 113 = .ok (.iastore, 1) := by decide +kernel
theorem dX7_regiment_114 : decode cX7_regiment 114 = .ok (.aload_n 0, 1) := by decide +kernel
theorem dX7_regiment_115 : decode cX7_regiment 115 = .ok (.getfield 16, 3) := by decide +kernel
theorem dX7_regiment_118 : decode cX7_regiment 118 = .ok (.iload_n 1, 1) := by decide +kernel
theorem dX7_regiment_119 : decode cX7_regiment 119 = .ok (.aload_n 0, 1) := by decide +kernel
theorem dX7_regiment_120 : decode cX7_regiment 120 = .ok (.getfield 22, 3) := by decide +kernel
theorem dX7_regiment_123 : decode cX7_regiment 123 = .ok (.iconst 2, 1) := by decide +kernel
theorem dX7_regiment_124 : decode cX7_regiment 124 = .ok (.iload_n 1, 1) := by decide +kernel
theorem dX7_regiment_125 : decode cX7_regiment 125 = .ok (.imul, 1) := by decide +kernel
theorem dX7_regiment_126 : decode cX7_regiment 126 = .ok (.iconst 1, 1) := by decide +kernel
theorem dX7_regiment_127 : decode cX7_regiment 127 = .ok (.iadd, 1) := by decide +kernel
theorem dX7_regiment_128 : decode cX7_regiment 128 = .ok (.iaload, 1) := by decide +kernel
theorem dX7_regiment_129 : decode cX7_regiment 129 = .ok (.iastore, 1) := by decide +kernel
theorem dX7_regiment_130 : decode cX7_regiment 130 = .ok (.iinc 1 1, 3) := by decide +kernel
theorem dX7_regiment_133 : decode cX7_regiment 133 = .ok (.goto (-44), 3) := by decide +kernel
theorem dX7_regiment_136 : decode cX7_regiment 136 = .ok (.aload_n 0, 1) := by decide +kernel
theorem dX7_regiment_137 : decode cX7_regiment 137 = .ok (.iconst 0, 1) := by decide +kernel
theorem dX7_regiment_138 : decode cX7_regiment 138 = .ok (.putfield 118, 3) := by decide +kernel
theorem dX7_regiment_141 : decode cX7_regiment 141 = .ok (.aload_n 0, 1) := by decide +kernel
theorem dX7_regiment_142 : decode cX7_regiment 142 = .ok (.getfield 40, 3) := by decide +kernel
theorem dX7_regiment_145 : decode cX7_regiment 145 = .ok (.iconst 0, 1) := by decide +kernel
theorem dX7_regiment_146 : decode cX7_regiment 146 = .ok (.iconst 0, 1) := by decide +kernel
theorem dX7_regiment_147 : decode cX7_regiment 147 = .ok (.bastore, 1) := by decide +kernel
theorem dX7_regiment_148 : decode cX7_regiment 148 = .ok (.aload_n 0, 1) := by decide +kernel
theorem dX7_regiment_149 : decode cX7_regiment 149 = .ok (.getfield 40, 3) := by decide +kernel
theorem dX7_regiment_152 : decode cX7_regiment 152 = .ok (.iconst 1, 1) := by decide +kernel
theorem dX7_regiment_153 : decode cX7_regiment 153 = .ok (.iconst 0, 1) := by decide +kernel
theorem dX7_regiment_154 : decode cX7_regiment 154 = .ok (.bastore, 1) := by decide +kernel
theorem dX7_regiment_155 : decode cX7_regiment 155 = .ok (.bipush 100, 2) := by decide +kernel
theorem dX7_regiment_157 : decode cX7_regiment 157 = .ok (.aload_n 0, 1) := by decide +kernel
theorem dX7_regiment_158 : decode cX7_regiment 158 = .ok (.getfield 66, 3) := by decide +kernel
theorem dX7_regiment_161 : decode cX7_regiment 161 = .ok (.imul, 1) := by decide +kernel
theorem dX7_regiment_162 : decode cX7_regiment 162 = .ok (.bipush 10, 2) := by decide +kernel
theorem dX7_regiment_164 : decode cX7_regiment 164 = .ok (.aload_n 0, 1) := by decide +kernel
theorem dX7_regiment_165 : decode cX7_regiment 165 = .ok (.getfield 73, 3) := by decide +kernel
theorem dX7_regiment_168 : decode cX7_regiment 168 = .ok (.imul, 1) := by decide +kernel
theorem dX7_regiment_169 : decode cX7_regiment 169 = .ok (.iadd, 1) := by decide +kernel
theorem dX7_regiment_170 : decode cX7_regiment 170 = .ok (.aload_n 0, 1) := by decide +kernel
theorem dX7_regiment_171 : decode cX7_regiment 171 = .ok (.getfield 28, 3) := by decide +kernel
theorem dX7_regiment_174 : decode cX7_regiment 174 = .ok (.iconst 0, 1) := by decide +kernel
theorem dX7_regiment_175 : decode cX7_regiment 175 = .ok (.iaload, 1) := by decide +kernel
theorem dX7_regiment_176 : decode cX7_regiment 176 = .ok (.iadd, 1) := by decide +kernel
theorem dX7_regiment_177 : decode cX7_regiment 177 = .ok (.aload_n 0, 1) := by decide +kernel
theorem dX7_regiment_178 : decode cX7_regiment 178 = .ok (.getfield 28, 3) := by decide +kernel
theorem dX7_regiment_181 : decode cX7_regiment 181 = .ok (.iconst 1, 1) := by decide +kernel
theorem dX7_regiment_182 : decode cX7_regiment 182 = .ok (.iaload, 1) := by decide +kernel
theorem dX7_regiment_183 : decode cX7_regiment 183 = .ok (.iadd, 1) := by decide +kernel
theorem dX7_regiment_184 : decode cX7_regiment 184 = .ok (.aload_n 0, 1) := by decide +kernel
theorem dX7_regiment_185 : decode cX7_regiment 185 = .ok (.getfield 28, 3) := by decide +kernel
theorem dX7_regiment_188 : decode cX7_regiment 188 = .ok (.iconst 2, 1) := by decide +kernel
theorem dX7_regiment_189 : decode cX7_regiment 189 = .ok (.iaload, 1) := by decide +kernel
theorem dX7_regiment_190 : decode cX7_regiment 190 = .ok (.iadd, 1) := by decide +kernel
theorem dX7_regiment_191 : decode cX7_regiment 191 = .ok (.ireturn, 1) := by decide +kernel
theorem dX7_breath_0 : decode cX7_breath 0 = .ok (.aload_n 0, 1) := by decide +kernel
theorem dX7_breath_1 : decode cX7_breath 1 = .ok (.iconst 3, 1) := by decide +kernel
theorem dX7_breath_2 : decode cX7_breath 2 = .ok (.bipush 9, 2) := by decide +kernel
theorem dX7_breath_4 : decode cX7_breath 4 = .ok (.iload_n 1, 1) := by decide +kernel
theorem dX7_breath_5 : decode cX7_breath 5 = .ok (.imul, 1) := by decide +kernel
theorem dX7_breath_6 : decode cX7_breath 6 = .ok (.iadd, 1) := by decide +kernel
theorem dX7_breath_7 : decode cX7_breath 7 = .ok (.iload_n 2, 1) := by decide +kernel
theorem dX7_breath_8 : decode cX7_breath 8 = .ok (.iadd, 1) := by decide +kernel
theorem dX7_breath_9 : decode cX7_breath 9 = .ok (.iaload, 1) := by decide +kernel
theorem dX7_breath_10 : decode cX7_breath 10 = .ok (.ireturn, 1) := by decide +kernel
theorem dX7_placeOf_0 : decode cX7_placeOf 0 = .ok (.iload_n 1, 1) := by decide +kernel
theorem dX7_placeOf_1 : decode cX7_placeOf 1 = .ok (.iconst 1, 1) := by decide +kernel
theorem dX7_placeOf_2 : decode cX7_placeOf 2 = .ok (.if_icmp .ne 7, 3) := by decide +kernel
theorem dX7_placeOf_5 : decode cX7_placeOf 5 = .ok (.iload_n 2, 1) := by decide +kernel
theorem dX7_placeOf_6 : decode cX7_placeOf 6 = .ok (.goto 8, 3) := by decide +kernel
theorem dX7_placeOf_9 : decode cX7_placeOf 9 = .ok (.iload_n 0, 1) := by decide +kernel
theorem dX7_placeOf_10 : decode cX7_placeOf 10 = .ok (.iconst 1, 1) := by decide +kernel
theorem dX7_placeOf_11 : decode cX7_placeOf 11 = .ok (.isub, 1) := by decide +kernel
theorem dX7_placeOf_12 : decode cX7_placeOf 12 = .ok (.iload_n 2, 1) := by decide +kernel
theorem dX7_placeOf_13 : decode cX7_placeOf 13 = .ok (.isub, 1) := by decide +kernel
theorem dX7_placeOf_14 : decode cX7_placeOf 14 = .ok (.ireturn, 1) := by decide +kernel
theorem dX7_takeOut_0 : decode cX7_takeOut 0 = .ok (.aload_n 0, 1) := by decide +kernel
theorem dX7_takeOut_1 : decode cX7_takeOut 1 = .ok (.iload_n 1, 1) := by decide +kernel
theorem dX7_takeOut_2 : decode cX7_takeOut 2 = .ok (.dup2, 1) := by decide +kernel
theorem dX7_takeOut_3 : decode cX7_takeOut 3 = .ok (.iaload, 1) := by decide +kernel
theorem dX7_takeOut_4 : decode cX7_takeOut 4 = .ok (.iconst 1, 1) := by decide +kernel
theorem dX7_takeOut_5 : decode cX7_takeOut 5 = .ok (.isub, 1) := by decide +kernel
theorem dX7_takeOut_6 : decode cX7_takeOut 6 = .ok (.iastore, 1) := by decide +kernel
theorem dX7_takeOut_7 : decode cX7_takeOut 7 = .ok (.iload_n 2, 1) := by decide +kernel
theorem dX7_takeOut_8 : decode cX7_takeOut 8 = .ok (.istore_n 3, 1) := by decide +kernel
theorem dX7_takeOut_9 : decode cX7_takeOut 9 = .ok (.iload_n 3, 1) := by decide +kernel
theorem dX7_takeOut_10 : decode cX7_takeOut 10 = .ok (.aload_n 0, 1) := by decide +kernel
theorem dX7_takeOut_11 : decode cX7_takeOut 11 = .ok (.iload_n 1, 1) := by decide +kernel
theorem dX7_takeOut_12 : decode cX7_takeOut 12 = .ok (.iaload, 1) := by decide +kernel
theorem dX7_takeOut_13 : decode cX7_takeOut 13 = .ok (.if_icmp .ge 31, 3) := by decide +kernel
theorem dX7_takeOut_16 : decode cX7_takeOut 16 = .ok (.aload_n 0, 1) := by decide +kernel
theorem dX7_takeOut_17 : decode cX7_takeOut 17 = .ok (.iconst 3, 1) := by decide +kernel
theorem dX7_takeOut_18 : decode cX7_takeOut 18 = .ok (.bipush 9, 2) := by decide +kernel
theorem dX7_takeOut_20 : decode cX7_takeOut 20 = .ok (.iload_n 1, 1) := by decide +kernel
theorem dX7_takeOut_21 : decode cX7_takeOut 21 = .ok (.imul, 1) := by decide +kernel
theorem dX7_takeOut_22 : decode cX7_takeOut 22 = .ok (.iadd, 1) := by decide +kernel
theorem dX7_takeOut_23 : decode cX7_takeOut 23 = .ok (.iload_n 3, 1) := by decide +kernel
theorem dX7_takeOut_24 : decode cX7_takeOut 24 = .ok (.iadd, 1) := by decide +kernel
theorem dX7_takeOut_25 : decode cX7_takeOut 25 = .ok (.aload_n 0, 1) := by decide +kernel
theorem dX7_takeOut_26 : decode cX7_takeOut 26 = .ok (.iconst 3, 1) := by decide +kernel
theorem dX7_takeOut_27 : decode cX7_takeOut 27 = .ok (.bipush 9, 2) := by decide +kernel
theorem dX7_takeOut_29 : decode cX7_takeOut 29 = .ok (.iload_n 1, 1) := by decide +kernel
theorem dX7_takeOut_30 : decode cX7_takeOut 30 = .ok (.imul, 1) := by decide +kernel
theorem dX7_takeOut_31 : decode cX7_takeOut 31 = .ok (.iadd, 1) := by decide +kernel
theorem dX7_takeOut_32 : decode cX7_takeOut 32 = .ok (.iload_n 3, 1) := by decide +kernel
theorem dX7_takeOut_33 : decode cX7_takeOut 33 = .ok (.iadd, 1) := by decide +kernel
theorem dX7_takeOut_34 : decode cX7_takeOut 34 = .ok (.iconst 1, 1) := by decide +kernel
theorem dX7_takeOut_35 : decode cX7_takeOut 35 = .ok (.iadd, 1) := by decide +kernel
theorem dX7_takeOut_36 : decode cX7_takeOut 36 = .ok (.iaload, 1) := by decide +kernel
theorem dX7_takeOut_37 : decode cX7_takeOut 37 = .ok (.iastore, 1) := by decide +kernel
theorem dX7_takeOut_38 : decode cX7_takeOut 38 = .ok (.iinc 3 1, 3) := by decide +kernel
theorem dX7_takeOut_41 : decode cX7_takeOut 41 = .ok (.goto (-32), 3) := by decide +kernel
theorem dX7_takeOut_44 : decode cX7_takeOut 44 = .ok (.return_, 1) := by decide +kernel
set_option maxRecDepth 20000 in
theorem ggX7_lose_X7_breath : GoodIn wsX7_lose wsX7_breath := goodIn_r _ [4] (by decide +kernel) (by decide +kernel)
set_option maxRecDepth 20000 in
theorem gX7_lose_X7_breath : GoodIn wsX7_lose (va_wsS RX7 121 yX7_breath wsX7_breath) := goodIn_app (goodIn_of _ (by decide +kernel)) ggX7_lose_X7_breath
set_option maxRecDepth 20000 in
theorem ggX7_lose_X7_takeOut : GoodIn wsX7_lose wsX7_takeOut := goodIn_r _ [7] (by decide +kernel) (by decide +kernel)
set_option maxRecDepth 20000 in
theorem gX7_lose_X7_takeOut : GoodIn wsX7_lose (va_wsS RX7 125 yX7_takeOut wsX7_takeOut) := goodIn_app (goodIn_of _ (by decide +kernel)) ggX7_lose_X7_takeOut
theorem dX7_lose_0 : decode cX7_lose 0 = .ok (.aload_n 0, 1) := by decide +kernel
