theorem dX2_remember_21 : decode cX2_remember 21 = .ok (.if_icmp .lt 7, 3) := by decide +kernel
theorem dX2_remember_24 : decode cX2_remember 24 = .ok (.iconst 0, 1) := by decide +kernel
theorem dX2_remember_25 : decode cX2_remember 25 = .ok (.goto 9, 3) := by decide +kernel
theorem dX2_remember_28 : decode cX2_remember 28 = .ok (.aload_n 0, 1) := by decide +kernel
theorem dX2_remember_29 : decode cX2_remember 29 = .ok (.getfield 15, 3) := by decide +kernel
theorem dX2_remember_32 : decode cX2_remember 32 = .ok (.iconst 1, 1) := by decide +kernel
theorem dX2_remember_33 : decode cX2_remember 33 = .ok (.iadd, 1) := by decide +kernel
theorem dX2_remember_34 : decode cX2_remember 34 = .ok (.putfield 15, 3) := by decide +kernel
theorem dX2_remember_37 : decode cX2_remember 37 = .ok (.aload_n 0, 1) := by decide +kernel
theorem dX2_remember_38 : decode cX2_remember 38 = .ok (.bipush 14, 2) := by decide +kernel
theorem dX2_remember_40 : decode cX2_remember 40 = .ok (.aload_n 0, 1) := by decide +kernel
theorem dX2_remember_41 : decode cX2_remember 41 = .ok (.getfield 19, 3) := by decide +kernel
theorem dX2_remember_44 : decode cX2_remember 44 = .ok (.iconst 1, 1) := by decide +kernel
theorem dX2_remember_45 : decode cX2_remember 45 = .ok (.iadd, 1) := by decide +kernel
theorem dX2_remember_46 : decode cX2_remember 46 = .ok (.invokestatic 26, 3) := by decide +kernel
theorem dX2_remember_49 : decode cX2_remember 49 = .ok (.putfield 19, 3) := by decide +kernel
theorem dX2_remember_52 : decode cX2_remember 52 = .ok (.return_, 1) := by decide +kernel
set_option maxRecDepth 20000 in
theorem ggX2_goBack_X0_copyFrom : GoodIn wsX2_goBack wsX0_copyFrom := goodIn_r _ [12, 13, 17, 18, 19, 20, 21] (by decide +kernel) (by decide +kernel)
set_option maxRecDepth 20000 in
theorem gX2_goBack_X0_copyFrom : GoodIn wsX2_goBack (wsV RX2 35 RX0 yX0_copyFrom wsX0_copyFrom) := goodIn_app (goodIn_of _ (by decide +kernel)) ggX2_goBack_X0_copyFrom
theorem dX2_goBack_0 : decode cX2_goBack 0 = .ok (.aload_n 0, 1) := by decide +kernel
theorem dX2_goBack_1 : decode cX2_goBack 1 = .ok (.aload_n 0, 1) := by decide +kernel
theorem dX2_goBack_2 : decode cX2_goBack 2 = .ok (.getfield 15, 3) := by decide +kernel
theorem dX2_goBack_5 : decode cX2_goBack 5 = .ok (.ifCond .gt 8, 3) := by decide +kernel
theorem dX2_goBack_8 : decode cX2_goBack 8 = .ok (.bipush 13, 2) := by decide +kernel
theorem dX2_goBack_10 : decode cX2_goBack 10 = .ok (.goto 9, 3) := by decide +kernel
theorem dX2_goBack_13 : decode cX2_goBack 13 = .ok (.aload_n 0, 1) := by decide +kernel
theorem dX2_goBack_14 : decode cX2_goBack 14 = .ok (.getfield 15, 3) := by decide +kernel
theorem dX2_goBack_17 : decode cX2_goBack 17 = .ok (.iconst 1, 1) := by decide +kernel
theorem dX2_goBack_18 : decode cX2_goBack 18 = .ok (.isub, 1) := by decide +kernel
theorem dX2_goBack_19 : decode cX2_goBack 19 = .ok (.putfield 15, 3) := by decide +kernel
theorem dX2_goBack_22 : decode cX2_goBack 22 = .ok (.aload_n 0, 1) := by decide +kernel
theorem dX2_goBack_23 : decode cX2_goBack 23 = .ok (.iconst 0, 1) := by decide +kernel
theorem dX2_goBack_24 : decode cX2_goBack 24 = .ok (.aload_n 0, 1) := by decide +kernel
theorem dX2_goBack_25 : decode cX2_goBack 25 = .ok (.getfield 19, 3) := by decide +kernel
theorem dX2_goBack_28 : decode cX2_goBack 28 = .ok (.iconst 1, 1) := by decide +kernel
theorem dX2_goBack_29 : decode cX2_goBack 29 = .ok (.isub, 1) := by decide +kernel
theorem dX2_goBack_30 : decode cX2_goBack 30 = .ok (.invokestatic 32, 3) := by decide +kernel
theorem dX2_goBack_33 : decode cX2_goBack 33 = .ok (.putfield 19, 3) := by decide +kernel
theorem dX2_goBack_36 : decode cX2_goBack 36 = .ok (.aload_n 1, 1) := by decide +kernel
theorem dX2_goBack_37 : decode cX2_goBack 37 = .ok (.aload_n 0, 1) := by decide +kernel
theorem dX2_goBack_38 : decode cX2_goBack 38 = .ok (.getfield 11, 3) := by decide +kernel
theorem dX2_goBack_41 : decode cX2_goBack 41 = .ok (.aload_n 0, 1) := by decide +kernel
theorem dX2_goBack_42 : decode cX2_goBack 42 = .ok (.getfield 15, 3) := by decide +kernel
theorem dX2_goBack_45 : decode cX2_goBack 45 = .ok (.invokevirtual 35, 3) := by decide +kernel
theorem dX2_goBack_48 : decode cX2_goBack 48 = .ok (.aload_n 0, 1) := by decide +kernel
theorem dX2_goBack_49 : decode cX2_goBack 49 = .ok (.getfield 19, 3) := by decide +kernel
theorem dX2_goBack_52 : decode cX2_goBack 52 = .ok (.ireturn, 1) := by decide +kernel
theorem dX3_init_0 : decode cX3_init 0 = .ok (.aload_n 0, 1) := by decide +kernel
theorem dX3_init_1 : decode cX3_init 1 = .ok (.invokespecial 1, 3) := by decide +kernel
theorem dX3_init_4 : decode cX3_init 4 = .ok (.aload_n 0, 1) := by decide +kernel
theorem dX3_init_5 : decode cX3_init 5 = .ok (.bipush 46, 2) := by decide +kernel
theorem dX3_init_7 : decode cX3_init 7 = .ok (.newarray .int, 2) := by decide +kernel
theorem dX3_init_9 : decode cX3_init 9 = .ok (.putfield 11, 3) := by decide +kernel
theorem dX3_init_12 : decode cX3_init 12 = .ok (.aload_n 0, 1) := by decide +kernel
theorem dX3_init_13 : decode cX3_init 13 = .ok (.iconst 0, 1) := by decide +kernel
theorem dX3_init_14 : decode cX3_init 14 = .ok (.putfield 15, 3) := by decide +kernel
theorem dX3_init_17 : decode cX3_init 17 = .ok (.return_, 1) := by decide +kernel
theorem dX3_clear_0 : decode cX3_clear 0 = .ok (.aload_n 0, 1) := by decide +kernel
theorem dX3_clear_1 : decode cX3_clear 1 = .ok (.iconst 0, 1) := by decide +kernel
theorem dX3_clear_2 : decode cX3_clear 2 = .ok (.putfield 15, 3) := by decide +kernel
theorem dX3_clear_5 : decode cX3_clear 5 = .ok (.return_, 1) := by decide +kernel
theorem dX3_isSlot_0 : decode cX3_isSlot 0 = .ok (.iload_n 1, 1) := by decide +kernel
theorem dX3_isSlot_1 : decode cX3_isSlot 1 = .ok (.ifCond .lt 12, 3) := by decide +kernel
theorem dX3_isSlot_4 : decode cX3_isSlot 4 = .ok (.iload_n 1, 1) := by decide +kernel
theorem dX3_isSlot_5 : decode cX3_isSlot 5 = .ok (.iconst 2, 1) := by decide +kernel
theorem dX3_isSlot_6 : decode cX3_isSlot 6 = .ok (.if_icmp .ge 7, 3) := by decide +kernel
theorem dX3_isSlot_9 : decode cX3_isSlot 9 = .ok (.iconst 1, 1) := by decide +kernel
theorem dX3_isSlot_10 : decode cX3_isSlot 10 = .ok (.goto 4, 3) := by decide +kernel
theorem dX3_isSlot_13 : decode cX3_isSlot 13 = .ok (.iconst 0, 1) := by decide +kernel
theorem dX3_isSlot_14 : decode cX3_isSlot 14 = .ok (.ireturn, 1) := by decide +kernel
theorem dX3_isKept_0 : decode cX3_isKept 0 = .ok (.aload_n 0, 1) := by decide +kernel
theorem dX3_isKept_1 : decode cX3_isKept 1 = .ok (.getfield 15, 3) := by decide +kernel
theorem dX3_isKept_4 : decode cX3_isKept 4 = .ok (.iload_n 1, 1) := by decide +kernel
theorem dX3_isKept_5 : decode cX3_isKept 5 = .ok (.ishr, 1) := by decide +kernel
theorem dX3_isKept_6 : decode cX3_isKept 6 = .ok (.iconst 1, 1) := by decide +kernel
theorem dX3_isKept_7 : decode cX3_isKept 7 = .ok (.iand, 1) := by decide +kernel
theorem dX3_isKept_8 : decode cX3_isKept 8 = .ok (.iconst 1, 1) := by decide +kernel
theorem dX3_isKept_9 : decode cX3_isKept 9 = .ok (.if_icmp .ne 7, 3) := by decide +kernel
theorem dX3_isKept_12 : decode cX3_isKept 12 = .ok (.iconst 1, 1) := by decide +kernel
theorem dX3_isKept_13 : decode cX3_isKept 13 = .ok (.goto 4, 3) := by decide +kernel
theorem dX3_isKept_16 : decode cX3_isKept 16 = .ok (.iconst 0, 1) := by decide +kernel
theorem dX3_isKept_17 : decode cX3_isKept 17 = .ok (.ireturn, 1) := by decide +kernel
set_option maxRecDepth 20000 in
theorem ggX3_store_X0_copyTo : GoodIn wsX3_store wsX0_copyTo := goodIn_r _ [7, 8, 11, 12, 13, 14, 15] (by decide +kernel) (by decide +kernel)
set_option maxRecDepth 20000 in
theorem gX3_store_X0_copyTo : GoodIn wsX3_store (wsV RX3 19 RX0 yX0_copyTo wsX0_copyTo) := goodIn_app (goodIn_of _ (by decide +kernel)) ggX3_store_X0_copyTo
theorem dX3_store_0 : decode cX3_store 0 = .ok (.aload_n 2, 1) := by decide +kernel
theorem dX3_store_1 : decode cX3_store 1 = .ok (.aload_n 0, 1) := by decide +kernel
theorem dX3_store_2 : decode cX3_store 2 = .ok (.getfield 11, 3) := by decide +kernel
theorem dX3_store_5 : decode cX3_store 5 = .ok (.iload_n 1, 1) := by decide +kernel
theorem dX3_store_6 : decode cX3_store 6 = .ok (.invokevirtual 19, 3) := by decide +kernel
theorem dX3_store_9 : decode cX3_store 9 = .ok (.aload_n 0, 1) := by decide +kernel
theorem dX3_store_10 : decode cX3_store 10 = .ok (.dup, 1) := by decide +kernel
theorem dX3_store_11 : decode cX3_store 11 = .ok (.getfield 15, 3) := by decide +kernel
theorem dX3_store_14 : decode cX3_store 14 = .ok (.iconst 1, 1) := by decide +kernel
theorem dX3_store_15 : decode cX3_store 15 = .ok (.iload_n 1, 1) := by decide +kernel
theorem dX3_store_16 : decode cX3_store 16 = .ok (.ishl, 1) := by decide +kernel
theorem dX3_store_17 : decode cX3_store 17 = .ok (.ior, 1) := by decide +kernel
theorem dX3_store_18 : decode cX3_store 18 = .ok (.putfield 15, 3) := by decide +kernel
theorem dX3_store_21 : decode cX3_store 21 = .ok (.return_, 1) := by decide +kernel
set_option maxRecDepth 20000 in
theorem ggX3_fetch_X0_copyFrom : GoodIn wsX3_fetch wsX0_copyFrom := goodIn_r _ [6, 7, 10, 11, 12, 13, 14] (by decide +kernel) (by decide +kernel)
set_option maxRecDepth 20000 in
theorem gX3_fetch_X0_copyFrom : GoodIn wsX3_fetch (wsV RX3 23 RX0 yX0_copyFrom wsX0_copyFrom) := goodIn_app (goodIn_of _ (by decide +kernel)) ggX3_fetch_X0_copyFrom
theorem dX3_fetch_0 : decode cX3_fetch 0 = .ok (.aload_n 2, 1) := by decide +kernel
theorem dX3_fetch_1 : decode cX3_fetch 1 = .ok (.aload_n 0, 1) := by decide +kernel
theorem dX3_fetch_2 : decode cX3_fetch 2 = .ok (.getfield 11, 3) := by decide +kernel
theorem dX3_fetch_5 : decode cX3_fetch 5 = .ok (.iload_n 1, 1) := by decide +kernel
theorem dX3_fetch_6 : decode cX3_fetch 6 = .ok (.invokevirtual 23, 3) := by decide +kernel
theorem dX3_fetch_9 : decode cX3_fetch 9 = .ok (.return_, 1) := by decide +kernel
set_option maxRecDepth 20000 in
theorem ggX4_bestWay_X0_breathsIn : GoodIn wsX4_bestWay wsX0_breathsIn := goodIn_r _ [5, 6, 7, 8, 4, 9, 10, 11, 12, 13, 14, 15, 45, 46, 47, 48, 49] (by decide +kernel) (by decide +kernel)
set_option maxRecDepth 20000 in
theorem gX4_bestWay_X0_breathsIn : GoodIn wsX4_bestWay (wsV RX4 9 RX0 yX0_breathsIn wsX0_breathsIn) := goodIn_app (goodIn_of _ (by decide +kernel)) ggX4_bestWay_X0_breathsIn
set_option maxRecDepth 20000 in
theorem ggX4_bestWay_X4_losersBy : GoodIn wsX4_bestWay wsX4_losersBy := goodIn_r _ [19, 20, 21, 22, 4, 23, 24, 25, 26, 27, 10, 28, 29, 30, 31, 32, 33, 2, 3, 5, 6, 7, 8, 9, 11, 12, 13, 14, 15, 34, 35, 36, 37, 38, 39, 40, 41, 42, 43, 44, 45, 46, 47, 48, 49] (by decide +kernel) (by decide +kernel)
set_option maxRecDepth 20000 in
theorem gX4_bestWay_X4_losersBy : GoodIn wsX4_bestWay (va_wsS RX4 15 yX4_losersBy wsX4_losersBy) := goodIn_app (goodIn_of _ (by decide +kernel)) ggX4_bestWay_X4_losersBy
theorem dX4_bestWay_0 : decode cX4_bestWay 0 = .ok (.bipush (-9), 2) := by decide +kernel
theorem dX4_bestWay_2 : decode cX4_bestWay 2 = .ok (.istore_n 2, 1) := by decide +kernel
theorem dX4_bestWay_3 : decode cX4_bestWay 3 = .ok (.bipush 6, 2) := by decide +kernel
theorem dX4_bestWay_5 : decode cX4_bestWay 5 = .ok (.istore_n 3, 1) := by decide +kernel
theorem dX4_bestWay_6 : decode cX4_bestWay 6 = .ok (.iconst 0, 1) := by decide +kernel
theorem dX4_bestWay_7 : decode cX4_bestWay 7 = .ok (.istore 4, 2) := by decide +kernel
theorem dX4_bestWay_9 : decode cX4_bestWay 9 = .ok (.iload 4, 2) := by decide +kernel
theorem dX4_bestWay_11 : decode cX4_bestWay 11 = .ok (.aload_n 0, 1) := by decide +kernel
theorem dX4_bestWay_12 : decode cX4_bestWay 12 = .ok (.iconst 0, 1) := by decide +kernel
theorem dX4_bestWay_13 : decode cX4_bestWay 13 = .ok (.invokevirtual 9, 3) := by decide +kernel
theorem dX4_bestWay_16 : decode cX4_bestWay 16 = .ok (.if_icmp .gt 91, 3) := by decide +kernel
theorem dX4_bestWay_19 : decode cX4_bestWay 19 = .ok (.iconst 0, 1) := by decide +kernel
theorem dX4_bestWay_20 : decode cX4_bestWay 20 = .ok (.istore 5, 2) := by decide +kernel
theorem dX4_bestWay_22 : decode cX4_bestWay 22 = .ok (.iload 5, 2) := by decide +kernel
theorem dX4_bestWay_24 : decode cX4_bestWay 24 = .ok (.aload_n 0, 1) := by decide +kernel
theorem dX4_bestWay_25 : decode cX4_bestWay 25 = .ok (.iconst 1, 1) := by decide +kernel
theorem dX4_bestWay_26 : decode cX4_bestWay 26 = .ok (.invokevirtual 9, 3) := by decide +kernel
theorem dX4_bestWay_29 : decode cX4_bestWay 29 = .ok (.if_icmp .gt 72, 3) := by decide +kernel
theorem dX4_bestWay_32 : decode cX4_bestWay 32 = .ok (.iload_n 1, 1) := by decide +kernel
theorem dX4_bestWay_33 : decode cX4_bestWay 33 = .ok (.iload 4, 2) := by decide +kernel
theorem dX4_bestWay_35 : decode cX4_bestWay 35 = .ok (.isub, 1) := by decide +kernel
theorem dX4_bestWay_36 : decode cX4_bestWay 36 = .ok (.iload 5, 2) := by decide +kernel
theorem dX4_bestWay_38 : decode cX4_bestWay 38 = .ok (.isub, 1) := by decide +kernel
theorem dX4_bestWay_39 : decode cX4_bestWay 39 = .ok (.istore 6, 2) := by decide +kernel
theorem dX4_bestWay_41 : decode cX4_bestWay 41 = .ok (.iload 6, 2) := by decide +kernel
theorem dX4_bestWay_43 : decode cX4_bestWay 43 = .ok (.ifCond .lt 52, 3) := by decide +kernel
theorem dX4_bestWay_46 : decode cX4_bestWay 46 = .ok (.iload 6, 2) := by decide +kernel
theorem dX4_bestWay_48 : decode cX4_bestWay 48 = .ok (.aload_n 0, 1) := by decide +kernel
theorem dX4_bestWay_49 : decode cX4_bestWay 49 = .ok (.iconst 2, 1) := by decide +kernel
theorem dX4_bestWay_50 : decode cX4_bestWay 50 = .ok (.invokevirtual 9, 3) := by decide +kernel
theorem dX4_bestWay_53 : decode cX4_bestWay 53 = .ok (.if_icmp .le 6, 3) := by decide +kernel
theorem dX4_bestWay_56 : decode cX4_bestWay 56 = .ok (.goto 39, 3) := by decide +kernel
theorem dX4_bestWay_59 : decode cX4_bestWay 59 = .ok (.bipush 100, 2) := by decide +kernel
theorem dX4_bestWay_61 : decode cX4_bestWay 61 = .ok (.iload 4, 2) := by decide +kernel
theorem dX4_bestWay_63 : decode cX4_bestWay 63 = .ok (.imul, 1) := by decide +kernel
theorem dX4_bestWay_64 : decode cX4_bestWay 64 = .ok (.bipush 10, 2) := by decide +kernel
theorem dX4_bestWay_66 : decode cX4_bestWay 66 = .ok (.iload 5, 2) := by decide +kernel
theorem dX4_bestWay_68 : decode cX4_bestWay 68 = .ok (.imul, 1) := by decide +kernel
theorem dX4_bestWay_69 : decode cX4_bestWay 69 = .ok (.iadd, 1) := by decide +kernel
theorem dX4_bestWay_70 : decode cX4_bestWay 70 = .ok (.iload 6, 2) := by decide +kernel
theorem dX4_bestWay_72 : decode cX4_bestWay 72 = .ok (.iadd, 1) := by decide +kernel
theorem dX4_bestWay_73 : decode cX4_bestWay 73 = .ok (.istore 7, 2) := by decide +kernel
theorem dX4_bestWay_75 : decode cX4_bestWay 75 = .ok (.aload_n 0, 1) := by decide +kernel
theorem dX4_bestWay_76 : decode cX4_bestWay 76 = .ok (.iload 7, 2) := by decide +kernel
theorem dX4_bestWay_78 : decode cX4_bestWay 78 = .ok (.invokestatic 15, 3) := by decide +kernel
theorem dX4_bestWay_81 : decode cX4_bestWay 81 = .ok (.istore 8, 2) := by decide +kernel
theorem dX4_bestWay_83 : decode cX4_bestWay 83 = .ok (.iload 8, 2) := by decide +kernel
theorem dX4_bestWay_85 : decode cX4_bestWay 85 = .ok (.iload_n 3, 1) := by decide +kernel
theorem dX4_bestWay_86 : decode cX4_bestWay 86 = .ok (.if_icmp .ge 9, 3) := by decide +kernel
theorem dX4_bestWay_89 : decode cX4_bestWay 89 = .ok (.iload 8, 2) := by decide +kernel
theorem dX4_bestWay_91 : decode cX4_bestWay 91 = .ok (.istore_n 3, 1) := by decide +kernel
theorem dX4_bestWay_92 : decode cX4_bestWay 92 = .ok (.iload 7, 2) := by decide +kernel
theorem dX4_bestWay_94 : decode cX4_bestWay 94 = .ok (.istore_n 2, 1) := by decide +kernel
theorem dX4_bestWay_95 : decode cX4_bestWay 95 = .ok (.iinc 5 1, 3) := by decide +kernel
theorem dX4_bestWay_98 : decode cX4_bestWay 98 = .ok (.goto (-76), 3) := by decide +kernel
theorem dX4_bestWay_101 : decode cX4_bestWay 101 = .ok (.iinc 4 1, 3) := by decide +kernel
theorem dX4_bestWay_104 : decode cX4_bestWay 104 = .ok (.goto (-95), 3) := by decide +kernel
theorem dX4_bestWay_107 : decode cX4_bestWay 107 = .ok (.iload_n 2, 1) := by decide +kernel
theorem dX4_bestWay_108 : decode cX4_bestWay 108 = .ok (.ireturn, 1) := by decide +kernel
set_option maxRecDepth 20000 in
theorem ggX4_losersBy_X0_playedBits : GoodIn wsX4_losersBy wsX0_playedBits := goodIn_r _ [5, 6, 7, 8, 4, 9, 10, 11, 12, 13, 14, 15, 16, 17, 18, 19, 20, 21, 22, 23, 24, 25, 26, 27, 28, 29, 30, 31, 32, 40, 41, 42, 43, 44] (by decide +kernel) (by decide +kernel)
set_option maxRecDepth 20000 in
theorem gX4_losersBy_X0_playedBits : GoodIn wsX4_losersBy (wsV RX4 21 RX0 yX0_playedBits wsX0_playedBits) := goodIn_app (goodIn_of _ (by decide +kernel)) ggX4_losersBy_X0_playedBits
set_option maxRecDepth 20000 in
theorem ggX4_losersBy_J6_bitCount_0f7a4 : GoodIn wsX4_losersBy wsJ6_bitCount_0f7a4 := goodIn_r _ [36, 37, 38, 39] (by decide +kernel) (by decide +kernel)
set_option maxRecDepth 20000 in
theorem gX4_losersBy_J6_bitCount_0f7a4 : GoodIn wsX4_losersBy (va_wsS RX4 25 yJ6_bitCount_0f7a4 wsJ6_bitCount_0f7a4) := goodIn_app (goodIn_of _ (by decide +kernel)) ggX4_losersBy_J6_bitCount_0f7a4
theorem dX4_losersBy_0 : decode cX4_losersBy 0 = .ok (.aload_n 0, 1) := by decide +kernel
theorem dX4_losersBy_1 : decode cX4_losersBy 1 = .ok (.iconst 0, 1) := by decide +kernel
theorem dX4_losersBy_2 : decode cX4_losersBy 2 = .ok (.iload_n 1, 1) := by decide +kernel
theorem dX4_losersBy_3 : decode cX4_losersBy 3 = .ok (.bipush 100, 2) := by decide +kernel
theorem dX4_losersBy_5 : decode cX4_losersBy 5 = .ok (.idiv, 1) := by decide +kernel
theorem dX4_losersBy_6 : decode cX4_losersBy 6 = .ok (.invokevirtual 21, 3) := by decide +kernel
theorem dX4_losersBy_9 : decode cX4_losersBy 9 = .ok (.aload_n 0, 1) := by decide +kernel
theorem dX4_losersBy_10 : decode cX4_losersBy 10 = .ok (.iconst 1, 1) := by decide +kernel
theorem dX4_losersBy_11 : decode cX4_losersBy 11 = .ok (.iload_n 1, 1) := by decide +kernel
theorem dX4_losersBy_12 : decode cX4_losersBy 12 = .ok (.bipush 10, 2) := by decide +kernel
theorem dX4_losersBy_14 : decode cX4_losersBy 14 = .ok (.idiv, 1) := by decide +kernel
theorem dX4_losersBy_15 : decode cX4_losersBy 15 = .ok (.bipush 10, 2) := by decide +kernel
theorem dX4_losersBy_17 : decode cX4_losersBy 17 = .ok (.irem, 1) := by decide +kernel
theorem dX4_losersBy_18 : decode cX4_losersBy 18 = .ok (.invokevirtual 21, 3) := by decide +kernel
theorem dX4_losersBy_21 : decode cX4_losersBy 21 = .ok (.ior, 1) := by decide +kernel
theorem dX4_losersBy_22 : decode cX4_losersBy 22 = .ok (.aload_n 0, 1) := by decide +kernel
theorem dX4_losersBy_23 : decode cX4_losersBy 23 = .ok (.iconst 2, 1) := by decide +kernel
theorem dX4_losersBy_24 : decode cX4_losersBy 24 = .ok (.iload_n 1, 1) := by decide +kernel
theorem dX4_losersBy_25 : decode cX4_losersBy 25 = .ok (.bipush 10, 2) := by decide +kernel
theorem dX4_losersBy_27 : decode cX4_losersBy 27 = .ok (.irem, 1) := by decide +kernel
theorem dX4_losersBy_28 : decode cX4_losersBy 28 = .ok (.invokevirtual 21, 3) := by decide +kernel
theorem dX4_losersBy_31 : decode cX4_losersBy 31 = .ok (.ior, 1) := by decide +kernel
theorem dX4_losersBy_32 : decode cX4_losersBy 32 = .ok (.istore_n 2, 1) := by decide +kernel
theorem dX4_losersBy_33 : decode cX4_losersBy 33 = .ok (.iload_n 2, 1) := by decide +kernel
theorem dX4_losersBy_34 : decode cX4_losersBy 34 = .ok (.invokestatic 25, 3) := by decide +kernel
theorem dX4_losersBy_37 : decode cX4_losersBy 37 = .ok (.ireturn, 1) := by decide +kernel
theorem dX4_figuresOf_0 : decode cX4_figuresOf 0 = .ok (.iload_n 1, 1) := by decide +kernel
theorem dX4_figuresOf_1 : decode cX4_figuresOf 1 = .ok (.istore_n 2, 1) := by decide +kernel
theorem dX4_figuresOf_2 : decode cX4_figuresOf 2 = .ok (.aload_n 0, 1) := by decide +kernel
theorem dX4_figuresOf_3 : decode cX4_figuresOf 3 = .ok (.getfield 30, 3) := by decide +kernel
theorem dX4_figuresOf_6 : decode cX4_figuresOf 6 = .ok (.istore_n 3, 1) := by decide +kernel
theorem dX4_figuresOf_7 : decode cX4_figuresOf 7 = .ok (.iload_n 3, 1) := by decide +kernel
theorem dX4_figuresOf_8 : decode cX4_figuresOf 8 = .ok (.iconst 3, 1) := by decide +kernel
theorem dX4_figuresOf_9 : decode cX4_figuresOf 9 = .ok (.if_icmp .ge 14, 3) := by decide +kernel
theorem dX4_figuresOf_12 : decode cX4_figuresOf 12 = .ok (.iload_n 2, 1) := by decide +kernel
theorem dX4_figuresOf_13 : decode cX4_figuresOf 13 = .ok (.bipush 10, 2) := by decide +kernel
theorem dX4_figuresOf_15 : decode cX4_figuresOf 15 = .ok (.idiv, 1) := by decide +kernel
theorem dX4_figuresOf_16 : decode cX4_figuresOf 16 = .ok (.istore_n 2, 1) := by decide +kernel
theorem dX4_figuresOf_17 : decode cX4_figuresOf 17 = .ok (.iinc 3 1, 3) := by decide +kernel
theorem dX4_figuresOf_20 : decode cX4_figuresOf 20 = .ok (.goto (-13), 3) := by decide +kernel
theorem dX4_figuresOf_23 : decode cX4_figuresOf 23 = .ok (.iload_n 2, 1) := by decide +kernel
theorem dX4_figuresOf_24 : decode cX4_figuresOf 24 = .ok (.ireturn, 1) := by decide +kernel
set_option maxRecDepth 20000 in
theorem ggX4_shareOf_X0_breathsOf : GoodIn wsX4_shareOf wsX0_breathsOf := goodIn_r _ [5, 6, 7, 8, 4, 9, 10, 11, 12, 13, 14, 15, 16, 17, 18, 19, 20, 21, 22, 23, 24, 25, 26, 27, 44, 45, 46, 47, 48] (by decide +kernel) (by decide +kernel)
set_option maxRecDepth 20000 in
theorem gX4_shareOf_X0_breathsOf : GoodIn wsX4_shareOf (wsV RX4 37 RX0 yX0_breathsOf wsX0_breathsOf) := goodIn_app (goodIn_of _ (by decide +kernel)) ggX4_shareOf_X0_breathsOf
set_option maxRecDepth 20000 in
theorem ggX4_shareOf_X0_breathsOfThese : GoodIn wsX4_shareOf wsX0_breathsOfThese := goodIn_r _ [9, 10, 11, 12, 13, 4, 14, 15, 16, 17, 18, 19, 20, 21, 22, 23, 24, 25, 26, 27, 44, 45, 46, 47, 48] (by decide +kernel) (by decide +kernel)
set_option maxRecDepth 20000 in
theorem gX4_shareOf_X0_breathsOfThese : GoodIn wsX4_shareOf (wsV RX4 40 RX0 yX0_breathsOfThese wsX0_breathsOfThese) := goodIn_app (goodIn_of _ (by decide +kernel)) ggX4_shareOf_X0_breathsOfThese
set_option maxRecDepth 20000 in
theorem ggX4_shareOf_J6_bitCount_0f7a4 : GoodIn wsX4_shareOf wsJ6_bitCount_0f7a4 := goodIn_r _ [32, 33, 34, 35] (by decide +kernel) (by decide +kernel)
set_option maxRecDepth 20000 in
theorem gX4_shareOf_J6_bitCount_0f7a4 : GoodIn wsX4_shareOf (va_wsS RX4 25 yJ6_bitCount_0f7a4 wsJ6_bitCount_0f7a4) := goodIn_app (goodIn_of _ (by decide +kernel)) ggX4_shareOf_J6_bitCount_0f7a4
set_option maxRecDepth 20000 in
theorem ggX4_shareOf_X4_factorial : GoodIn wsX4_shareOf wsX4_factorial := goodIn_r _ [39, 40] (by decide +kernel) (by decide +kernel)
set_option maxRecDepth 20000 in
theorem gX4_shareOf_X4_factorial : GoodIn wsX4_shareOf (va_wsS RX4 43 yX4_factorial wsX4_factorial) := goodIn_app (goodIn_of _ (by decide +kernel)) ggX4_shareOf_X4_factorial
set_option maxRecDepth 20000 in
theorem ggX4_shareOf_X4_told : GoodIn wsX4_shareOf wsX4_told := goodIn_r _ [43] (by decide +kernel) (by decide +kernel)
set_option maxRecDepth 20000 in
theorem gX4_shareOf_X4_told : GoodIn wsX4_shareOf (va_wsS RX4 46 yX4_told wsX4_told) := goodIn_app (goodIn_of _ (by decide +kernel)) ggX4_shareOf_X4_told
theorem dX4_shareOf_0 : decode cX4_shareOf 0 = .ok (.aload_n 0, 1) := by decide +kernel
theorem dX4_shareOf_1 : decode cX4_shareOf 1 = .ok (.getfield 34, 3) := by decide +kernel
theorem dX4_shareOf_4 : decode cX4_shareOf 4 = .ok (.istore_n 3, 1) := by decide +kernel
theorem dX4_shareOf_5 : decode cX4_shareOf 5 = .ok (.aload_n 0, 1) := by decide +kernel
theorem dX4_shareOf_6 : decode cX4_shareOf 6 = .ok (.iload_n 1, 1) := by decide +kernel
theorem dX4_shareOf_7 : decode cX4_shareOf 7 = .ok (.invokevirtual 37, 3) := by decide +kernel
theorem dX4_shareOf_10 : decode cX4_shareOf 10 = .ok (.istore 4, 2) := by decide +kernel
theorem dX4_shareOf_12 : decode cX4_shareOf 12 = .ok (.lconst 0, 1) := by decide +kernel
theorem dX4_shareOf_13 : decode cX4_shareOf 13 = .ok (.lstore 5, 2) := by decide +kernel
theorem dX4_shareOf_15 : decode cX4_shareOf 15 = .ok (.iconst 0, 1) := by decide +kernel
theorem dX4_shareOf_16 : decode cX4_shareOf 16 = .ok (.istore 7, 2) := by decide +kernel
theorem dX4_shareOf_18 : decode cX4_shareOf 18 = .ok (.iload 7, 2) := by decide +kernel
theorem dX4_shareOf_20 : decode cX4_shareOf 20 = .ok (.iconst 1, 1) := by decide +kernel
theorem dX4_shareOf_21 : decode cX4_shareOf 21 = .ok (.iload_n 3, 1) := by decide +kernel
theorem dX4_shareOf_22 : decode cX4_shareOf 22 = .ok (.ishl, 1) := by decide +kernel
theorem dX4_shareOf_23 : decode cX4_shareOf 23 = .ok (.if_icmp .ge 77, 3) := by decide +kernel
theorem dX4_shareOf_26 : decode cX4_shareOf 26 = .ok (.iload 7, 2) := by decide +kernel
theorem dX4_shareOf_28 : decode cX4_shareOf 28 = .ok (.iload_n 1, 1) := by decide +kernel
theorem dX4_shareOf_29 : decode cX4_shareOf 29 = .ok (.ishr, 1) := by decide +kernel
theorem dX4_shareOf_30 : decode cX4_shareOf 30 = .ok (.iconst 1, 1) := by decide +kernel
theorem dX4_shareOf_31 : decode cX4_shareOf 31 = .ok (.iand, 1) := by decide +kernel
theorem dX4_shareOf_32 : decode cX4_shareOf 32 = .ok (.iconst 1, 1) := by decide +kernel
theorem dX4_shareOf_33 : decode cX4_shareOf 33 = .ok (.if_icmp .ne 6, 3) := by decide +kernel
theorem dX4_shareOf_36 : decode cX4_shareOf 36 = .ok (.goto 58, 3) := by decide +kernel
theorem dX4_shareOf_39 : decode cX4_shareOf 39 = .ok (.aload_n 0, 1) := by decide +kernel
theorem dX4_shareOf_40 : decode cX4_shareOf 40 = .ok (.iload 7, 2) := by decide +kernel
theorem dX4_shareOf_42 : decode cX4_shareOf 42 = .ok (.invokevirtual 40, 3) := by decide +kernel
theorem dX4_shareOf_45 : decode cX4_shareOf 45 = .ok (.istore 8, 2) := by decide +kernel
theorem dX4_shareOf_47 : decode cX4_shareOf 47 = .ok (.iload 8, 2) := by decide +kernel
theorem dX4_shareOf_49 : decode cX4_shareOf 49 = .ok (.iload 4, 2) := by decide +kernel
theorem dX4_shareOf_51 : decode cX4_shareOf 51 = .ok (.iadd, 1) := by decide +kernel
theorem dX4_shareOf_52 : decode cX4_shareOf 52 = .ok (.iconst 4, 1) := by decide +kernel
theorem dX4_shareOf_53 : decode cX4_shareOf 53 = .ok (.idiv, 1) := by decide +kernel
theorem dX4_shareOf_54 : decode cX4_shareOf 54 = .ok (.iload 8, 2) := by decide +kernel
theorem dX4_shareOf_56 : decode cX4_shareOf 56 = .ok (.iconst 4, 1) := by decide +kernel
theorem dX4_shareOf_57 : decode cX4_shareOf 57 = .ok (.idiv, 1) := by decide +kernel
theorem dX4_shareOf_58 : decode cX4_shareOf 58 = .ok (.isub, 1) := by decide +kernel
theorem dX4_shareOf_59 : decode cX4_shareOf 59 = .ok (.istore 9, 2) := by decide +kernel
theorem dX4_shareOf_61 : decode cX4_shareOf 61 = .ok (.iload 7, 2) := by decide +kernel
theorem dX4_shareOf_63 : decode cX4_shareOf 63 = .ok (.invokestatic 25, 3) := by decide +kernel
theorem dX4_shareOf_66 : decode cX4_shareOf 66 = .ok (.istore 10, 2) := by decide +kernel
theorem dX4_shareOf_68 : decode cX4_shareOf 68 = .ok (.lload 5, 2) := by decide +kernel
theorem dX4_shareOf_70 : decode cX4_shareOf 70 = .ok (.iload 9, 2) := by decide +kernel
theorem dX4_shareOf_72 : decode cX4_shareOf 72 = .ok (.i2l, 1) := by decide +kernel
theorem dX4_shareOf_73 : decode cX4_shareOf 73 = .ok (.iload 10, 2) := by decide +kernel
theorem dX4_shareOf_75 : decode cX4_shareOf 75 = .ok (.invokestatic 43, 3) := by decide +kernel
theorem dX4_shareOf_78 : decode cX4_shareOf 78 = .ok (.i2l, 1) := by decide +kernel
theorem dX4_shareOf_79 : decode cX4_shareOf 79 = .ok (.lmul, 1) := by decide +kernel
theorem dX4_shareOf_80 : decode cX4_shareOf 80 = .ok (.iload_n 3, 1) := by decide +kernel
theorem dX4_shareOf_81 : decode cX4_shareOf 81 = .ok (.iconst 1, 1) := by decide +kernel
theorem dX4_shareOf_82 : decode cX4_shareOf 82 = .ok (.isub, 1) := by decide +kernel
theorem dX4_shareOf_83 : decode cX4_shareOf 83 = .ok (.iload 10, 2) := by decide +kernel
theorem dX4_shareOf_85 : decode cX4_shareOf 85 = .ok (.isub, 1) := by decide +kernel
theorem dX4_shareOf_86 : decode cX4_shareOf 86 = .ok (.invokestatic 43, 3) := by decide +kernel
theorem dX4_shareOf_89 : decode cX4_shareOf 89 = .ok (.i2l, 1) := by decide +kernel
theorem dX4_shareOf_90 : decode cX4_shareOf 90 = .ok (.lmul, 1) := by decide +kernel
theorem dX4_shareOf_91 : decode cX4_shareOf 91 = .ok (.ladd, 1) := by decide +kernel
theorem dX4_shareOf_92 : decode cX4_shareOf 92 = .ok (.lstore 5, 2) := by decide +kernel
theorem dX4_shareOf_94 : decode cX4_shareOf 94 = .ok (.iinc 7 1, 3) := by decide +kernel
theorem dX4_shareOf_97 : decode cX4_shareOf 97 = .ok (.goto (-79), 3) := by decide +kernel
theorem dX4_shareOf_100 : decode cX4_shareOf 100 = .ok (.lload 5, 2) := by decide +kernel
theorem dX4_shareOf_102 : decode cX4_shareOf 102 = .ok (.iload_n 3, 1) := by decide +kernel
theorem dX4_shareOf_103 : decode cX4_shareOf 103 = .ok (.invokestatic 43, 3) := by decide +kernel
theorem dX4_shareOf_106 : decode cX4_shareOf 106 = .ok (.i2l, 1) := by decide +kernel
theorem dX4_shareOf_107 : decode cX4_shareOf 107 = .ok (.iload_n 2, 1) := by decide +kernel
theorem dX4_shareOf_108 : decode cX4_shareOf 108 = .ok (.invokestatic 46, 3) := by decide +kernel
theorem dX4_shareOf_111 : decode cX4_shareOf 111 = .ok (.ireturn, 1) := by decide +kernel
theorem dX4_factorial_0 : decode cX4_factorial 0 = .ok (.iload_n 0, 1) := by decide +kernel
theorem dX4_factorial_1 : decode cX4_factorial 1 = .ok (.ifCond .lt 19, 3) := by decide +kernel
theorem dX4_factorial_4 : decode cX4_factorial 4 = .ok (.iload_n 0, 1) := by decide +kernel
theorem dX4_factorial_5 : decode cX4_factorial 5 = .ok (.getstatic 50, 3) := by decide +kernel
theorem dX4_factorial_8 : decode cX4_factorial 8 = .ok (.arraylength, 1) := by decide +kernel
theorem dX4_factorial_9 : decode cX4_factorial 9 = .ok (.if_icmp .ge 11, 3) := by decide +kernel
theorem dX4_factorial_12 : decode cX4_factorial 12 = .ok (.getstatic 50, 3) := by decide +kernel
theorem dX4_factorial_15 : decode cX4_factorial 15 = .ok (.iload_n 0, 1) := by decide +kernel
theorem dX4_factorial_16 : decode cX4_factorial 16 = .ok (.iaload, 1) := by decide +kernel
theorem dX4_factorial_17 : decode cX4_factorial 17 = .ok (.goto 4, 3) := by decide +kernel
theorem dX4_factorial_20 : decode cX4_factorial 20 = .ok (.iconst 1, 1) := by decide +kernel
theorem dX4_factorial_21 : decode cX4_factorial 21 = .ok (.ireturn, 1) := by decide +kernel
set_option maxRecDepth 20000 in
theorem ggX4_chanceOfLeft_X0_fallenBits : GoodIn wsX4_chanceOfLeft wsX0_fallenBits := goodIn_r _ [6, 7, 8, 9, 5, 10, 11, 41, 42, 43, 44, 45] (by decide +kernel) (by decide +kernel)
set_option maxRecDepth 20000 in
theorem gX4_chanceOfLeft_X0_fallenBits : GoodIn wsX4_chanceOfLeft (wsV RX4 54 RX0 yX0_fallenBits wsX0_fallenBits) := goodIn_app (goodIn_of _ (by decide +kernel)) ggX4_chanceOfLeft_X0_fallenBits
set_option maxRecDepth 20000 in
theorem ggX4_chanceOfLeft_X0_hasFallen : GoodIn wsX4_chanceOfLeft wsX0_hasFallen := goodIn_r _ [15, 16, 3, 4, 5, 6, 7, 8, 9, 10, 11, 41, 42, 43, 44, 45] (by decide +kernel) (by decide +kernel)
set_option maxRecDepth 20000 in
theorem gX4_chanceOfLeft_X0_hasFallen : GoodIn wsX4_chanceOfLeft (wsV RX4 58 RX0 yX0_hasFallen wsX0_hasFallen) := goodIn_app (goodIn_of _ (by decide +kernel)) ggX4_chanceOfLeft_X0_hasFallen
set_option maxRecDepth 20000 in
theorem ggX4_chanceOfLeft_X0_breathsOfThese : GoodIn wsX4_chanceOfLeft wsX0_breathsOfThese := goodIn_r _ [20, 21, 22, 23, 24, 5, 25, 26, 27, 28, 29, 7, 8, 9, 10, 11, 30, 31, 32, 33, 41, 42, 43, 44, 45] (by decide +kernel) (by decide +kernel)
set_option maxRecDepth 20000 in
theorem gX4_chanceOfLeft_X0_breathsOfThese : GoodIn wsX4_chanceOfLeft (wsV RX4 40 RX0 yX0_breathsOfThese wsX0_breathsOfThese) := goodIn_app (goodIn_of _ (by decide +kernel)) ggX4_chanceOfLeft_X0_breathsOfThese
set_option maxRecDepth 20000 in
theorem ggX4_chanceOfLeft_X4_weight : GoodIn wsX4_chanceOfLeft wsX4_weight := goodIn_r _ [37, 12, 13, 14, 5, 15, 16, 3, 4, 6, 7, 8, 9, 10, 11, 41, 42, 43, 44, 45] (by decide +kernel) (by decide +kernel)
set_option maxRecDepth 20000 in
theorem gX4_chanceOfLeft_X4_weight : GoodIn wsX4_chanceOfLeft (va_wsS RX4 64 yX4_weight wsX4_weight) := goodIn_app (goodIn_of _ (by decide +kernel)) ggX4_chanceOfLeft_X4_weight
set_option maxRecDepth 20000 in
theorem ggX4_chanceOfLeft_X4_told : GoodIn wsX4_chanceOfLeft wsX4_told := goodIn_r _ [40] (by decide +kernel) (by decide +kernel)
set_option maxRecDepth 20000 in
theorem gX4_chanceOfLeft_X4_told : GoodIn wsX4_chanceOfLeft (va_wsS RX4 46 yX4_told wsX4_told) := goodIn_app (goodIn_of _ (by decide +kernel)) ggX4_chanceOfLeft_X4_told
theorem dX4_chanceOfLeft_0 : decode cX4_chanceOfLeft 0 = .ok (.aload_n 0, 1) := by decide +kernel
theorem dX4_chanceOfLeft_1 : decode cX4_chanceOfLeft 1 = .ok (.invokevirtual 54, 3) := by decide +kernel
theorem dX4_chanceOfLeft_4 : decode cX4_chanceOfLeft 4 = .ok (.istore 4, 2) := by decide +kernel
theorem dX4_chanceOfLeft_6 : decode cX4_chanceOfLeft 6 = .ok (.lconst 0, 1) := by decide +kernel
theorem dX4_chanceOfLeft_7 : decode cX4_chanceOfLeft 7 = .ok (.lstore 5, 2) := by decide +kernel
theorem dX4_chanceOfLeft_9 : decode cX4_chanceOfLeft 9 = .ok (.lconst 1, 1) := by decide +kernel
theorem dX4_chanceOfLeft_10 : decode cX4_chanceOfLeft 10 = .ok (.lstore 7, 2) := by decide +kernel
theorem dX4_chanceOfLeft_12 : decode cX4_chanceOfLeft 12 = .ok (.iconst 0, 1) := by decide +kernel
theorem dX4_chanceOfLeft_13 : decode cX4_chanceOfLeft 13 = .ok (.istore 9, 2) := by decide +kernel
theorem dX4_chanceOfLeft_15 : decode cX4_chanceOfLeft 15 = .ok (.iload 9, 2) := by decide +kernel
theorem dX4_chanceOfLeft_17 : decode cX4_chanceOfLeft 17 = .ok (.aload_n 0, 1) := by decide +kernel
theorem dX4_chanceOfLeft_18 : decode cX4_chanceOfLeft 18 = .ok (.getfield 34, 3) := by decide +kernel
theorem dX4_chanceOfLeft_21 : decode cX4_chanceOfLeft 21 = .ok (.if_icmp .ge 30, 3) := by decide +kernel
theorem dX4_chanceOfLeft_24 : decode cX4_chanceOfLeft 24 = .ok (.lload 7, 2) := by decide +kernel
theorem dX4_chanceOfLeft_26 : decode cX4_chanceOfLeft 26 = .ok (.aload_n 0, 1) := by decide +kernel
theorem dX4_chanceOfLeft_27 : decode cX4_chanceOfLeft 27 = .ok (.iload 9, 2) := by decide +kernel
theorem dX4_chanceOfLeft_29 : decode cX4_chanceOfLeft 29 = .ok (.invokevirtual 58, 3) := by decide +kernel
theorem dX4_chanceOfLeft_32 : decode cX4_chanceOfLeft 32 = .ok (.ifCond .eq 7, 3) := by decide +kernel
theorem dX4_chanceOfLeft_35 : decode cX4_chanceOfLeft 35 = .ok (.lconst 1, 1) := by decide +kernel
theorem dX4_chanceOfLeft_36 : decode cX4_chanceOfLeft 36 = .ok (.goto 6, 3) := by decide +kernel
theorem dX4_chanceOfLeft_39 : decode cX4_chanceOfLeft 39 = .ok (.ldc2_w 62, 3) := by decide +kernel
theorem dX4_chanceOfLeft_42 : decode cX4_chanceOfLeft 42 = .ok (.lmul, 1) := by decide +kernel
theorem dX4_chanceOfLeft_43 : decode cX4_chanceOfLeft 43 = .ok (.lstore 7, 2) := by decide +kernel
theorem dX4_chanceOfLeft_45 : decode cX4_chanceOfLeft 45 = .ok (.iinc 9 1, 3) := by decide +kernel
theorem dX4_chanceOfLeft_48 : decode cX4_chanceOfLeft 48 = .ok (.goto (-33), 3) := by decide +kernel
theorem dX4_chanceOfLeft_51 : decode cX4_chanceOfLeft 51 = .ok (.iconst 0, 1) := by decide +kernel
theorem dX4_chanceOfLeft_52 : decode cX4_chanceOfLeft 52 = .ok (.istore 9, 2) := by decide +kernel
theorem dX4_chanceOfLeft_54 : decode cX4_chanceOfLeft 54 = .ok (.iload 9, 2) := by decide +kernel
theorem dX4_chanceOfLeft_56 : decode cX4_chanceOfLeft 56 = .ok (.iconst 1, 1) := by decide +kernel
theorem dX4_chanceOfLeft_57 : decode cX4_chanceOfLeft 57 = .ok (.aload_n 0, 1) := by decide +kernel
theorem dX4_chanceOfLeft_58 : decode cX4_chanceOfLeft 58 = .ok (.getfield 34, 3) := by decide +kernel
theorem dX4_chanceOfLeft_61 : decode cX4_chanceOfLeft 61 = .ok (.ishl, 1) := by decide +kernel
theorem dX4_chanceOfLeft_62 : decode cX4_chanceOfLeft 62 = .ok (.if_icmp .ge 41, 3) := by decide +kernel
theorem dX4_chanceOfLeft_65 : decode cX4_chanceOfLeft 65 = .ok (.iload 9, 2) := by decide +kernel
theorem dX4_chanceOfLeft_67 : decode cX4_chanceOfLeft 67 = .ok (.iload 4, 2) := by decide +kernel
theorem dX4_chanceOfLeft_69 : decode cX4_chanceOfLeft 69 = .ok (.iand, 1) := by decide +kernel
theorem dX4_chanceOfLeft_70 : decode cX4_chanceOfLeft 70 = .ok (.iload 4, 2) := by decide +kernel
theorem dX4_chanceOfLeft_72 : decode cX4_chanceOfLeft 72 = .ok (.if_icmp .ne 25, 3) := by decide +kernel
theorem dX4_chanceOfLeft_75 : decode cX4_chanceOfLeft 75 = .ok (.aload_n 0, 1) := by decide +kernel
theorem dX4_chanceOfLeft_76 : decode cX4_chanceOfLeft 76 = .ok (.iload 9, 2) := by decide +kernel
theorem dX4_chanceOfLeft_78 : decode cX4_chanceOfLeft 78 = .ok (.invokevirtual 40, 3) := by decide +kernel
theorem dX4_chanceOfLeft_81 : decode cX4_chanceOfLeft 81 = .ok (.iload_n 1, 1) := by decide +kernel
theorem dX4_chanceOfLeft_82 : decode cX4_chanceOfLeft 82 = .ok (.if_icmp .lt 15, 3) := by decide +kernel
theorem dX4_chanceOfLeft_85 : decode cX4_chanceOfLeft 85 = .ok (.lload 5, 2) := by decide +kernel
theorem dX4_chanceOfLeft_87 : decode cX4_chanceOfLeft 87 = .ok (.aload_n 0, 1) := by decide +kernel
theorem dX4_chanceOfLeft_88 : decode cX4_chanceOfLeft 88 = .ok (.iload 9, 2) := by decide +kernel
theorem dX4_chanceOfLeft_90 : decode cX4_chanceOfLeft 90 = .ok (.iload_n 2, 1) := by decide +kernel
theorem dX4_chanceOfLeft_91 : decode cX4_chanceOfLeft 91 = .ok (.invokestatic 64, 3) := by decide +kernel
theorem dX4_chanceOfLeft_94 : decode cX4_chanceOfLeft 94 = .ok (.ladd, 1) := by decide +kernel
theorem dX4_chanceOfLeft_95 : decode cX4_chanceOfLeft 95 = .ok (.lstore 5, 2) := by decide +kernel
theorem dX4_chanceOfLeft_97 : decode cX4_chanceOfLeft 97 = .ok (.iinc 9 1, 3) := by decide +kernel
theorem dX4_chanceOfLeft_100 : decode cX4_chanceOfLeft 100 = .ok (.goto (-46), 3) := by decide +kernel
theorem dX4_chanceOfLeft_103 : decode cX4_chanceOfLeft 103 = .ok (.lload 5, 2) := by decide +kernel
theorem dX4_chanceOfLeft_105 : decode cX4_chanceOfLeft 105 = .ok (.lload 7, 2) := by decide +kernel
theorem dX4_chanceOfLeft_107 : decode cX4_chanceOfLeft 107 = .ok (.iload_n 3, 1) := by decide +kernel
theorem dX4_chanceOfLeft_108 : decode cX4_chanceOfLeft 108 = .ok (.invokestatic 46, 3) := by decide +kernel
theorem dX4_chanceOfLeft_111 : decode cX4_chanceOfLeft 111 = .ok (.ireturn, 1) := by decide +kernel
set_option maxRecDepth 20000 in
theorem ggX4_weight_X0_hasFallen : GoodIn wsX4_weight wsX0_hasFallen := goodIn_r _ [5, 6, 7, 8, 4, 9, 10, 11, 12, 13, 14, 15, 16, 17, 18, 19] (by decide +kernel) (by decide +kernel)
set_option maxRecDepth 20000 in
theorem gX4_weight_X0_hasFallen : GoodIn wsX4_weight (wsV RX4 58 RX0 yX0_hasFallen wsX0_hasFallen) := goodIn_app (goodIn_of _ (by decide +kernel)) ggX4_weight_X0_hasFallen
theorem dX4_weight_0 : decode cX4_weight 0 = .ok (.lconst 1, 1) := by decide +kernel
theorem dX4_weight_1 : decode cX4_weight 1 = .ok (.lstore_n 3, 1) := by decide +kernel
theorem dX4_weight_2 : decode cX4_weight 2 = .ok (.iconst 0, 1) := by decide +kernel
theorem dX4_weight_3 : decode cX4_weight 3 = .ok (.istore 5, 2) := by decide +kernel
theorem dX4_weight_5 : decode cX4_weight 5 = .ok (.iload 5, 2) := by decide +kernel
theorem dX4_weight_7 : decode cX4_weight 7 = .ok (.aload_n 0, 1) := by decide +kernel
theorem dX4_weight_8 : decode cX4_weight 8 = .ok (.getfield 34, 3) := by decide +kernel
theorem dX4_weight_11 : decode cX4_weight 11 = .ok (.if_icmp .ge 41, 3) := by decide +kernel
theorem dX4_weight_14 : decode cX4_weight 14 = .ok (.aload_n 0, 1) := by decide +kernel
theorem dX4_weight_15 : decode cX4_weight 15 = .ok (.iload 5, 2) := by decide +kernel
theorem dX4_weight_17 : decode cX4_weight 17 = .ok (.invokevirtual 58, 3) := by decide +kernel
theorem dX4_weight_20 : decode cX4_weight 20 = .ok (.ifCond .ne 26, 3) := by decide +kernel
theorem dX4_weight_23 : decode cX4_weight 23 = .ok (.lload_n 3, 1) := by decide +kernel
theorem dX4_weight_24 : decode cX4_weight 24 = .ok (.iload_n 1, 1) := by decide +kernel
theorem dX4_weight_25 : decode cX4_weight 25 = .ok (.iload 5, 2) := by decide +kernel
theorem dX4_weight_27 : decode cX4_weight 27 = .ok (.ishr, 1) := by decide +kernel
theorem dX4_weight_28 : decode cX4_weight 28 = .ok (.iconst 1, 1) := by decide +kernel
theorem dX4_weight_29 : decode cX4_weight 29 = .ok (.iand, 1) := by decide +kernel
theorem dX4_weight_30 : decode cX4_weight 30 = .ok (.iconst 1, 1) := by decide +kernel
theorem dX4_weight_31 : decode cX4_weight 31 = .ok (.if_icmp .ne 8, 3) := by decide +kernel
theorem dX4_weight_34 : decode cX4_weight 34 = .ok (.iload_n 2, 1) := by decide +kernel
theorem dX4_weight_35 : decode cX4_weight 35 = .ok (.i2l, 1) := by decide +kernel
theorem dX4_weight_36 : decode cX4_weight 36 = .ok (.goto 8, 3) := by decide +kernel
theorem dX4_weight_39 : decode cX4_weight 39 = .ok (.bipush 10, 2) := by decide +kernel
theorem dX4_weight_41 : decode cX4_weight 41 = .ok (.iload_n 2, 1) := by decide +kernel
theorem dX4_weight_42 : decode cX4_weight 42 = .ok (.isub, 1) := by decide +kernel
theorem dX4_weight_43 : decode cX4_weight 43 = .ok (.i2l, 1) := by decide +kernel
theorem dX4_weight_44 : decode cX4_weight 44 = .ok (.lmul, 1) := by decide +kernel
theorem dX4_weight_45 : decode cX4_weight 45 = .ok (.lstore_n 3, 1) := by decide +kernel
theorem dX4_weight_46 : decode cX4_weight 46 = .ok (.iinc 5 1, 3) := by decide +kernel
theorem dX4_weight_49 : decode cX4_weight 49 = .ok (.goto (-44), 3) := by decide +kernel
theorem dX4_weight_52 : decode cX4_weight 52 = .ok (.lload_n 3, 1) := by decide +kernel
theorem dX4_weight_53 : decode cX4_weight 53 = .ok (.lreturn, 1) := by decide +kernel
theorem dX4_told_0 : decode cX4_told 0 = .ok (.lload_n 2, 1) := by decide +kernel
theorem dX4_told_1 : decode cX4_told 1 = .ok (.lstore 5, 2) := by decide +kernel
theorem dX4_told_3 : decode cX4_told 3 = .ok (.lload_n 0, 1) := by decide +kernel
theorem dX4_told_4 : decode cX4_told 4 = .ok (.lstore 7, 2) := by decide +kernel
theorem dX4_told_6 : decode cX4_told 6 = .ok (.iconst 0, 1) := by decide +kernel
theorem dX4_told_7 : decode cX4_told 7 = .ok (.istore 9, 2) := by decide +kernel
theorem dX4_told_9 : decode cX4_told 9 = .ok (.iload 9, 2) := by decide +kernel
theorem dX4_told_11 : decode cX4_told 11 = .ok (.bipush 64, 2) := by decide +kernel
theorem dX4_told_13 : decode cX4_told 13 = .ok (.if_icmp .ge 31, 3) := by decide +kernel
theorem dX4_told_16 : decode cX4_told 16 = .ok (.lload 7, 2) := by decide +kernel
theorem dX4_told_18 : decode cX4_told 18 = .ok (.lconst 0, 1) := by decide +kernel
theorem dX4_told_19 : decode cX4_told 19 = .ok (.lcmp, 1) := by decide +kernel
theorem dX4_told_20 : decode cX4_told 20 = .ok (.ifCond .eq 24, 3) := by decide +kernel
theorem dX4_told_23 : decode cX4_told 23 = .ok (.lload 5, 2) := by decide +kernel
theorem dX4_told_25 : decode cX4_told 25 = .ok (.lload 7, 2) := by decide +kernel
theorem dX4_told_27 : decode cX4_told 27 = .ok (.lrem, 1) := by decide +kernel
theorem dX4_told_28 : decode cX4_told 28 = .ok (.lstore 10, 2) := by decide +kernel
theorem dX4_told_30 : decode cX4_told 30 = .ok (.lload 7, 2) := by decide +kernel
theorem dX4_told_32 : decode cX4_told 32 = .ok (.lstore 5, 2) := by decide +kernel
theorem dX4_told_34 : decode cX4_told 34 = .ok (.lload 10, 2) := by decide +kernel
theorem dX4_told_36 : decode cX4_told 36 = .ok (.lstore 7, 2) := by decide +kernel
theorem dX4_told_38 : decode cX4_told 38 = .ok (.iinc 9 1, 3) := by decide +kernel
theorem dX4_told_41 : decode cX4_told 41 = .ok (.goto (-32), 3) := by decide +kernel
theorem dX4_told_44 : decode cX4_told 44 = .ok (.iload 4, 2) := by decide +kernel
theorem dX4_told_46 : decode cX4_told 46 = .ok (.ifCond .eq 7, 3) := by decide +kernel
theorem dX4_told_49 : decode cX4_told 49 = .ok (.lload_n 0, 1) := by decide +kernel
theorem dX4_told_50 : decode cX4_told 50 = .ok (.goto 4, 3) := by decide +kernel
theorem dX4_told_53 : decode cX4_told 53 = .ok (.lload_n 2, 1) := by decide +kernel
theorem dX4_told_54 : decode cX4_told 54 = .ok (.lstore 9, 2) := by decide +kernel
theorem dX4_told_56 : decode cX4_told 56 = .ok (.lload 5, 2) := by decide +kernel
theorem dX4_told_58 : decode cX4_told 58 = .ok (.lconst 0, 1) := by decide +kernel
theorem dX4_told_59 : decode cX4_told 59 = .ok (.lcmp, 1) := by decide +kernel
theorem dX4_told_60 : decode cX4_told 60 = .ok (.ifCond .ne 8, 3) := by decide +kernel
theorem dX4_told_63 : decode cX4_told 63 = .ok (.lload 9, 2) := by decide +kernel
theorem dX4_told_65 : decode cX4_told 65 = .ok (.goto 8, 3) := by decide +kernel
theorem dX4_told_68 : decode cX4_told 68 = .ok (.lload 9, 2) := by decide +kernel
theorem dX4_told_70 : decode cX4_told 70 = .ok (.lload 5, 2) := by decide +kernel
theorem dX4_told_72 : decode cX4_told 72 = .ok (.ldiv, 1) := by decide +kernel
theorem dX4_told_73 : decode cX4_told 73 = .ok (.l2i, 1) := by decide +kernel
theorem dX4_told_74 : decode cX4_told 74 = .ok (.ireturn, 1) := by decide +kernel
theorem dX5_init_0 : decode cX5_init 0 = .ok (.aload_n 0, 1) := by decide +kernel
theorem dX5_init_1 : decode cX5_init 1 = .ok (.invokespecial 3, 3) := by decide +kernel
theorem dX5_init_4 : decode cX5_init 4 = .ok (.aload_n 0, 1) := by decide +kernel
theorem dX5_init_5 : decode cX5_init 5 = .ok (.bipush 60, 2) := by decide +kernel
theorem dX5_init_7 : decode cX5_init 7 = .ok (.newarray .int, 2) := by decide +kernel
theorem dX5_init_9 : decode cX5_init 9 = .ok (.putfield 11, 3) := by decide +kernel
theorem dX5_init_12 : decode cX5_init 12 = .ok (.aload_n 0, 1) := by decide +kernel
theorem dX5_init_13 : decode cX5_init 13 = .ok (.iconst 0, 1) := by decide +kernel
theorem dX5_init_14 : decode cX5_init 14 = .ok (.putfield 15, 3) := by decide +kernel
theorem dX5_init_17 : decode cX5_init 17 = .ok (.return_, 1) := by decide +kernel
theorem dX5_add_0 : decode cX5_add 0 = .ok (.iload_n 1, 1) := by decide +kernel
theorem dX5_add_1 : decode cX5_add 1 = .ok (.ifCond .lt 10, 3) := by decide +kernel
theorem dX5_add_4 : decode cX5_add 4 = .ok (.iload_n 1, 1) := by decide +kernel
theorem dX5_add_5 : decode cX5_add 5 = .ok (.sipush 255, 3) := by decide +kernel
theorem dX5_add_8 : decode cX5_add 8 = .ok (.if_icmp .le 6, 3) := by decide +kernel
theorem dX5_add_11 : decode cX5_add 11 = .ok (.bipush (-2), 2) := by decide +kernel
theorem dX5_add_13 : decode cX5_add 13 = .ok (.ireturn, 1) := by decide +kernel
theorem dX5_add_14 : decode cX5_add 14 = .ok (.aload_n 0, 1) := by decide +kernel
theorem dX5_add_15 : decode cX5_add 15 = .ok (.getfield 15, 3) := by decide +kernel
theorem dX5_add_18 : decode cX5_add 18 = .ok (.ifCond .lt 15, 3) := by decide +kernel
theorem dX5_add_21 : decode cX5_add 21 = .ok (.aload_n 0, 1) := by decide +kernel
theorem dX5_add_22 : decode cX5_add 22 = .ok (.getfield 15, 3) := by decide +kernel
theorem dX5_add_25 : decode cX5_add 25 = .ok (.aload_n 0, 1) := by decide +kernel
theorem dX5_add_26 : decode cX5_add 26 = .ok (.getfield 11, 3) := by decide +kernel
theorem dX5_add_29 : decode cX5_add 29 = .ok (.arraylength, 1) := by decide +kernel
theorem dX5_add_30 : decode cX5_add 30 = .ok (.if_icmp .lt 6, 3) := by decide +kernel
theorem dX5_add_33 : decode cX5_add 33 = .ok (.bipush (-4), 2) := by decide +kernel
theorem dX5_add_35 : decode cX5_add 35 = .ok (.ireturn, 1) := by decide +kernel
theorem dX5_add_36 : decode cX5_add 36 = .ok (.aload_n 0, 1) := by decide +kernel
theorem dX5_add_37 : decode cX5_add 37 = .ok (.getfield 11, 3) := by decide +kernel
theorem dX5_add_40 : decode cX5_add 40 = .ok (.aload_n 0, 1) := by decide +kernel
theorem dX5_add_41 : decode cX5_add 41 = .ok (.getfield 15, 3) := by decide +kernel
theorem dX5_add_44 : decode cX5_add 44 = .ok (.iload_n 1, 1) := by decide +kernel
theorem dX5_add_45 : decode cX5_add 45 = .ok (.iastore, 1) := by decide +kernel
theorem dX5_add_46 : decode cX5_add 46 = .ok (.aload_n 0, 1) := by decide +kernel
theorem dX5_add_47 : decode cX5_add 47 = .ok (.dup, 1) := by decide +kernel
theorem dX5_add_48 : decode cX5_add 48 = .ok (.getfield 15, 3) := by decide +kernel
theorem dX5_add_51 : decode cX5_add 51 = .ok (.iconst 1, 1) := by decide +kernel
theorem dX5_add_52 : decode cX5_add 52 = .ok (.iadd, 1) := by decide +kernel
theorem dX5_add_53 : decode cX5_add 53 = .ok (.putfield 15, 3) := by decide +kernel
theorem dX5_add_56 : decode cX5_add 56 = .ok (.aload_n 0, 1) := by decide +kernel
theorem dX5_add_57 : decode cX5_add 57 = .ok (.getfield 15, 3) := by decide +kernel
theorem dX5_add_60 : decode cX5_add 60 = .ok (.ireturn, 1) := by decide +kernel
theorem dX5_clear_0 : decode cX5_clear 0 = .ok (.aload_n 0, 1) := by decide +kernel
theorem dX5_clear_1 : decode cX5_clear 1 = .ok (.getfield 15, 3) := by decide +kernel
theorem dX5_clear_4 : decode cX5_clear 4 = .ok (.istore_n 1, 1) := by decide +kernel
theorem dX5_clear_5 : decode cX5_clear 5 = .ok (.aload_n 0, 1) := by decide +kernel
theorem dX5_clear_6 : decode cX5_clear 6 = .ok (.iconst 0, 1) := by decide +kernel
theorem dX5_clear_7 : decode cX5_clear 7 = .ok (.putfield 15, 3) := by decide +kernel
theorem dX5_clear_10 : decode cX5_clear 10 = .ok (.iload_n 1, 1) := by decide +kernel
theorem dX5_clear_11 : decode cX5_clear 11 = .ok (.ireturn, 1) := by decide +kernel
theorem dX5_letterAt_0 : decode cX5_letterAt 0 = .ok (.iload_n 1, 1) := by decide +kernel
theorem dX5_letterAt_1 : decode cX5_letterAt 1 = .ok (.ifCond .lt 29, 3) := by decide +kernel
theorem dX5_letterAt_4 : decode cX5_letterAt 4 = .ok (.iload_n 1, 1) := by decide +kernel
theorem dX5_letterAt_5 : decode cX5_letterAt 5 = .ok (.aload_n 0, 1) := by decide +kernel
theorem dX5_letterAt_6 : decode cX5_letterAt 6 = .ok (.getfield 15, 3) := by decide +kernel
theorem dX5_letterAt_9 : decode cX5_letterAt 9 = .ok (.if_icmp .ge 21, 3) := by decide +kernel
theorem dX5_letterAt_12 : decode cX5_letterAt 12 = .ok (.iload_n 1, 1) := by decide +kernel
theorem dX5_letterAt_13 : decode cX5_letterAt 13 = .ok (.aload_n 0, 1) := by decide +kernel
theorem dX5_letterAt_14 : decode cX5_letterAt 14 = .ok (.getfield 11, 3) := by decide +kernel
theorem dX5_letterAt_17 : decode cX5_letterAt 17 = .ok (.arraylength, 1) := by decide +kernel
theorem dX5_letterAt_18 : decode cX5_letterAt 18 = .ok (.if_icmp .ge 12, 3) := by decide +kernel
theorem dX5_letterAt_21 : decode cX5_letterAt 21 = .ok (.aload_n 0, 1) := by decide +kernel
theorem dX5_letterAt_22 : decode cX5_letterAt 22 = .ok (.getfield 11, 3) := by decide +kernel
theorem dX5_letterAt_25 : decode cX5_letterAt 25 = .ok (.iload_n 1, 1) := by decide +kernel
theorem dX5_letterAt_26 : decode cX5_letterAt 26 = .ok (.iaload, 1) := by decide +kernel
theorem dX5_letterAt_27 : decode cX5_letterAt 27 = .ok (.goto 4, 3) := by decide +kernel
theorem dX5_letterAt_30 : decode cX5_letterAt 30 = .ok (.iconst (-1), 1) := by decide +kernel
theorem dX5_letterAt_31 : decode cX5_letterAt 31 = .ok (.ireturn, 1) := by decide +kernel
set_option maxRecDepth 20000 in
theorem ggX5_figureAt_X5_letterAt : GoodIn wsX5_figureAt wsX5_letterAt := goodIn_r _ [5, 6, 7, 8, 9] (by decide +kernel) (by decide +kernel)
set_option maxRecDepth 20000 in
theorem gX5_figureAt_X5_letterAt : GoodIn wsX5_figureAt (wsV RX5 19 RX5 yX5_letterAt wsX5_letterAt) := goodIn_app (goodIn_of _ (by decide +kernel)) ggX5_figureAt_X5_letterAt
theorem dX5_figureAt_0 : decode cX5_figureAt 0 = .ok (.aload_n 0, 1) := by decide +kernel
theorem dX5_figureAt_1 : decode cX5_figureAt 1 = .ok (.iload_n 1, 1) := by decide +kernel
theorem dX5_figureAt_2 : decode cX5_figureAt 2 = .ok (.invokevirtual 19, 3) := by decide +kernel
theorem dX5_figureAt_5 : decode cX5_figureAt 5 = .ok (.istore_n 2, 1) := by decide +kernel
theorem dX5_figureAt_6 : decode cX5_figureAt 6 = .ok (.iload_n 2, 1) := by decide +kernel
theorem dX5_figureAt_7 : decode cX5_figureAt 7 = .ok (.bipush 48, 2) := by decide +kernel
theorem dX5_figureAt_9 : decode cX5_figureAt 9 = .ok (.if_icmp .lt 16, 3) := by decide +kernel
theorem dX5_figureAt_12 : decode cX5_figureAt 12 = .ok (.iload_n 2, 1) := by decide +kernel
theorem dX5_figureAt_13 : decode cX5_figureAt 13 = .ok (.bipush 57, 2) := by decide +kernel
theorem dX5_figureAt_15 : decode cX5_figureAt 15 = .ok (.if_icmp .gt 10, 3) := by decide +kernel
theorem dX5_figureAt_18 : decode cX5_figureAt 18 = .ok (.iload_n 2, 1) := by decide +kernel
theorem dX5_figureAt_19 : decode cX5_figureAt 19 = .ok (.bipush 48, 2) := by decide +kernel
theorem dX5_figureAt_21 : decode cX5_figureAt 21 = .ok (.isub, 1) := by decide +kernel
theorem dX5_figureAt_22 : decode cX5_figureAt 22 = .ok (.goto 4, 3) := by decide +kernel
theorem dX5_figureAt_25 : decode cX5_figureAt 25 = .ok (.iconst (-1), 1) := by decide +kernel
theorem dX5_figureAt_26 : decode cX5_figureAt 26 = .ok (.ireturn, 1) := by decide +kernel
set_option maxRecDepth 20000 in
theorem ggX5_tellTo_X0_empty : GoodIn wsX5_tellTo wsX0_empty := goodIn_r _ [6, 7, 8, 9, 86, 87, 88, 89, 90] (by decide +kernel) (by decide +kernel)
set_option maxRecDepth 20000 in
theorem gX5_tellTo_X0_empty : GoodIn wsX5_tellTo (wsV RX5 23 RX0 yX0_empty wsX0_empty) := goodIn_app (goodIn_of _ (by decide +kernel)) ggX5_tellTo_X0_empty
set_option maxRecDepth 20000 in
theorem ggX5_tellTo_X5_letterAt : GoodIn wsX5_tellTo wsX5_letterAt := goodIn_r _ [14, 1, 15, 84, 85] (by decide +kernel) (by decide +kernel)
set_option maxRecDepth 20000 in
theorem gX5_tellTo_X5_letterAt : GoodIn wsX5_tellTo (wsV RX5 19 RX5 yX5_letterAt wsX5_letterAt) := goodIn_app (goodIn_of _ (by decide +kernel)) ggX5_tellTo_X5_letterAt
set_option maxRecDepth 20000 in
theorem ggX5_tellTo_X5_tellThing : GoodIn wsX5_tellTo wsX5_tellThing := goodIn_r _ [19, 10, 11, 12, 13, 14, 1, 15, 20, 21, 22, 23, 24, 25, 26, 27, 28, 29, 30, 5, 31, 7, 32, 33, 34, 35, 36, 37, 38, 39, 40, 8, 41, 42, 43, 44, 45, 46, 47, 48, 49, 9, 50, 51, 52, 53, 54, 55, 56, 57, 58, 59, 60, 61, 62, 63, 64, 65, 66, 67, 68, 69, 70, 71, 72, 73, 74, 75, 76, 77, 78, 79, 80, 81, 82, 83, 84, 85, 86, 87, 88, 89, 90] (by decide +kernel) (by decide +kernel)
set_option maxRecDepth 20000 in
theorem gX5_tellTo_X5_tellThing : GoodIn wsX5_tellTo (wsV RX5 28 RX5 yX5_tellThing wsX5_tellThing) := goodIn_app (goodIn_of _ (by decide +kernel)) ggX5_tellTo_X5_tellThing
theorem dX5_tellTo_0 : decode cX5_tellTo 0 = .ok (.aload_n 1, 1) := by decide +kernel
theorem dX5_tellTo_1 : decode cX5_tellTo 1 = .ok (.invokevirtual 23, 3) := by decide +kernel
theorem dX5_tellTo_4 : decode cX5_tellTo 4 = .ok (.aload_n 0, 1) := by decide +kernel
theorem dX5_tellTo_5 : decode cX5_tellTo 5 = .ok (.iconst 0, 1) := by decide +kernel
theorem dX5_tellTo_6 : decode cX5_tellTo 6 = .ok (.invokevirtual 19, 3) := by decide +kernel
theorem dX5_tellTo_9 : decode cX5_tellTo 9 = .ok (.bipush 66, 2) := by decide +kernel
theorem dX5_tellTo_11 : decode cX5_tellTo 11 = .ok (.if_icmp .eq 5, 3) := by decide +kernel
theorem dX5_tellTo_14 : decode cX5_tellTo 14 = .ok (.iconst 0, 1) := by decide +kernel
theorem dX5_tellTo_15 : decode cX5_tellTo 15 = .ok (.ireturn, 1) := by decide +kernel
theorem dX5_tellTo_16 : decode cX5_tellTo 16 = .ok (.iconst 1, 1) := by decide +kernel
theorem dX5_tellTo_17 : decode cX5_tellTo 17 = .ok (.istore_n 2, 1) := by decide +kernel
theorem dX5_tellTo_18 : decode cX5_tellTo 18 = .ok (.iload_n 2, 1) := by decide +kernel
theorem dX5_tellTo_19 : decode cX5_tellTo 19 = .ok (.aload_n 0, 1) := by decide +kernel
theorem dX5_tellTo_20 : decode cX5_tellTo 20 = .ok (.getfield 15, 3) := by decide +kernel
theorem dX5_tellTo_23 : decode cX5_tellTo 23 = .ok (.if_icmp .ge 39, 3) := by decide +kernel
theorem dX5_tellTo_26 : decode cX5_tellTo 26 = .ok (.aload_n 0, 1) := by decide +kernel
theorem dX5_tellTo_27 : decode cX5_tellTo 27 = .ok (.iload_n 2, 1) := by decide +kernel
theorem dX5_tellTo_28 : decode cX5_tellTo 28 = .ok (.aload_n 1, 1) := by decide +kernel
theorem dX5_tellTo_29 : decode cX5_tellTo 29 = .ok (.invokevirtual 28, 3) := by decide +kernel
theorem dX5_tellTo_32 : decode cX5_tellTo 32 = .ok (.istore_n 3, 1) := by decide +kernel
theorem dX5_tellTo_33 : decode cX5_tellTo 33 = .ok (.iload_n 3, 1) := by decide +kernel
theorem dX5_tellTo_34 : decode cX5_tellTo 34 = .ok (.bipush (-9), 2) := by decide +kernel
theorem dX5_tellTo_36 : decode cX5_tellTo 36 = .ok (.if_icmp .eq 5, 3) := by decide +kernel
theorem dX5_tellTo_39 : decode cX5_tellTo 39 = .ok (.iload_n 3, 1) := by decide +kernel
theorem dX5_tellTo_40 : decode cX5_tellTo 40 = .ok (.ireturn, 1) := by decide +kernel
theorem dX5_tellTo_41 : decode cX5_tellTo 41 = .ok (.iload_n 2, 1) := by decide +kernel
theorem dX5_tellTo_42 : decode cX5_tellTo 42 = .ok (.aload_n 0, 1) := by decide +kernel
theorem dX5_tellTo_43 : decode cX5_tellTo 43 = .ok (.iload_n 2, 1) := by decide +kernel
theorem dX5_tellTo_44 : decode cX5_tellTo 44 = .ok (.invokevirtual 19, 3) := by decide +kernel
theorem dX5_tellTo_47 : decode cX5_tellTo 47 = .ok (.bipush 71, 2) := by decide +kernel
theorem dX5_tellTo_49 : decode cX5_tellTo 49 = .ok (.if_icmp .ne 7, 3) := by decide +kernel
theorem dX5_tellTo_52 : decode cX5_tellTo 52 = .ok (.iconst 2, 1) := by decide +kernel
theorem dX5_tellTo_53 : decode cX5_tellTo 53 = .ok (.goto 4, 3) := by decide +kernel
theorem dX5_tellTo_56 : decode cX5_tellTo 56 = .ok (.iconst 3, 1) := by decide +kernel
theorem dX5_tellTo_57 : decode cX5_tellTo 57 = .ok (.iadd, 1) := by decide +kernel
theorem dX5_tellTo_58 : decode cX5_tellTo 58 = .ok (.istore_n 2, 1) := by decide +kernel
theorem dX5_tellTo_59 : decode cX5_tellTo 59 = .ok (.goto (-41), 3) := by decide +kernel
theorem dX5_tellTo_62 : decode cX5_tellTo 62 = .ok (.bipush (-9), 2) := by decide +kernel
theorem dX5_tellTo_64 : decode cX5_tellTo 64 = .ok (.ireturn, 1) := by decide +kernel
set_option maxRecDepth 20000 in
theorem ggX5_tellThing_X5_letterAt : GoodIn wsX5_tellThing wsX5_letterAt := goodIn_r _ [5, 6, 7, 76, 77] (by decide +kernel) (by decide +kernel)
set_option maxRecDepth 20000 in
theorem gX5_tellThing_X5_letterAt : GoodIn wsX5_tellThing (wsV RX5 19 RX5 yX5_letterAt wsX5_letterAt) := goodIn_app (goodIn_of _ (by decide +kernel)) ggX5_tellThing_X5_letterAt
set_option maxRecDepth 20000 in
theorem ggX5_tellThing_X5_tellBag : GoodIn wsX5_tellThing wsX5_tellBag := goodIn_r _ [11, 12, 13, 14, 4, 15, 1, 2, 3, 5, 6, 7, 16, 17, 18, 19, 20, 21, 22, 78, 79, 80, 81, 82, 76, 77] (by decide +kernel) (by decide +kernel)
set_option maxRecDepth 20000 in
theorem gX5_tellThing_X5_tellBag : GoodIn wsX5_tellThing (wsV RX5 32 RX5 yX5_tellBag wsX5_tellBag) := goodIn_app (goodIn_of _ (by decide +kernel)) ggX5_tellThing_X5_tellBag
set_option maxRecDepth 20000 in
theorem ggX5_tellThing_X5_tellMan : GoodIn wsX5_tellThing wsX5_tellMan := goodIn_r _ [26, 12, 13, 14, 4, 15, 1, 2, 3, 5, 6, 7, 27, 28, 29, 19, 30, 31, 32, 33, 34, 35, 36, 37, 38, 39, 40, 41, 42, 43, 44, 45, 78, 79, 80, 81, 82, 76, 77] (by decide +kernel) (by decide +kernel)
set_option maxRecDepth 20000 in
theorem gX5_tellThing_X5_tellMan : GoodIn wsX5_tellThing (wsV RX5 35 RX5 yX5_tellMan wsX5_tellMan) := goodIn_app (goodIn_of _ (by decide +kernel)) ggX5_tellThing_X5_tellMan
set_option maxRecDepth 20000 in
theorem ggX5_tellThing_X5_tellBreath : GoodIn wsX5_tellThing wsX5_tellBreath := goodIn_r _ [49, 50, 51, 52, 19, 53, 21, 54, 55, 56, 57, 37, 38, 39, 40, 41, 12, 13, 14, 4, 15, 1, 2, 3, 5, 6, 7, 58, 59, 60, 61, 31, 62, 63, 64, 65, 66, 67, 68, 69, 70, 71, 72, 73, 74, 75, 42, 43, 44, 45, 78, 79, 80, 81, 82, 76, 77] (by decide +kernel) (by decide +kernel)
set_option maxRecDepth 20000 in
theorem gX5_tellThing_X5_tellBreath : GoodIn wsX5_tellThing (wsV RX5 38 RX5 yX5_tellBreath wsX5_tellBreath) := goodIn_app (goodIn_of _ (by decide +kernel)) ggX5_tellThing_X5_tellBreath
theorem dX5_tellThing_0 : decode cX5_tellThing 0 = .ok (.aload_n 0, 1) := by decide +kernel
theorem dX5_tellThing_1 : decode cX5_tellThing 1 = .ok (.iload_n 1, 1) := by decide +kernel
theorem dX5_tellThing_2 : decode cX5_tellThing 2 = .ok (.invokevirtual 19, 3) := by decide +kernel
theorem dX5_tellThing_5 : decode cX5_tellThing 5 = .ok (.lookupswitch 56 #[(71, 35), (77, 42), (80, 49)], 35) := by decide +kernel
theorem dX5_tellThing_40 : decode cX5_tellThing 40 = .ok (.aload_n 0, 1) := by decide +kernel
theorem dX5_tellThing_41 : decode cX5_tellThing 41 = .ok (.iload_n 1, 1) := by decide +kernel
theorem dX5_tellThing_42 : decode cX5_tellThing 42 = .ok (.aload_n 2, 1) := by decide +kernel
theorem dX5_tellThing_43 : decode cX5_tellThing 43 = .ok (.invokevirtual 32, 3) := by decide +kernel
theorem dX5_tellThing_46 : decode cX5_tellThing 46 = .ok (.ireturn, 1) := by decide +kernel
theorem dX5_tellThing_47 : decode cX5_tellThing 47 = .ok (.aload_n 0, 1) := by decide +kernel
theorem dX5_tellThing_48 : decode cX5_tellThing 48 = .ok (.iload_n 1, 1) := by decide +kernel
theorem dX5_tellThing_49 : decode cX5_tellThing 49 = .ok (.aload_n 2, 1) := by decide +kernel
theorem dX5_tellThing_50 : decode cX5_tellThing 50 = .ok (.invokevirtual 35, 3) := by decide +kernel
theorem dX5_tellThing_53 : decode cX5_tellThing 53 = .ok (.ireturn, 1) := by decide +kernel
theorem dX5_tellThing_54 : decode cX5_tellThing 54 = .ok (.aload_n 0, 1) := by decide +kernel
theorem dX5_tellThing_55 : decode cX5_tellThing 55 = .ok (.iload_n 1, 1) := by decide +kernel
theorem dX5_tellThing_56 : decode cX5_tellThing 56 = .ok (.aload_n 2, 1) := by decide +kernel
theorem dX5_tellThing_57 : decode cX5_tellThing 57 = .ok (.invokevirtual 38, 3) := by decide +kernel
theorem dX5_tellThing_60 : decode cX5_tellThing 60 = .ok (.ireturn, 1) := by decide +kernel
theorem dX5_tellThing_61 : decode cX5_tellThing 61 = .ok (.iload_n 1, 1) := by decide +kernel
theorem dX5_tellThing_62 : decode cX5_tellThing 62 = .ok (.ireturn, 1) := by decide +kernel
set_option maxRecDepth 20000 in
theorem ggX5_tellBag_X5_figureAt : GoodIn wsX5_tellBag wsX5_figureAt := goodIn_r _ [5, 6, 7, 8, 4, 9, 10, 11, 24, 25] (by decide +kernel) (by decide +kernel)
set_option maxRecDepth 20000 in
theorem gX5_tellBag_X5_figureAt : GoodIn wsX5_tellBag (wsV RX5 44 RX5 yX5_figureAt wsX5_figureAt) := goodIn_app (goodIn_of _ (by decide +kernel)) ggX5_tellBag_X5_figureAt
set_option maxRecDepth 20000 in
theorem ggX5_tellBag_X0_addBag : GoodIn wsX5_tellBag wsX0_addBag := goodIn_r _ [16, 17, 18, 19, 20, 21, 22, 23] (by decide +kernel) (by decide +kernel)
set_option maxRecDepth 20000 in
theorem gX5_tellBag_X0_addBag : GoodIn wsX5_tellBag (wsV RX5 47 RX0 yX0_addBag wsX0_addBag) := goodIn_app (goodIn_of _ (by decide +kernel)) ggX5_tellBag_X0_addBag
theorem dX5_tellBag_0 : decode cX5_tellBag 0 = .ok (.aload_n 2, 1) := by decide +kernel
theorem dX5_tellBag_1 : decode cX5_tellBag 1 = .ok (.getfield 41, 3) := by decide +kernel
theorem dX5_tellBag_4 : decode cX5_tellBag 4 = .ok (.iconst 3, 1) := by decide +kernel
theorem dX5_tellBag_5 : decode cX5_tellBag 5 = .ok (.if_icmp .lt 5, 3) := by decide +kernel
theorem dX5_tellBag_8 : decode cX5_tellBag 8 = .ok (.iload_n 1, 1) := by decide +kernel
theorem dX5_tellBag_9 : decode cX5_tellBag 9 = .ok (.ireturn, 1) := by decide +kernel
theorem dX5_tellBag_10 : decode cX5_tellBag 10 = .ok (.aload_n 0, 1) := by decide +kernel
theorem dX5_tellBag_11 : decode cX5_tellBag 11 = .ok (.iload_n 1, 1) := by decide +kernel
theorem dX5_tellBag_12 : decode cX5_tellBag 12 = .ok (.iconst 1, 1) := by decide +kernel
theorem dX5_tellBag_13 : decode cX5_tellBag 13 = .ok (.iadd, 1) := by decide +kernel
theorem dX5_tellBag_14 : decode cX5_tellBag 14 = .ok (.invokevirtual 44, 3) := by decide +kernel
theorem dX5_tellBag_17 : decode cX5_tellBag 17 = .ok (.istore_n 3, 1) := by decide +kernel
theorem dX5_tellBag_18 : decode cX5_tellBag 18 = .ok (.iload_n 3, 1) := by decide +kernel
theorem dX5_tellBag_19 : decode cX5_tellBag 19 = .ok (.ifCond .lt 8, 3) := by decide +kernel
theorem dX5_tellBag_22 : decode cX5_tellBag 22 = .ok (.iload_n 3, 1) := by decide +kernel
theorem dX5_tellBag_23 : decode cX5_tellBag 23 = .ok (.iconst 3, 1) := by decide +kernel
theorem dX5_tellBag_24 : decode cX5_tellBag 24 = .ok (.if_icmp .le 7, 3) := by decide +kernel
theorem dX5_tellBag_27 : decode cX5_tellBag 27 = .ok (.iload_n 1, 1) := by decide +kernel
theorem dX5_tellBag_28 : decode cX5_tellBag 28 = .ok (.iconst 1, 1) := by decide +kernel
theorem dX5_tellBag_29 : decode cX5_tellBag 29 = .ok (.iadd, 1) := by decide +kernel
theorem dX5_tellBag_30 : decode cX5_tellBag 30 = .ok (.ireturn, 1) := by decide +kernel
theorem dX5_tellBag_31 : decode cX5_tellBag 31 = .ok (.aload_n 2, 1) := by decide +kernel
theorem dX5_tellBag_32 : decode cX5_tellBag 32 = .ok (.iload_n 3, 1) := by decide +kernel
theorem dX5_tellBag_33 : decode cX5_tellBag 33 = .ok (.invokevirtual 47, 3) := by decide +kernel
theorem dX5_tellBag_36 : decode cX5_tellBag 36 = .ok (.bipush (-9), 2) := by decide +kernel
theorem dX5_tellBag_38 : decode cX5_tellBag 38 = .ok (.ireturn, 1) := by decide +kernel
set_option maxRecDepth 20000 in
theorem ggX5_tellMan_X5_figureAt : GoodIn wsX5_tellMan wsX5_figureAt := goodIn_r _ [5, 6, 7, 8, 4, 9, 10, 11, 37, 38] (by decide +kernel) (by decide +kernel)
set_option maxRecDepth 20000 in
theorem gX5_tellMan_X5_figureAt : GoodIn wsX5_tellMan (wsV RX5 44 RX5 yX5_figureAt wsX5_figureAt) := goodIn_app (goodIn_of _ (by decide +kernel)) ggX5_tellMan_X5_figureAt
set_option maxRecDepth 20000 in
theorem ggX5_tellMan_X0_addMan : GoodIn wsX5_tellMan wsX0_addMan := goodIn_r _ [16, 17, 18, 19, 20, 21, 15, 22, 23, 24, 25, 26, 27, 28, 29, 30, 31, 32, 33, 34, 35, 36] (by decide +kernel) (by decide +kernel)
set_option maxRecDepth 20000 in
theorem gX5_tellMan_X0_addMan : GoodIn wsX5_tellMan (wsV RX5 54 RX0 yX0_addMan wsX0_addMan) := goodIn_app (goodIn_of _ (by decide +kernel)) ggX5_tellMan_X0_addMan
theorem dX5_tellMan_0 : decode cX5_tellMan 0 = .ok (.aload_n 2, 1) := by decide +kernel
theorem dX5_tellMan_1 : decode cX5_tellMan 1 = .ok (.getfield 51, 3) := by decide +kernel
theorem dX5_tellMan_4 : decode cX5_tellMan 4 = .ok (.iconst 5, 1) := by decide +kernel
theorem dX5_tellMan_5 : decode cX5_tellMan 5 = .ok (.if_icmp .lt 5, 3) := by decide +kernel
theorem dX5_tellMan_8 : decode cX5_tellMan 8 = .ok (.iload_n 1, 1) := by decide +kernel
theorem dX5_tellMan_9 : decode cX5_tellMan 9 = .ok (.ireturn, 1) := by decide +kernel
theorem dX5_tellMan_10 : decode cX5_tellMan 10 = .ok (.aload_n 0, 1) := by decide +kernel
theorem dX5_tellMan_11 : decode cX5_tellMan 11 = .ok (.iload_n 1, 1) := by decide +kernel
theorem dX5_tellMan_12 : decode cX5_tellMan 12 = .ok (.iconst 1, 1) := by decide +kernel
theorem dX5_tellMan_13 : decode cX5_tellMan 13 = .ok (.iadd, 1) := by decide +kernel
theorem dX5_tellMan_14 : decode cX5_tellMan 14 = .ok (.invokevirtual 44, 3) := by decide +kernel
theorem dX5_tellMan_17 : decode cX5_tellMan 17 = .ok (.istore_n 3, 1) := by decide +kernel
theorem dX5_tellMan_18 : decode cX5_tellMan 18 = .ok (.iload_n 3, 1) := by decide +kernel
theorem dX5_tellMan_19 : decode cX5_tellMan 19 = .ok (.ifCond .ge 7, 3) := by decide +kernel
theorem dX5_tellMan_22 : decode cX5_tellMan 22 = .ok (.iload_n 1, 1) := by decide +kernel
theorem dX5_tellMan_23 : decode cX5_tellMan 23 = .ok (.iconst 1, 1) := by decide +kernel
theorem dX5_tellMan_24 : decode cX5_tellMan 24 = .ok (.iadd, 1) := by decide +kernel
theorem dX5_tellMan_25 : decode cX5_tellMan 25 = .ok (.ireturn, 1) := by decide +kernel
theorem dX5_tellMan_26 : decode cX5_tellMan 26 = .ok (.aload_n 0, 1) := by decide +kernel
theorem dX5_tellMan_27 : decode cX5_tellMan 27 = .ok (.iload_n 1, 1) := by decide +kernel
theorem dX5_tellMan_28 : decode cX5_tellMan 28 = .ok (.iconst 2, 1) := by decide +kernel
theorem dX5_tellMan_29 : decode cX5_tellMan 29 = .ok (.iadd, 1) := by decide +kernel
theorem dX5_tellMan_30 : decode cX5_tellMan 30 = .ok (.invokevirtual 44, 3) := by decide +kernel
theorem dX5_tellMan_33 : decode cX5_tellMan 33 = .ok (.istore 4, 2) := by decide +kernel
theorem dX5_tellMan_35 : decode cX5_tellMan 35 = .ok (.iload 4, 2) := by decide +kernel
theorem dX5_tellMan_37 : decode cX5_tellMan 37 = .ok (.ifCond .lt 9, 3) := by decide +kernel
theorem dX5_tellMan_40 : decode cX5_tellMan 40 = .ok (.iload 4, 2) := by decide +kernel
theorem dX5_tellMan_42 : decode cX5_tellMan 42 = .ok (.iconst 3, 1) := by decide +kernel
theorem dX5_tellMan_43 : decode cX5_tellMan 43 = .ok (.if_icmp .le 7, 3) := by decide +kernel
theorem dX5_tellMan_46 : decode cX5_tellMan 46 = .ok (.iload_n 1, 1) := by decide +kernel
theorem dX5_tellMan_47 : decode cX5_tellMan 47 = .ok (.iconst 2, 1) := by decide +kernel
theorem dX5_tellMan_48 : decode cX5_tellMan 48 = .ok (.iadd, 1) := by decide +kernel
theorem dX5_tellMan_49 : decode cX5_tellMan 49 = .ok (.ireturn, 1) := by decide +kernel
theorem dX5_tellMan_50 : decode cX5_tellMan 50 = .ok (.aload_n 2, 1) := by decide +kernel
theorem dX5_tellMan_51 : decode cX5_tellMan 51 = .ok (.iload_n 3, 1) := by decide +kernel
theorem dX5_tellMan_52 : decode cX5_tellMan 52 = .ok (.iload 4, 2) := by decide +kernel
theorem dX5_tellMan_54 : decode cX5_tellMan 54 = .ok (.invokevirtual 54, 3) := by decide +kernel
theorem dX5_tellMan_57 : decode cX5_tellMan 57 = .ok (.bipush (-9), 2) := by decide +kernel
theorem dX5_tellMan_59 : decode cX5_tellMan 59 = .ok (.ireturn, 1) := by decide +kernel
set_option maxRecDepth 20000 in
theorem ggX5_tellBreath_X0_hasRoom : GoodIn wsX5_tellBreath wsX0_hasRoom := goodIn_r _ [5, 6, 7, 8, 9, 4, 10, 11, 12, 13, 14, 15, 50, 51, 52, 53, 54] (by decide +kernel) (by decide +kernel)
set_option maxRecDepth 20000 in
theorem gX5_tellBreath_X0_hasRoom : GoodIn wsX5_tellBreath (wsV RX5 58 RX0 yX0_hasRoom wsX0_hasRoom) := goodIn_app (goodIn_of _ (by decide +kernel)) ggX5_tellBreath_X0_hasRoom
set_option maxRecDepth 20000 in
theorem ggX5_tellBreath_X5_figureAt : GoodIn wsX5_tellBreath wsX5_figureAt := goodIn_r _ [20, 21, 22, 23, 19, 24, 25, 26, 55, 56] (by decide +kernel) (by decide +kernel)
set_option maxRecDepth 20000 in
theorem gX5_tellBreath_X5_figureAt : GoodIn wsX5_tellBreath (wsV RX5 44 RX5 yX5_figureAt wsX5_figureAt) := goodIn_app (goodIn_of _ (by decide +kernel)) ggX5_tellBreath_X5_figureAt
set_option maxRecDepth 20000 in
theorem ggX5_tellBreath_X0_isMan : GoodIn wsX5_tellBreath wsX0_isMan := goodIn_r _ [30, 31, 50, 51, 52, 53, 54] (by decide +kernel) (by decide +kernel)
set_option maxRecDepth 20000 in
theorem gX5_tellBreath_X0_isMan : GoodIn wsX5_tellBreath (wsV RX5 62 RX0 yX0_isMan wsX0_isMan) := goodIn_app (goodIn_of _ (by decide +kernel)) ggX5_tellBreath_X0_isMan
set_option maxRecDepth 20000 in
theorem ggX5_tellBreath_X0_isBag : GoodIn wsX5_tellBreath wsX0_isBag := goodIn_r _ [35, 6, 50, 51, 52, 53, 54] (by decide +kernel) (by decide +kernel)
set_option maxRecDepth 20000 in
theorem gX5_tellBreath_X0_isBag : GoodIn wsX5_tellBreath (wsV RX5 66 RX0 yX0_isBag wsX0_isBag) := goodIn_app (goodIn_of _ (by decide +kernel)) ggX5_tellBreath_X0_isBag
set_option maxRecDepth 20000 in
theorem ggX5_tellBreath_X0_breathsIn : GoodIn wsX5_tellBreath wsX0_breathsIn := goodIn_r _ [39, 40, 33, 34, 4, 35, 6, 11, 12, 13, 14, 15, 50, 51, 52, 53, 54] (by decide +kernel) (by decide +kernel)
set_option maxRecDepth 20000 in
theorem gX5_tellBreath_X0_breathsIn : GoodIn wsX5_tellBreath (wsV RX5 69 RX0 yX0_breathsIn wsX0_breathsIn) := goodIn_app (goodIn_of _ (by decide +kernel)) ggX5_tellBreath_X0_breathsIn
set_option maxRecDepth 20000 in
theorem ggX5_tellBreath_X0_lay : GoodIn wsX5_tellBreath wsX0_lay := goodIn_r _ [44, 45, 37, 38, 4, 39, 40, 33, 34, 35, 6, 11, 12, 13, 14, 15, 46, 47, 48, 49, 50, 51, 52, 53, 54] (by decide +kernel) (by decide +kernel)
set_option maxRecDepth 20000 in
theorem gX5_tellBreath_X0_lay : GoodIn wsX5_tellBreath (wsV RX5 72 RX0 yX0_lay wsX0_lay) := goodIn_app (goodIn_of _ (by decide +kernel)) ggX5_tellBreath_X0_lay
theorem dX5_tellBreath_0 : decode cX5_tellBreath 0 = .ok (.aload_n 2, 1) := by decide +kernel
theorem dX5_tellBreath_1 : decode cX5_tellBreath 1 = .ok (.getfield 51, 3) := by decide +kernel
theorem dX5_tellBreath_4 : decode cX5_tellBreath 4 = .ok (.ifCond .eq 10, 3) := by decide +kernel
theorem dX5_tellBreath_7 : decode cX5_tellBreath 7 = .ok (.aload_n 2, 1) := by decide +kernel
theorem dX5_tellBreath_8 : decode cX5_tellBreath 8 = .ok (.invokevirtual 58, 3) := by decide +kernel
theorem dX5_tellBreath_11 : decode cX5_tellBreath 11 = .ok (.ifCond .ne 5, 3) := by decide +kernel
theorem dX5_tellBreath_14 : decode cX5_tellBreath 14 = .ok (.iload_n 1, 1) := by decide +kernel
theorem dX5_tellBreath_15 : decode cX5_tellBreath 15 = .ok (.ireturn, 1) := by decide +kernel
theorem dX5_tellBreath_16 : decode cX5_tellBreath 16 = .ok (.aload_n 0, 1) := by decide +kernel
theorem dX5_tellBreath_17 : decode cX5_tellBreath 17 = .ok (.iload_n 1, 1) := by decide +kernel
theorem dX5_tellBreath_18 : decode cX5_tellBreath 18 = .ok (.iconst 1, 1) := by decide +kernel
theorem dX5_tellBreath_19 : decode cX5_tellBreath 19 = .ok (.iadd, 1) := by decide +kernel
theorem dX5_tellBreath_20 : decode cX5_tellBreath 20 = .ok (.invokevirtual 44, 3) := by decide +kernel
theorem dX5_tellBreath_23 : decode cX5_tellBreath 23 = .ok (.istore_n 3, 1) := by decide +kernel
theorem dX5_tellBreath_24 : decode cX5_tellBreath 24 = .ok (.aload_n 2, 1) := by decide +kernel
theorem dX5_tellBreath_25 : decode cX5_tellBreath 25 = .ok (.iload_n 3, 1) := by decide +kernel
theorem dX5_tellBreath_26 : decode cX5_tellBreath 26 = .ok (.invokevirtual 62, 3) := by decide +kernel
theorem dX5_tellBreath_29 : decode cX5_tellBreath 29 = .ok (.ifCond .ne 7, 3) := by decide +kernel
theorem dX5_tellBreath_32 : decode cX5_tellBreath 32 = .ok (.iload_n 1, 1) := by decide +kernel
theorem dX5_tellBreath_33 : decode cX5_tellBreath 33 = .ok (.iconst 1, 1) := by decide +kernel
theorem dX5_tellBreath_34 : decode cX5_tellBreath 34 = .ok (.iadd, 1) := by decide +kernel
theorem dX5_tellBreath_35 : decode cX5_tellBreath 35 = .ok (.ireturn, 1) := by decide +kernel
theorem dX5_tellBreath_36 : decode cX5_tellBreath 36 = .ok (.aload_n 0, 1) := by decide +kernel
theorem dX5_tellBreath_37 : decode cX5_tellBreath 37 = .ok (.iload_n 1, 1) := by decide +kernel
theorem dX5_tellBreath_38 : decode cX5_tellBreath 38 = .ok (.iconst 2, 1) := by decide +kernel
theorem dX5_tellBreath_39 : decode cX5_tellBreath 39 = .ok (.iadd, 1) := by decide +kernel
theorem dX5_tellBreath_40 : decode cX5_tellBreath 40 = .ok (.invokevirtual 44, 3) := by decide +kernel
theorem dX5_tellBreath_43 : decode cX5_tellBreath 43 = .ok (.istore 4, 2) := by decide +kernel
theorem dX5_tellBreath_45 : decode cX5_tellBreath 45 = .ok (.aload_n 2, 1) := by decide +kernel
theorem dX5_tellBreath_46 : decode cX5_tellBreath 46 = .ok (.iload 4, 2) := by decide +kernel
theorem dX5_tellBreath_48 : decode cX5_tellBreath 48 = .ok (.invokevirtual 66, 3) := by decide +kernel
theorem dX5_tellBreath_51 : decode cX5_tellBreath 51 = .ok (.ifCond .eq 14, 3) := by decide +kernel
theorem dX5_tellBreath_54 : decode cX5_tellBreath 54 = .ok (.aload_n 2, 1) := by decide +kernel
theorem dX5_tellBreath_55 : decode cX5_tellBreath 55 = .ok (.iload 4, 2) := by decide +kernel
theorem dX5_tellBreath_57 : decode cX5_tellBreath 57 = .ok (.invokevirtual 69, 3) := by decide +kernel
theorem dX5_tellBreath_60 : decode cX5_tellBreath 60 = .ok (.bipush 9, 2) := by decide +kernel
theorem dX5_tellBreath_62 : decode cX5_tellBreath 62 = .ok (.if_icmp .lt 7, 3) := by decide +kernel
theorem dX5_tellBreath_65 : decode cX5_tellBreath 65 = .ok (.iload_n 1, 1) := by decide +kernel
theorem dX5_tellBreath_66 : decode cX5_tellBreath 66 = .ok (.iconst 2, 1) := by decide +kernel
theorem dX5_tellBreath_67 : decode cX5_tellBreath 67 = .ok (.iadd, 1) := by decide +kernel
theorem dX5_tellBreath_68 : decode cX5_tellBreath 68 = .ok (.ireturn, 1) := by decide +kernel
theorem dX5_tellBreath_69 : decode cX5_tellBreath 69 = .ok (.aload_n 2, 1) := by decide +kernel
theorem dX5_tellBreath_70 : decode cX5_tellBreath 70 = .ok (.iload_n 3, 1) := by decide +kernel
theorem dX5_tellBreath_71 : decode cX5_tellBreath 71 = .ok (.iload 4, 2) := by decide +kernel
theorem dX5_tellBreath_73 : decode cX5_tellBreath 73 = .ok (.invokevirtual 72, 3) := by decide +kernel
theorem dX5_tellBreath_76 : decode cX5_tellBreath 76 = .ok (.bipush (-9), 2) := by decide +kernel
theorem dX5_tellBreath_78 : decode cX5_tellBreath 78 = .ok (.ireturn, 1) := by decide +kernel
set_option maxRecDepth 20000 in
theorem ggX6_init_X5_init : GoodIn wsX6_init wsX5_init := goodIn_r _ [27, 28, 2, 3, 29, 30, 31, 59, 60] (by decide +kernel) (by decide +kernel)
set_option maxRecDepth 20000 in
theorem gX6_init_X5_init_n9 : GoodIn wsX6_init (wsX5_init) := ggX6_init_X5_init
set_option maxRecDepth 20000 in
theorem ggX6_init_X0_init : GoodIn wsX6_init wsX0_init := goodIn_r _ [33, 34, 2, 3, 35, 36, 29, 37, 38, 39, 68, 69, 70, 71, 72] (by decide +kernel) (by decide +kernel)
set_option maxRecDepth 20000 in
theorem gX6_init_X0_init_n18 : GoodIn wsX6_init (wsX0_init) := ggX6_init_X0_init
set_option maxRecDepth 20000 in
theorem ggX6_init_X2_init : GoodIn wsX6_init wsX2_init := goodIn_r _ [41, 42, 2, 3, 29, 43, 44, 45, 73, 74, 75] (by decide +kernel) (by decide +kernel)
set_option maxRecDepth 20000 in
theorem gX6_init_X2_init_n28 : GoodIn wsX6_init (wsX2_init) := ggX6_init_X2_init
set_option maxRecDepth 20000 in
theorem ggX6_init_X3_init : GoodIn wsX6_init wsX3_init := goodIn_r _ [47, 48, 2, 3, 29, 49, 50, 76, 77] (by decide +kernel) (by decide +kernel)
set_option maxRecDepth 20000 in
theorem gX6_init_X3_init_n35 : GoodIn wsX6_init (wsX3_init) := ggX6_init_X3_init
set_option maxRecDepth 20000 in
theorem ggX6_init_X1_init : GoodIn wsX6_init wsX1_init := goodIn_r _ [52, 53, 2, 3, 29, 54, 55, 56, 57, 58, 78, 79, 80, 81, 82] (by decide +kernel) (by decide +kernel)
set_option maxRecDepth 20000 in
theorem gX6_init_X1_init_n42 : GoodIn wsX6_init (wsX1_init) := ggX6_init_X1_init
theorem dX6_init_0 : decode cX6_init 0 = .ok (.aload_n 0, 1) := by decide +kernel
theorem dX6_init_1 : decode cX6_init 1 = .ok (.invokespecial 1, 3) := by decide +kernel
theorem dX6_init_4 : decode cX6_init 4 = .ok (.aload_n 0, 1) := by decide +kernel
theorem dX6_init_5 : decode cX6_init 5 = .ok (.new 7, 3) := by decide +kernel
theorem dX6_init_8 : decode cX6_init 8 = .ok (.dup, 1) := by decide +kernel
theorem dX6_init_9 : decode cX6_init 9 = .ok (.invokespecial 9, 3) := by decide +kernel
theorem dX6_init_12 : decode cX6_init 12 = .ok (.putfield 10, 3) := by decide +kernel
theorem dX6_init_15 : decode cX6_init 15 = .ok (.aload_n 0, 1) := by decide +kernel
theorem dX6_init_16 : decode cX6_init 16 = .ok (.new 16, 3) := by decide +kernel
theorem dX6_init_19 : decode cX6_init 19 = .ok (.dup, 1) := by decide +kernel
theorem dX6_init_20 : decode cX6_init 20 = .ok (.invokespecial 18, 3) := by decide +kernel
theorem dX6_init_23 : decode cX6_init 23 = .ok (.putfield 19, 3) := by decide +kernel
theorem dX6_init_26 : decode cX6_init 26 = .ok (.aload_n 0, 1) := by decide +kernel
theorem dX6_init_27 : decode cX6_init 27 = .ok (.new 16, 3) := by decide +kernel
theorem dX6_init_30 : decode cX6_init 30 = .ok (.dup, 1) := by decide +kernel
theorem dX6_init_31 : decode cX6_init 31 = .ok (.invokespecial 18, 3) := by decide +kernel
theorem dX6_init_34 : decode cX6_init 34 = .ok (.putfield 23, 3) := by decide +kernel
theorem dX6_init_37 : decode cX6_init 37 = .ok (.aload_n 0, 1) := by decide +kernel
theorem dX6_init_38 : decode cX6_init 38 = .ok (.new 26, 3) := by decide +kernel
theorem dX6_init_41 : decode cX6_init 41 = .ok (.dup, 1) := by decide +kernel
theorem dX6_init_42 : decode cX6_init 42 = .ok (.invokespecial 28, 3) := by decide +kernel
theorem dX6_init_45 : decode cX6_init 45 = .ok (.putfield 29, 3) := by decide +kernel
theorem dX6_init_48 : decode cX6_init 48 = .ok (.aload_n 0, 1) := by decide +kernel
theorem dX6_init_49 : decode cX6_init 49 = .ok (.new 33, 3) := by decide +kernel
theorem dX6_init_52 : decode cX6_init 52 = .ok (.dup, 1) := by decide +kernel
theorem dX6_init_53 : decode cX6_init 53 = .ok (.invokespecial 35, 3) := by decide +kernel
theorem dX6_init_56 : decode cX6_init 56 = .ok (.putfield 36, 3) := by decide +kernel
theorem dX6_init_59 : decode cX6_init 59 = .ok (.aload_n 0, 1) := by decide +kernel
theorem dX6_init_60 : decode cX6_init 60 = .ok (.new 40, 3) := by decide +kernel
theorem dX6_init_63 : decode cX6_init 63 = .ok (.dup, 1) := by decide +kernel
theorem dX6_init_64 : decode cX6_init 64 = .ok (.invokespecial 42, 3) := by decide +kernel
theorem dX6_init_67 : decode cX6_init 67 = .ok (.putfield 43, 3) := by decide +kernel
theorem dX6_init_70 : decode cX6_init 70 = .ok (.aload_n 0, 1) := by decide +kernel
theorem dX6_init_71 : decode cX6_init 71 = .ok (.lconst 0, 1) := by decide +kernel
theorem dX6_init_72 : decode cX6_init 72 = .ok (.putfield 47, 3) := by decide +kernel
theorem dX6_init_75 : decode cX6_init 75 = .ok (.return_, 1) := by decide +kernel
set_option maxRecDepth 20000 in
theorem ggX6_write_X5_add : GoodIn wsX6_write wsX5_add := goodIn_r _ [6, 7, 8, 16, 17] (by decide +kernel) (by decide +kernel)
set_option maxRecDepth 20000 in
theorem gX6_write_X5_add : GoodIn wsX6_write (wsV RX6 51 RX5 yX5_add wsX5_add) := goodIn_app (goodIn_of _ (by decide +kernel)) ggX6_write_X5_add
theorem dX6_write_0 : decode cX6_write 0 = .ok (.aload_n 0, 1) := by decide +kernel
theorem dX6_write_1 : decode cX6_write 1 = .ok (.getfield 10, 3) := by decide +kernel
theorem dX6_write_4 : decode cX6_write 4 = .ok (.iload_n 1, 1) := by decide +kernel
theorem dX6_write_5 : decode cX6_write 5 = .ok (.invokevirtual 51, 3) := by decide +kernel
theorem dX6_write_8 : decode cX6_write 8 = .ok (.ireturn, 1) := by decide +kernel
set_option maxRecDepth 20000 in
theorem ggX6_wipe_X5_clear : GoodIn wsX6_wipe wsX5_clear := goodIn_r _ [6, 7, 15, 16] (by decide +kernel) (by decide +kernel)
set_option maxRecDepth 20000 in
theorem gX6_wipe_X5_clear : GoodIn wsX6_wipe (wsV RX6 55 RX5 yX5_clear wsX5_clear) := goodIn_app (goodIn_of _ (by decide +kernel)) ggX6_wipe_X5_clear
theorem dX6_wipe_0 : decode cX6_wipe 0 = .ok (.aload_n 0, 1) := by decide +kernel
theorem dX6_wipe_1 : decode cX6_wipe 1 = .ok (.getfield 10, 3) := by decide +kernel
theorem dX6_wipe_4 : decode cX6_wipe 4 = .ok (.invokevirtual 55, 3) := by decide +kernel
theorem dX6_wipe_7 : decode cX6_wipe 7 = .ok (.ireturn, 1) := by decide +kernel
set_option maxRecDepth 20000 in
theorem ggX6_fault_X5_tellTo : GoodIn wsX6_fault wsX5_tellTo := goodIn_r _ [7, 8, 9, 10, 11, 12, 13, 14, 15, 16, 17, 18, 19, 6, 20, 21, 22, 23, 24, 25, 26, 27, 28, 29, 30, 31, 32, 33, 34, 35, 36, 37, 38, 39, 40, 41, 42, 43, 44, 45, 46, 47, 48, 49, 50, 51, 52, 53, 54, 55, 56, 57, 58, 59, 60, 61, 62, 63, 64, 65, 66, 67, 68, 69, 70, 71, 72, 73, 74, 75, 76, 77, 78, 79, 80, 81, 82, 83, 84, 85, 86, 87, 88, 89, 97, 98, 99, 100, 101, 102, 103] (by decide +kernel) (by decide +kernel)
set_option maxRecDepth 20000 in
theorem gX6_fault_X5_tellTo : GoodIn wsX6_fault (wsV RX6 59 RX5 yX5_tellTo wsX5_tellTo) := goodIn_app (goodIn_of _ (by decide +kernel)) ggX6_fault_X5_tellTo
theorem dX6_fault_0 : decode cX6_fault 0 = .ok (.aload_n 0, 1) := by decide +kernel
theorem dX6_fault_1 : decode cX6_fault 1 = .ok (.getfield 10, 3) := by decide +kernel
theorem dX6_fault_4 : decode cX6_fault 4 = .ok (.aload_n 0, 1) := by decide +kernel
theorem dX6_fault_5 : decode cX6_fault 5 = .ok (.getfield 23, 3) := by decide +kernel
theorem dX6_fault_8 : decode cX6_fault 8 = .ok (.invokevirtual 59, 3) := by decide +kernel
theorem dX6_fault_11 : decode cX6_fault 11 = .ok (.ireturn, 1) := by decide +kernel
set_option maxRecDepth 20000 in
theorem ggX6_regiment_X5_tellTo : GoodIn wsX6_regiment wsX5_tellTo := goodIn_r _ [10, 11, 12, 13, 14, 15, 16, 17, 18, 19, 20, 21, 22, 9, 23, 24, 25, 26, 27, 28, 29, 30, 31, 32, 33, 34, 35, 36, 37, 38, 39, 40, 41, 42, 43, 44, 45, 46, 47, 48, 49, 50, 51, 52, 53, 54, 55, 56, 57, 58, 59, 60, 61, 62, 63, 64, 65, 66, 67, 68, 69, 70, 71, 72, 73, 74, 75, 76, 77, 78, 79, 80, 81, 82, 83, 84, 85, 86, 87, 88, 89, 90, 91, 92, 123, 124, 118, 119, 120, 121, 122] (by decide +kernel) (by decide +kernel)
set_option maxRecDepth 20000 in
theorem gX6_regiment_X5_tellTo : GoodIn wsX6_regiment (wsV RX6 59 RX5 yX5_tellTo wsX5_tellTo) := goodIn_app (goodIn_of _ (by decide +kernel)) ggX6_regiment_X5_tellTo
set_option maxRecDepth 20000 in
theorem ggX6_regiment_X0_becomeAll : GoodIn wsX6_regiment wsX0_becomeAll := goodIn_r _ [96, 17, 18, 41, 50, 19, 118, 119, 120, 121, 122] (by decide +kernel) (by decide +kernel)
set_option maxRecDepth 20000 in
theorem gX6_regiment_X0_becomeAll : GoodIn wsX6_regiment (wsV RX6 63 RX0 yX0_becomeAll wsX0_becomeAll) := goodIn_app (goodIn_of _ (by decide +kernel)) ggX6_regiment_X0_becomeAll
set_option maxRecDepth 20000 in
theorem ggX6_regiment_X2_clear : GoodIn wsX6_regiment wsX2_clear := goodIn_r _ [101, 102, 103, 125, 126, 127] (by decide +kernel) (by decide +kernel)
set_option maxRecDepth 20000 in
theorem gX6_regiment_X2_clear : GoodIn wsX6_regiment (wsV RX6 67 RX2 yX2_clear wsX2_clear) := goodIn_app (goodIn_of _ (by decide +kernel)) ggX6_regiment_X2_clear
set_option maxRecDepth 20000 in
theorem ggX6_regiment_X3_clear : GoodIn wsX6_regiment wsX3_clear := goodIn_r _ [108, 109, 128, 129] (by decide +kernel) (by decide +kernel)
set_option maxRecDepth 20000 in
theorem gX6_regiment_X3_clear : GoodIn wsX6_regiment (wsV RX6 69 RX3 yX3_clear wsX3_clear) := goodIn_app (goodIn_of _ (by decide +kernel)) ggX6_regiment_X3_clear
set_option maxRecDepth 20000 in
theorem ggX6_regiment_X0_breathsInAll : GoodIn wsX6_regiment wsX0_breathsInAll := goodIn_r _ [74, 17, 55, 56, 57, 15, 58, 19, 118, 119, 120, 121, 122] (by decide +kernel) (by decide +kernel)
set_option maxRecDepth 20000 in
theorem gX6_regiment_X0_breathsInAll : GoodIn wsX6_regiment (wsV RX6 77 RX0 yX0_breathsInAll wsX0_breathsInAll) := goodIn_app (goodIn_of _ (by decide +kernel)) ggX6_regiment_X0_breathsInAll
theorem dX6_regiment_0 : decode cX6_regiment 0 = .ok (.aload_n 0, 1) := by decide +kernel
theorem dX6_regiment_1 : decode cX6_regiment 1 = .ok (.getfield 10, 3) := by decide +kernel
theorem dX6_regiment_4 : decode cX6_regiment 4 = .ok (.aload_n 0, 1) := by decide +kernel
theorem dX6_regiment_5 : decode cX6_regiment 5 = .ok (.getfield 23, 3) := by decide +kernel
theorem dX6_regiment_8 : decode cX6_regiment 8 = .ok (.invokevirtual 59, 3) := by decide +kernel
theorem dX6_regiment_11 : decode cX6_regiment 11 = .ok (.bipush (-9), 2) := by decide +kernel
theorem dX6_regiment_13 : decode cX6_regiment 13 = .ok (.if_icmp .eq 6, 3) := by decide +kernel
theorem dX6_regiment_16 : decode cX6_regiment 16 = .ok (.bipush (-3), 2) := by decide +kernel
theorem dX6_regiment_18 : decode cX6_regiment 18 = .ok (.ireturn, 1) := by decide +kernel
theorem dX6_regiment_19 : decode cX6_regiment 19 = .ok (.aload_n 0, 1) := by decide +kernel
theorem dX6_regiment_20 : decode cX6_regiment 20 = .ok (.getfield 19, 3) := by decide +kernel
theorem dX6_regiment_23 : decode cX6_regiment 23 = .ok (.aload_n 0, 1) := by decide +kernel
theorem dX6_regiment_24 : decode cX6_regiment 24 = .ok (.getfield 23, 3) := by decide +kernel
theorem dX6_regiment_27 : decode cX6_regiment 27 = .ok (.invokevirtual 63, 3) := by decide +kernel
theorem dX6_regiment_30 : decode cX6_regiment 30 = .ok (.aload_n 0, 1) := by decide +kernel
theorem dX6_regiment_31 : decode cX6_regiment 31 = .ok (.getfield 29, 3) := by decide +kernel
theorem dX6_regiment_34 : decode cX6_regiment 34 = .ok (.invokevirtual 67, 3) := by decide +kernel
theorem dX6_regiment_37 : decode cX6_regiment 37 = .ok (.aload_n 0, 1) := by decide +kernel
theorem dX6_regiment_38 : decode cX6_regiment 38 = .ok (.getfield 36, 3) := by decide +kernel
theorem dX6_regiment_41 : decode cX6_regiment 41 = .ok (.invokevirtual 69, 3) := by decide +kernel
theorem dX6_regiment_44 : decode cX6_regiment 44 = .ok (.bipush 100, 2) := by decide +kernel
theorem dX6_regiment_46 : decode cX6_regiment 46 = .ok (.aload_n 0, 1) := by decide +kernel
theorem dX6_regiment_47 : decode cX6_regiment 47 = .ok (.getfield 19, 3) := by decide +kernel
theorem dX6_regiment_50 : decode cX6_regiment 50 = .ok (.getfield 70, 3) := by decide +kernel
theorem dX6_regiment_53 : decode cX6_regiment 53 = .ok (.imul, 1) := by decide +kernel
theorem dX6_regiment_54 : decode cX6_regiment 54 = .ok (.bipush 10, 2) := by decide +kernel
theorem dX6_regiment_56 : decode cX6_regiment 56 = .ok (.aload_n 0, 1) := by decide +kernel
theorem dX6_regiment_57 : decode cX6_regiment 57 = .ok (.getfield 19, 3) := by decide +kernel
theorem dX6_regiment_60 : decode cX6_regiment 60 = .ok (.getfield 74, 3) := by decide +kernel
theorem dX6_regiment_63 : decode cX6_regiment 63 = .ok (.imul, 1) := by decide +kernel
theorem dX6_regiment_64 : decode cX6_regiment 64 = .ok (.iadd, 1) := by decide +kernel
theorem dX6_regiment_65 : decode cX6_regiment 65 = .ok (.aload_n 0, 1) := by decide +kernel
theorem dX6_regiment_66 : decode cX6_regiment 66 = .ok (.getfield 19, 3) := by decide +kernel
theorem dX6_regiment_69 : decode cX6_regiment 69 = .ok (.invokevirtual 77, 3) := by decide +kernel
theorem dX6_regiment_72 : decode cX6_regiment 72 = .ok (.iadd, 1) := by decide +kernel
theorem dX6_regiment_73 : decode cX6_regiment 73 = .ok (.ireturn, 1) := by decide +kernel
set_option maxRecDepth 20000 in
theorem ggX6_about_X0_today : GoodIn wsX6_about wsX0_today := goodIn_r _ [9, 10, 11, 12, 8, 13, 14, 65, 66, 67, 68, 69] (by decide +kernel) (by decide +kernel)
set_option maxRecDepth 20000 in
theorem gX6_about_X0_today : GoodIn wsX6_about (wsV RX6 80 RX0 yX0_today wsX0_today) := goodIn_app (goodIn_of _ (by decide +kernel)) ggX6_about_X0_today
set_option maxRecDepth 20000 in
theorem ggX6_about_X0_breathsInAll : GoodIn wsX6_about wsX0_breathsInAll := goodIn_r _ [18, 19, 10, 11, 12, 8, 13, 14, 65, 66, 67, 68, 69] (by decide +kernel) (by decide +kernel)
set_option maxRecDepth 20000 in
theorem gX6_about_X0_breathsInAll : GoodIn wsX6_about (wsV RX6 77 RX0 yX0_breathsInAll wsX0_breathsInAll) := goodIn_app (goodIn_of _ (by decide +kernel)) ggX6_about_X0_breathsInAll
set_option maxRecDepth 20000 in
theorem ggX6_about_X0_sumOfMen : GoodIn wsX6_about wsX0_sumOfMen := goodIn_r _ [23, 24, 25, 26, 27, 8, 28, 29, 30, 31, 32, 10, 11, 12, 13, 14, 65, 66, 67, 68, 69] (by decide +kernel) (by decide +kernel)
set_option maxRecDepth 20000 in
theorem gX6_about_X0_sumOfMen : GoodIn wsX6_about (wsV RX6 83 RX0 yX0_sumOfMen wsX0_sumOfMen) := goodIn_app (goodIn_of _ (by decide +kernel)) ggX6_about_X0_sumOfMen
set_option maxRecDepth 20000 in
theorem ggX6_about_X0_fallenBits : GoodIn wsX6_about wsX0_fallenBits := goodIn_r _ [36, 10, 11, 12, 8, 13, 14, 65, 66, 67, 68, 69] (by decide +kernel) (by decide +kernel)
set_option maxRecDepth 20000 in
theorem gX6_about_X0_fallenBits : GoodIn wsX6_about (wsV RX6 86 RX0 yX0_fallenBits wsX0_fallenBits) := goodIn_app (goodIn_of _ (by decide +kernel)) ggX6_about_X0_fallenBits
set_option maxRecDepth 20000 in
theorem ggX6_about_X0_left : GoodIn wsX6_about wsX0_left := goodIn_r _ [40, 41, 34, 35, 8, 36, 10, 11, 12, 13, 14, 42, 43, 44, 45, 19, 46, 47, 48, 49, 50, 51, 52, 53, 54, 55, 56, 57, 65, 66, 67, 68, 69] (by decide +kernel) (by decide +kernel)
set_option maxRecDepth 20000 in
theorem gX6_about_X0_left : GoodIn wsX6_about (wsV RX6 89 RX0 yX0_left wsX0_left) := goodIn_app (goodIn_of _ (by decide +kernel)) ggX6_about_X0_left
theorem dX6_about_0 : decode cX6_about 0 = .ok (.iload_n 1, 1) := by decide +kernel
theorem dX6_about_1 : decode cX6_about 1 = .ok (.tableswitch 164 0 11 #[63, 71, 79, 87, 95, 105, 113, 121, 130, 140, 148, 156], 63) := by decide +kernel
theorem dX6_about_64 : decode cX6_about 64 = .ok (.aload_n 0, 1) := by decide +kernel
theorem dX6_about_65 : decode cX6_about 65 = .ok (.getfield 19, 3) := by decide +kernel
theorem dX6_about_68 : decode cX6_about 68 = .ok (.getfield 70, 3) := by decide +kernel
theorem dX6_about_71 : decode cX6_about 71 = .ok (.ireturn, 1) := by decide +kernel
theorem dX6_about_72 : decode cX6_about 72 = .ok (.aload_n 0, 1) := by decide +kernel
theorem dX6_about_73 : decode cX6_about 73 = .ok (.getfield 19, 3) := by decide +kernel
theorem dX6_about_76 : decode cX6_about 76 = .ok (.getfield 74, 3) := by decide +kernel
theorem dX6_about_79 : decode cX6_about 79 = .ok (.ireturn, 1) := by decide +kernel
theorem dX6_about_80 : decode cX6_about 80 = .ok (.aload_n 0, 1) := by decide +kernel
theorem dX6_about_81 : decode cX6_about 81 = .ok (.getfield 19, 3) := by decide +kernel
theorem dX6_about_84 : decode cX6_about 84 = .ok (.invokevirtual 80, 3) := by decide +kernel
theorem dX6_about_87 : decode cX6_about 87 = .ok (.ireturn, 1) := by decide +kernel
theorem dX6_about_88 : decode cX6_about 88 = .ok (.aload_n 0, 1) := by decide +kernel
theorem dX6_about_89 : decode cX6_about 89 = .ok (.getfield 19, 3) := by decide +kernel
theorem dX6_about_92 : decode cX6_about 92 = .ok (.invokevirtual 77, 3) := by decide +kernel
theorem dX6_about_95 : decode cX6_about 95 = .ok (.ireturn, 1) := by decide +kernel
theorem dX6_about_96 : decode cX6_about 96 = .ok (.aload_n 0, 1) := by decide +kernel
theorem dX6_about_97 : decode cX6_about 97 = .ok (.getfield 19, 3) := by decide +kernel
theorem dX6_about_100 : decode cX6_about 100 = .ok (.bipush 12, 2) := by decide +kernel
theorem dX6_about_102 : decode cX6_about 102 = .ok (.invokevirtual 83, 3) := by decide +kernel
theorem dX6_about_105 : decode cX6_about 105 = .ok (.ireturn, 1) := by decide +kernel
theorem dX6_about_106 : decode cX6_about 106 = .ok (.aload_n 0, 1) := by decide +kernel
theorem dX6_about_107 : decode cX6_about 107 = .ok (.getfield 19, 3) := by decide +kernel
theorem dX6_about_110 : decode cX6_about 110 = .ok (.invokevirtual 86, 3) := by decide +kernel
theorem dX6_about_113 : decode cX6_about 113 = .ok (.ireturn, 1) := by decide +kernel
theorem dX6_about_114 : decode cX6_about 114 = .ok (.aload_n 0, 1) := by decide +kernel
theorem dX6_about_115 : decode cX6_about 115 = .ok (.getfield 19, 3) := by decide +kernel
theorem dX6_about_118 : decode cX6_about 118 = .ok (.invokevirtual 89, 3) := by decide +kernel
theorem dX6_about_121 : decode cX6_about 121 = .ok (.ireturn, 1) := by decide +kernel
theorem dX6_about_122 : decode cX6_about 122 = .ok (.aload_n 0, 1) := by decide +kernel
theorem dX6_about_123 : decode cX6_about 123 = .ok (.getfield 19, 3) := by decide +kernel
theorem dX6_about_126 : decode cX6_about 126 = .ok (.iconst 2, 1) := by decide +kernel
theorem dX6_about_127 : decode cX6_about 127 = .ok (.invokevirtual 83, 3) := by decide +kernel
theorem dX6_about_130 : decode cX6_about 130 = .ok (.ireturn, 1) := by decide +kernel
theorem dX6_about_131 : decode cX6_about 131 = .ok (.aload_n 0, 1) := by decide +kernel
theorem dX6_about_132 : decode cX6_about 132 = .ok (.getfield 19, 3) := by decide +kernel
theorem dX6_about_135 : decode cX6_about 135 = .ok (.bipush 7, 2) := by decide +kernel
theorem dX6_about_137 : decode cX6_about 137 = .ok (.invokevirtual 83, 3) := by decide +kernel
theorem dX6_about_140 : decode cX6_about 140 = .ok (.ireturn, 1) := by decide +kernel
theorem dX6_about_141 : decode cX6_about 141 = .ok (.aload_n 0, 1) := by decide +kernel
theorem dX6_about_142 : decode cX6_about 142 = .ok (.getfield 29, 3) := by decide +kernel
theorem dX6_about_145 : decode cX6_about 145 = .ok (.getfield 92, 3) := by decide +kernel
theorem dX6_about_148 : decode cX6_about 148 = .ok (.ireturn, 1) := by decide +kernel
theorem dX6_about_149 : decode cX6_about 149 = .ok (.aload_n 0, 1) := by decide +kernel
theorem dX6_about_150 : decode cX6_about 150 = .ok (.getfield 43, 3) := by decide +kernel
theorem dX6_about_153 : decode cX6_about 153 = .ok (.getfield 95, 3) := by decide +kernel
theorem dX6_about_156 : decode cX6_about 156 = .ok (.ireturn, 1) := by decide +kernel
theorem dX6_about_157 : decode cX6_about 157 = .ok (.aload_n 0, 1) := by decide +kernel
theorem dX6_about_158 : decode cX6_about 158 = .ok (.getfield 10, 3) := by decide +kernel
theorem dX6_about_161 : decode cX6_about 161 = .ok (.getfield 96, 3) := by decide +kernel
theorem dX6_about_164 : decode cX6_about 164 = .ok (.ireturn, 1) := by decide +kernel
theorem dX6_about_165 : decode cX6_about 165 = .ok (.bipush (-2), 2) := by decide +kernel
theorem dX6_about_167 : decode cX6_about 167 = .ok (.ireturn, 1) := by decide +kernel
set_option maxRecDepth 20000 in
theorem ggX6_bag_X0_isBag : GoodIn wsX6_bag wsX0_isBag := goodIn_r _ [6, 7, 45, 46, 47, 48, 49] (by decide +kernel) (by decide +kernel)
set_option maxRecDepth 20000 in
theorem gX6_bag_X0_isBag : GoodIn wsX6_bag (wsV RX6 99 RX0 yX0_isBag wsX0_isBag) := goodIn_app (goodIn_of _ (by decide +kernel)) ggX6_bag_X0_isBag
set_option maxRecDepth 20000 in
theorem ggX6_bag_X0_breathsIn : GoodIn wsX6_bag wsX0_breathsIn := goodIn_r _ [11, 12, 3, 4, 5, 6, 7, 13, 14, 15, 16, 17, 45, 46, 47, 48, 49] (by decide +kernel) (by decide +kernel)
set_option maxRecDepth 20000 in
theorem gX6_bag_X0_breathsIn : GoodIn wsX6_bag (wsV RX6 103 RX0 yX0_breathsIn wsX0_breathsIn) := goodIn_app (goodIn_of _ (by decide +kernel)) ggX6_bag_X0_breathsIn
set_option maxRecDepth 20000 in
theorem ggX6_bag_X0_kindOfBag : GoodIn wsX6_bag wsX0_kindOfBag := goodIn_r _ [21, 7, 22, 45, 46, 47, 48, 49] (by decide +kernel) (by decide +kernel)
set_option maxRecDepth 20000 in
theorem gX6_bag_X0_kindOfBag : GoodIn wsX6_bag (wsV RX6 106 RX0 yX0_kindOfBag wsX0_kindOfBag) := goodIn_app (goodIn_of _ (by decide +kernel)) ggX6_bag_X0_kindOfBag
set_option maxRecDepth 20000 in
theorem ggX6_bag_X0_owner : GoodIn wsX6_bag wsX0_owner := goodIn_r _ [26, 13, 14, 15, 5, 16, 17, 45, 46, 47, 48, 49] (by decide +kernel) (by decide +kernel)
set_option maxRecDepth 20000 in
theorem gX6_bag_X0_owner : GoodIn wsX6_bag (wsV RX6 109 RX0 yX0_owner wsX0_owner) := goodIn_app (goodIn_of _ (by decide +kernel)) ggX6_bag_X0_owner
set_option maxRecDepth 20000 in
theorem ggX6_bag_X0_playedBits : GoodIn wsX6_bag wsX0_playedBits := goodIn_r _ [30, 31, 19, 20, 5, 21, 7, 22, 32, 33, 34, 35, 36, 9, 10, 11, 12, 3, 4, 6, 13, 14, 15, 16, 17, 37, 24, 25, 26, 45, 46, 47, 48, 49] (by decide +kernel) (by decide +kernel)
set_option maxRecDepth 20000 in
theorem gX6_bag_X0_playedBits : GoodIn wsX6_bag (wsV RX6 113 RX0 yX0_playedBits wsX0_playedBits) := goodIn_app (goodIn_of _ (by decide +kernel)) ggX6_bag_X0_playedBits
theorem dX6_bag_0 : decode cX6_bag 0 = .ok (.aload_n 0, 1) := by decide +kernel
theorem dX6_bag_1 : decode cX6_bag 1 = .ok (.getfield 19, 3) := by decide +kernel
theorem dX6_bag_4 : decode cX6_bag 4 = .ok (.iload_n 1, 1) := by decide +kernel
theorem dX6_bag_5 : decode cX6_bag 5 = .ok (.invokevirtual 99, 3) := by decide +kernel
theorem dX6_bag_8 : decode cX6_bag 8 = .ok (.ifCond .ne 5, 3) := by decide +kernel
theorem dX6_bag_11 : decode cX6_bag 11 = .ok (.iconst (-1), 1) := by decide +kernel
theorem dX6_bag_12 : decode cX6_bag 12 = .ok (.ireturn, 1) := by decide +kernel
theorem dX6_bag_13 : decode cX6_bag 13 = .ok (.aload_n 0, 1) := by decide +kernel
theorem dX6_bag_14 : decode cX6_bag 14 = .ok (.getfield 19, 3) := by decide +kernel
theorem dX6_bag_17 : decode cX6_bag 17 = .ok (.iload_n 1, 1) := by decide +kernel
theorem dX6_bag_18 : decode cX6_bag 18 = .ok (.invokevirtual 103, 3) := by decide +kernel
theorem dX6_bag_21 : decode cX6_bag 21 = .ok (.istore_n 3, 1) := by decide +kernel
theorem dX6_bag_22 : decode cX6_bag 22 = .ok (.iload_n 2, 1) := by decide +kernel
theorem dX6_bag_23 : decode cX6_bag 23 = .ok (.tableswitch 94 0 4 #[33, 42, 44, 63, 84], 33) := by decide +kernel
theorem dX6_bag_56 : decode cX6_bag 56 = .ok (.aload_n 0, 1) := by decide +kernel
theorem dX6_bag_57 : decode cX6_bag 57 = .ok (.getfield 19, 3) := by decide +kernel
theorem dX6_bag_60 : decode cX6_bag 60 = .ok (.iload_n 1, 1) := by decide +kernel
theorem dX6_bag_61 : decode cX6_bag 61 = .ok (.invokevirtual 106, 3) := by decide +kernel
theorem dX6_bag_64 : decode cX6_bag 64 = .ok (.ireturn, 1) := by decide +kernel
theorem dX6_bag_65 : decode cX6_bag 65 = .ok (.iload_n 3, 1) := by decide +kernel
theorem dX6_bag_66 : decode cX6_bag 66 = .ok (.ireturn, 1) := by decide +kernel
theorem dX6_bag_67 : decode cX6_bag 67 = .ok (.iload_n 3, 1) := by decide +kernel
theorem dX6_bag_68 : decode cX6_bag 68 = .ok (.ifCond .ne 8, 3) := by decide +kernel
theorem dX6_bag_71 : decode cX6_bag 71 = .ok (.bipush (-9), 2) := by decide +kernel
theorem dX6_bag_73 : decode cX6_bag 73 = .ok (.goto 12, 3) := by decide +kernel
theorem dX6_bag_76 : decode cX6_bag 76 = .ok (.aload_n 0, 1) := by decide +kernel
theorem dX6_bag_77 : decode cX6_bag 77 = .ok (.getfield 19, 3) := by decide +kernel
theorem dX6_bag_80 : decode cX6_bag 80 = .ok (.iload_n 1, 1) := by decide +kernel
theorem dX6_bag_81 : decode cX6_bag 81 = .ok (.iconst 0, 1) := by decide +kernel
theorem dX6_bag_82 : decode cX6_bag 82 = .ok (.invokevirtual 109, 3) := by decide +kernel
theorem dX6_bag_85 : decode cX6_bag 85 = .ok (.ireturn, 1) := by decide +kernel
theorem dX6_bag_86 : decode cX6_bag 86 = .ok (.iload_n 3, 1) := by decide +kernel
theorem dX6_bag_87 : decode cX6_bag 87 = .ok (.ifCond .ne 8, 3) := by decide +kernel
theorem dX6_bag_90 : decode cX6_bag 90 = .ok (.bipush (-9), 2) := by decide +kernel
theorem dX6_bag_92 : decode cX6_bag 92 = .ok (.goto 14, 3) := by decide +kernel
theorem dX6_bag_95 : decode cX6_bag 95 = .ok (.aload_n 0, 1) := by decide +kernel
theorem dX6_bag_96 : decode cX6_bag 96 = .ok (.getfield 19, 3) := by decide +kernel
theorem dX6_bag_99 : decode cX6_bag 99 = .ok (.iload_n 1, 1) := by decide +kernel
theorem dX6_bag_100 : decode cX6_bag 100 = .ok (.iload_n 3, 1) := by decide +kernel
theorem dX6_bag_101 : decode cX6_bag 101 = .ok (.iconst 1, 1) := by decide +kernel
theorem dX6_bag_102 : decode cX6_bag 102 = .ok (.isub, 1) := by decide +kernel
theorem dX6_bag_103 : decode cX6_bag 103 = .ok (.invokevirtual 109, 3) := by decide +kernel
theorem dX6_bag_106 : decode cX6_bag 106 = .ok (.ireturn, 1) := by decide +kernel
theorem dX6_bag_107 : decode cX6_bag 107 = .ok (.aload_n 0, 1) := by decide +kernel
theorem dX6_bag_108 : decode cX6_bag 108 = .ok (.getfield 19, 3) := by decide +kernel
theorem dX6_bag_111 : decode cX6_bag 111 = .ok (.iload_n 1, 1) := by decide +kernel
theorem dX6_bag_112 : decode cX6_bag 112 = .ok (.iload_n 3, 1) := by decide +kernel
theorem dX6_bag_113 : decode cX6_bag 113 = .ok (.invokevirtual 113, 3) := by decide +kernel
theorem dX6_bag_116 : decode cX6_bag 116 = .ok (.ireturn, 1) := by decide +kernel
theorem dX6_bag_117 : decode cX6_bag 117 = .ok (.bipush (-2), 2) := by decide +kernel
theorem dX6_bag_119 : decode cX6_bag 119 = .ok (.ireturn, 1) := by decide +kernel
set_option maxRecDepth 20000 in
theorem ggX6_man_X0_isMan : GoodIn wsX6_man wsX0_isMan := goodIn_r _ [6, 7, 59, 60, 61, 62, 63] (by decide +kernel) (by decide +kernel)
set_option maxRecDepth 20000 in
theorem gX6_man_X0_isMan : GoodIn wsX6_man (wsV RX6 116 RX0 yX0_isMan wsX0_isMan) := goodIn_app (goodIn_of _ (by decide +kernel)) ggX6_man_X0_isMan
set_option maxRecDepth 20000 in
theorem ggX6_man_X0_kindOfMan : GoodIn wsX6_man wsX0_kindOfMan := goodIn_r _ [11, 7, 12, 59, 60, 61, 62, 63] (by decide +kernel) (by decide +kernel)
set_option maxRecDepth 20000 in
theorem gX6_man_X0_kindOfMan : GoodIn wsX6_man (wsV RX6 119 RX0 yX0_kindOfMan wsX0_kindOfMan) := goodIn_app (goodIn_of _ (by decide +kernel)) ggX6_man_X0_kindOfMan
set_option maxRecDepth 20000 in
theorem ggX6_man_X0_ofMan : GoodIn wsX6_man wsX0_ofMan := goodIn_r _ [16, 17, 3, 4, 5, 6, 7, 18, 19, 20, 21, 22, 59, 60, 61, 62, 63] (by decide +kernel) (by decide +kernel)
set_option maxRecDepth 20000 in
theorem gX6_man_X0_ofMan : GoodIn wsX6_man (wsV RX6 122 RX0 yX0_ofMan wsX0_ofMan) := goodIn_app (goodIn_of _ (by decide +kernel)) ggX6_man_X0_ofMan
set_option maxRecDepth 20000 in
theorem ggX6_man_X0_breathsOf : GoodIn wsX6_man wsX0_breathsOf := goodIn_r _ [26, 27, 28, 29, 5, 30, 31, 32, 33, 34, 35, 36, 37, 38, 39, 18, 19, 20, 21, 22, 40, 41, 42, 43, 59, 60, 61, 62, 63] (by decide +kernel) (by decide +kernel)
set_option maxRecDepth 20000 in
theorem gX6_man_X0_breathsOf : GoodIn wsX6_man (wsV RX6 125 RX0 yX0_breathsOf wsX0_breathsOf) := goodIn_app (goodIn_of _ (by decide +kernel)) ggX6_man_X0_breathsOf
set_option maxRecDepth 20000 in
theorem ggX6_man_X0_hasFallen : GoodIn wsX6_man wsX0_hasFallen := goodIn_r _ [47, 48, 49, 50, 5, 51, 18, 19, 20, 21, 22, 59, 60, 61, 62, 63] (by decide +kernel) (by decide +kernel)
set_option maxRecDepth 20000 in
theorem gX6_man_X0_hasFallen : GoodIn wsX6_man (wsV RX6 128 RX0 yX0_hasFallen wsX0_hasFallen) := goodIn_app (goodIn_of _ (by decide +kernel)) ggX6_man_X0_hasFallen
theorem dX6_man_0 : decode cX6_man 0 = .ok (.aload_n 0, 1) := by decide +kernel
theorem dX6_man_1 : decode cX6_man 1 = .ok (.getfield 19, 3) := by decide +kernel
theorem dX6_man_4 : decode cX6_man 4 = .ok (.iload_n 1, 1) := by decide +kernel
theorem dX6_man_5 : decode cX6_man 5 = .ok (.invokevirtual 116, 3) := by decide +kernel
theorem dX6_man_8 : decode cX6_man 8 = .ok (.ifCond .ne 5, 3) := by decide +kernel
theorem dX6_man_11 : decode cX6_man 11 = .ok (.iconst (-1), 1) := by decide +kernel
theorem dX6_man_12 : decode cX6_man 12 = .ok (.ireturn, 1) := by decide +kernel
theorem dX6_man_13 : decode cX6_man 13 = .ok (.iload_n 2, 1) := by decide +kernel
theorem dX6_man_14 : decode cX6_man 14 = .ok (.tableswitch 105 0 5 #[38, 47, 57, 68, 77, 88], 38) := by decide +kernel
theorem dX6_man_52 : decode cX6_man 52 = .ok (.aload_n 0, 1) := by decide +kernel
theorem dX6_man_53 : decode cX6_man 53 = .ok (.getfield 19, 3) := by decide +kernel
theorem dX6_man_56 : decode cX6_man 56 = .ok (.iload_n 1, 1) := by decide +kernel
theorem dX6_man_57 : decode cX6_man 57 = .ok (.invokevirtual 119, 3) := by decide +kernel
theorem dX6_man_60 : decode cX6_man 60 = .ok (.ireturn, 1) := by decide +kernel
theorem dX6_man_61 : decode cX6_man 61 = .ok (.aload_n 0, 1) := by decide +kernel
theorem dX6_man_62 : decode cX6_man 62 = .ok (.getfield 19, 3) := by decide +kernel
theorem dX6_man_65 : decode cX6_man 65 = .ok (.iconst 2, 1) := by decide +kernel
theorem dX6_man_66 : decode cX6_man 66 = .ok (.iload_n 1, 1) := by decide +kernel
theorem dX6_man_67 : decode cX6_man 67 = .ok (.invokevirtual 122, 3) := by decide +kernel
theorem dX6_man_70 : decode cX6_man 70 = .ok (.ireturn, 1) := by decide +kernel
theorem dX6_man_71 : decode cX6_man 71 = .ok (.aload_n 0, 1) := by decide +kernel
theorem dX6_man_72 : decode cX6_man 72 = .ok (.getfield 19, 3) := by decide +kernel
theorem dX6_man_75 : decode cX6_man 75 = .ok (.bipush 7, 2) := by decide +kernel
theorem dX6_man_77 : decode cX6_man 77 = .ok (.iload_n 1, 1) := by decide +kernel
theorem dX6_man_78 : decode cX6_man 78 = .ok (.invokevirtual 122, 3) := by decide +kernel
theorem dX6_man_81 : decode cX6_man 81 = .ok (.ireturn, 1) := by decide +kernel
theorem dX6_man_82 : decode cX6_man 82 = .ok (.aload_n 0, 1) := by decide +kernel
theorem dX6_man_83 : decode cX6_man 83 = .ok (.getfield 19, 3) := by decide +kernel
theorem dX6_man_86 : decode cX6_man 86 = .ok (.iload_n 1, 1) := by decide +kernel
theorem dX6_man_87 : decode cX6_man 87 = .ok (.invokevirtual 125, 3) := by decide +kernel
theorem dX6_man_90 : decode cX6_man 90 = .ok (.ireturn, 1) := by decide +kernel
theorem dX6_man_91 : decode cX6_man 91 = .ok (.aload_n 0, 1) := by decide +kernel
theorem dX6_man_92 : decode cX6_man 92 = .ok (.getfield 19, 3) := by decide +kernel
theorem dX6_man_95 : decode cX6_man 95 = .ok (.bipush 12, 2) := by decide +kernel
theorem dX6_man_97 : decode cX6_man 97 = .ok (.iload_n 1, 1) := by decide +kernel
theorem dX6_man_98 : decode cX6_man 98 = .ok (.invokevirtual 122, 3) := by decide +kernel
theorem dX6_man_101 : decode cX6_man 101 = .ok (.ireturn, 1) := by decide +kernel
theorem dX6_man_102 : decode cX6_man 102 = .ok (.aload_n 0, 1) := by decide +kernel
theorem dX6_man_103 : decode cX6_man 103 = .ok (.getfield 19, 3) := by decide +kernel
theorem dX6_man_106 : decode cX6_man 106 = .ok (.iload_n 1, 1) := by decide +kernel
theorem dX6_man_107 : decode cX6_man 107 = .ok (.invokevirtual 128, 3) := by decide +kernel
theorem dX6_man_110 : decode cX6_man 110 = .ok (.ifCond .eq 7, 3) := by decide +kernel
theorem dX6_man_113 : decode cX6_man 113 = .ok (.iconst 1, 1) := by decide +kernel
theorem dX6_man_114 : decode cX6_man 114 = .ok (.goto 4, 3) := by decide +kernel
theorem dX6_man_117 : decode cX6_man 117 = .ok (.iconst 0, 1) := by decide +kernel
theorem dX6_man_118 : decode cX6_man 118 = .ok (.ireturn, 1) := by decide +kernel
theorem dX6_man_119 : decode cX6_man 119 = .ok (.bipush (-2), 2) := by decide +kernel
theorem dX6_man_121 : decode cX6_man 121 = .ok (.ireturn, 1) := by decide +kernel
set_option maxRecDepth 20000 in
theorem ggX6_put_X0_becomeAll : GoodIn wsX6_put wsX0_becomeAll := goodIn_r _ [7, 8, 9, 10, 11, 12, 86, 87, 88, 89, 90] (by decide +kernel) (by decide +kernel)
set_option maxRecDepth 20000 in
theorem gX6_put_X0_becomeAll : GoodIn wsX6_put (wsV RX6 63 RX0 yX0_becomeAll wsX0_becomeAll) := goodIn_app (goodIn_of _ (by decide +kernel)) ggX6_put_X0_becomeAll
set_option maxRecDepth 20000 in
theorem ggX6_put_X0_giveBreath : GoodIn wsX6_put wsX0_giveBreath := goodIn_r _ [16, 17, 18, 19, 6, 20, 9, 21, 22, 23, 24, 8, 25, 26, 27, 28, 29, 30, 31, 32, 33, 34, 35, 36, 12, 37, 38, 39, 40, 41, 42, 43, 44, 45, 46, 47, 48, 49, 50, 51, 52, 53, 54, 55, 56, 86, 87, 88, 89, 90] (by decide +kernel) (by decide +kernel)
set_option maxRecDepth 20000 in
theorem gX6_put_X0_giveBreath : GoodIn wsX6_put (wsV RX6 131 RX0 yX0_giveBreath wsX0_giveBreath) := goodIn_app (goodIn_of _ (by decide +kernel)) ggX6_put_X0_giveBreath
set_option maxRecDepth 20000 in
theorem ggX6_put_X6_remembered : GoodIn wsX6_put wsX6_remembered := goodIn_r _ [61, 62, 1, 63, 64, 65, 66, 67, 68, 69, 70, 71, 72, 73, 74, 75, 76, 77, 6, 78, 12, 79, 80, 81, 82, 83, 84, 85, 91, 92, 93, 86, 87, 88, 89, 90] (by decide +kernel) (by decide +kernel)
set_option maxRecDepth 20000 in
theorem gX6_put_X6_remembered : GoodIn wsX6_put (wsV RX6 134 RX6 yX6_remembered wsX6_remembered) := goodIn_app (goodIn_of _ (by decide +kernel)) ggX6_put_X6_remembered
theorem dX6_put_0 : decode cX6_put 0 = .ok (.aload_n 0, 1) := by decide +kernel
theorem dX6_put_1 : decode cX6_put 1 = .ok (.getfield 23, 3) := by decide +kernel
theorem dX6_put_4 : decode cX6_put 4 = .ok (.aload_n 0, 1) := by decide +kernel
theorem dX6_put_5 : decode cX6_put 5 = .ok (.getfield 19, 3) := by decide +kernel
theorem dX6_put_8 : decode cX6_put 8 = .ok (.invokevirtual 63, 3) := by decide +kernel
theorem dX6_put_11 : decode cX6_put 11 = .ok (.aload_n 0, 1) := by decide +kernel
theorem dX6_put_12 : decode cX6_put 12 = .ok (.aload_n 0, 1) := by decide +kernel
theorem dX6_put_13 : decode cX6_put 13 = .ok (.getfield 19, 3) := by decide +kernel
theorem dX6_put_16 : decode cX6_put 16 = .ok (.iload_n 1, 1) := by decide +kernel
theorem dX6_put_17 : decode cX6_put 17 = .ok (.iload_n 2, 1) := by decide +kernel
theorem dX6_put_18 : decode cX6_put 18 = .ok (.invokevirtual 131, 3) := by decide +kernel
theorem dX6_put_21 : decode cX6_put 21 = .ok (.invokevirtual 134, 3) := by decide +kernel
theorem dX6_put_24 : decode cX6_put 24 = .ok (.ireturn, 1) := by decide +kernel
set_option maxRecDepth 20000 in
theorem ggX6_march_X0_becomeAll : GoodIn wsX6_march wsX0_becomeAll := goodIn_r _ [7, 8, 9, 10, 11, 12, 86, 87, 88, 89, 90] (by decide +kernel) (by decide +kernel)
set_option maxRecDepth 20000 in
theorem gX6_march_X0_becomeAll : GoodIn wsX6_march (wsV RX6 63 RX0 yX0_becomeAll wsX0_becomeAll) := goodIn_app (goodIn_of _ (by decide +kernel)) ggX6_march_X0_becomeAll
set_option maxRecDepth 20000 in
theorem ggX6_march_X0_playBreaths : GoodIn wsX6_march wsX0_playBreaths := goodIn_r _ [16, 17, 18, 19, 6, 20, 8, 21, 22, 23, 24, 25, 26, 27, 28, 12, 29, 30, 31, 32, 33, 34, 35, 36, 10, 37, 38, 39, 40, 41, 42, 43, 44, 45, 46, 47, 48, 49, 50, 51, 52, 53, 54, 55, 56, 86, 87, 88, 89, 90] (by decide +kernel) (by decide +kernel)
set_option maxRecDepth 20000 in
theorem gX6_march_X0_playBreaths : GoodIn wsX6_march (wsV RX6 137 RX0 yX0_playBreaths wsX0_playBreaths) := goodIn_app (goodIn_of _ (by decide +kernel)) ggX6_march_X0_playBreaths
set_option maxRecDepth 20000 in
theorem ggX6_march_X6_remembered : GoodIn wsX6_march wsX6_remembered := goodIn_r _ [61, 62, 1, 63, 64, 65, 66, 67, 68, 69, 70, 71, 72, 73, 74, 75, 76, 77, 6, 78, 12, 79, 80, 81, 82, 83, 84, 85, 91, 92, 93, 86, 87, 88, 89, 90] (by decide +kernel) (by decide +kernel)
set_option maxRecDepth 20000 in
theorem gX6_march_X6_remembered : GoodIn wsX6_march (wsV RX6 134 RX6 yX6_remembered wsX6_remembered) := goodIn_app (goodIn_of _ (by decide +kernel)) ggX6_march_X6_remembered
theorem dX6_march_0 : decode cX6_march 0 = .ok (.aload_n 0, 1) := by decide +kernel
theorem dX6_march_1 : decode cX6_march 1 = .ok (.getfield 23, 3) := by decide +kernel
theorem dX6_march_4 : decode cX6_march 4 = .ok (.aload_n 0, 1) := by decide +kernel
theorem dX6_march_5 : decode cX6_march 5 = .ok (.getfield 19, 3) := by decide +kernel
theorem dX6_march_8 : decode cX6_march 8 = .ok (.invokevirtual 63, 3) := by decide +kernel
theorem dX6_march_11 : decode cX6_march 11 = .ok (.aload_n 0, 1) := by decide +kernel
theorem dX6_march_12 : decode cX6_march 12 = .ok (.aload_n 0, 1) := by decide +kernel
theorem dX6_march_13 : decode cX6_march 13 = .ok (.getfield 19, 3) := by decide +kernel
theorem dX6_march_16 : decode cX6_march 16 = .ok (.iload_n 1, 1) := by decide +kernel
theorem dX6_march_17 : decode cX6_march 17 = .ok (.iload_n 2, 1) := by decide +kernel
theorem dX6_march_18 : decode cX6_march 18 = .ok (.invokevirtual 137, 3) := by decide +kernel
theorem dX6_march_21 : decode cX6_march 21 = .ok (.invokevirtual 134, 3) := by decide +kernel
theorem dX6_march_24 : decode cX6_march 24 = .ok (.ireturn, 1) := by decide +kernel
set_option maxRecDepth 20000 in
theorem ggX6_claim_X0_becomeAll : GoodIn wsX6_claim wsX0_becomeAll := goodIn_r _ [7, 8, 9, 10, 11, 12, 99, 100, 101, 102, 103] (by decide +kernel) (by decide +kernel)
set_option maxRecDepth 20000 in
theorem gX6_claim_X0_becomeAll : GoodIn wsX6_claim (wsV RX6 63 RX0 yX0_becomeAll wsX0_becomeAll) := goodIn_app (goodIn_of _ (by decide +kernel)) ggX6_claim_X0_becomeAll
set_option maxRecDepth 20000 in
theorem ggX6_claim_X0_takeBack : GoodIn wsX6_claim wsX0_takeBack := goodIn_r _ [16, 17, 18, 19, 20, 21, 22, 23, 6, 24, 9, 25, 26, 27, 28, 8, 29, 30, 31, 32, 33, 34, 35, 36, 37, 38, 39, 40, 12, 41, 42, 43, 44, 10, 45, 46, 47, 48, 49, 50, 51, 52, 53, 54, 55, 56, 57, 58, 59, 60, 61, 62, 63, 64, 65, 66, 67, 68, 69, 70, 71, 72, 99, 100, 101, 102, 103] (by decide +kernel) (by decide +kernel)
set_option maxRecDepth 20000 in
theorem gX6_claim_X0_takeBack : GoodIn wsX6_claim (wsV RX6 140 RX0 yX0_takeBack wsX0_takeBack) := goodIn_app (goodIn_of _ (by decide +kernel)) ggX6_claim_X0_takeBack
set_option maxRecDepth 20000 in
theorem ggX6_claim_X6_remembered : GoodIn wsX6_claim wsX6_remembered := goodIn_r _ [77, 78, 1, 79, 80, 81, 82, 83, 84, 85, 86, 87, 18, 19, 20, 88, 89, 90, 6, 91, 12, 92, 93, 94, 95, 96, 97, 98, 104, 105, 106, 99, 100, 101, 102, 103] (by decide +kernel) (by decide +kernel)
set_option maxRecDepth 20000 in
theorem gX6_claim_X6_remembered : GoodIn wsX6_claim (wsV RX6 134 RX6 yX6_remembered wsX6_remembered) := goodIn_app (goodIn_of _ (by decide +kernel)) ggX6_claim_X6_remembered
theorem dX6_claim_0 : decode cX6_claim 0 = .ok (.aload_n 0, 1) := by decide +kernel
theorem dX6_claim_1 : decode cX6_claim 1 = .ok (.getfield 23, 3) := by decide +kernel
theorem dX6_claim_4 : decode cX6_claim 4 = .ok (.aload_n 0, 1) := by decide +kernel
theorem dX6_claim_5 : decode cX6_claim 5 = .ok (.getfield 19, 3) := by decide +kernel
theorem dX6_claim_8 : decode cX6_claim 8 = .ok (.invokevirtual 63, 3) := by decide +kernel
theorem dX6_claim_11 : decode cX6_claim 11 = .ok (.aload_n 0, 1) := by decide +kernel
theorem dX6_claim_12 : decode cX6_claim 12 = .ok (.aload_n 0, 1) := by decide +kernel
theorem dX6_claim_13 : decode cX6_claim 13 = .ok (.getfield 19, 3) := by decide +kernel
theorem dX6_claim_16 : decode cX6_claim 16 = .ok (.iload_n 1, 1) := by decide +kernel
theorem dX6_claim_17 : decode cX6_claim 17 = .ok (.iload_n 2, 1) := by decide +kernel
theorem dX6_claim_18 : decode cX6_claim 18 = .ok (.invokevirtual 140, 3) := by decide +kernel
theorem dX6_claim_21 : decode cX6_claim 21 = .ok (.invokevirtual 134, 3) := by decide +kernel
theorem dX6_claim_24 : decode cX6_claim 24 = .ok (.ireturn, 1) := by decide +kernel
set_option maxRecDepth 20000 in
theorem ggX6_slit_X0_becomeAll : GoodIn wsX6_slit wsX0_becomeAll := goodIn_r _ [7, 8, 9, 10, 11, 12, 78, 79, 80, 81, 82] (by decide +kernel) (by decide +kernel)
set_option maxRecDepth 20000 in
theorem gX6_slit_X0_becomeAll : GoodIn wsX6_slit (wsV RX6 63 RX0 yX0_becomeAll wsX0_becomeAll) := goodIn_app (goodIn_of _ (by decide +kernel)) ggX6_slit_X0_becomeAll
set_option maxRecDepth 20000 in
theorem ggX6_slit_X0_cutOpen : GoodIn wsX6_slit wsX0_cutOpen := goodIn_r _ [16, 17, 18, 19, 6, 20, 8, 21, 22, 23, 24, 25, 26, 27, 28, 12, 29, 30, 31, 32, 33, 34, 35, 36, 37, 38, 39, 40, 41, 42, 43, 44, 45, 46, 47, 48, 78, 79, 80, 81, 82] (by decide +kernel) (by decide +kernel)
set_option maxRecDepth 20000 in
theorem gX6_slit_X0_cutOpen : GoodIn wsX6_slit (wsV RX6 143 RX0 yX0_cutOpen wsX0_cutOpen) := goodIn_app (goodIn_of _ (by decide +kernel)) ggX6_slit_X0_cutOpen
set_option maxRecDepth 20000 in
theorem ggX6_slit_X6_remembered : GoodIn wsX6_slit wsX6_remembered := goodIn_r _ [53, 54, 1, 55, 56, 57, 58, 59, 60, 61, 62, 63, 64, 65, 66, 67, 68, 69, 6, 70, 12, 71, 72, 73, 74, 75, 76, 77, 83, 84, 85, 78, 79, 80, 81, 82] (by decide +kernel) (by decide +kernel)
set_option maxRecDepth 20000 in
theorem gX6_slit_X6_remembered : GoodIn wsX6_slit (wsV RX6 134 RX6 yX6_remembered wsX6_remembered) := goodIn_app (goodIn_of _ (by decide +kernel)) ggX6_slit_X6_remembered
theorem dX6_slit_0 : decode cX6_slit 0 = .ok (.aload_n 0, 1) := by decide +kernel
theorem dX6_slit_1 : decode cX6_slit 1 = .ok (.getfield 23, 3) := by decide +kernel
theorem dX6_slit_4 : decode cX6_slit 4 = .ok (.aload_n 0, 1) := by decide +kernel
theorem dX6_slit_5 : decode cX6_slit 5 = .ok (.getfield 19, 3) := by decide +kernel
theorem dX6_slit_8 : decode cX6_slit 8 = .ok (.invokevirtual 63, 3) := by decide +kernel
theorem dX6_slit_11 : decode cX6_slit 11 = .ok (.aload_n 0, 1) := by decide +kernel
theorem dX6_slit_12 : decode cX6_slit 12 = .ok (.aload_n 0, 1) := by decide +kernel
theorem dX6_slit_13 : decode cX6_slit 13 = .ok (.getfield 19, 3) := by decide +kernel
theorem dX6_slit_16 : decode cX6_slit 16 = .ok (.iload_n 1, 1) := by decide +kernel
theorem dX6_slit_17 : decode cX6_slit 17 = .ok (.invokevirtual 143, 3) := by decide +kernel
theorem dX6_slit_20 : decode cX6_slit 20 = .ok (.invokevirtual 134, 3) := by decide +kernel
theorem dX6_slit_23 : decode cX6_slit 23 = .ok (.ireturn, 1) := by decide +kernel
set_option maxRecDepth 20000 in
theorem ggX6_fall_X0_becomeAll : GoodIn wsX6_fall wsX0_becomeAll := goodIn_r _ [7, 8, 9, 10, 11, 12, 86, 87, 88, 89, 90] (by decide +kernel) (by decide +kernel)
set_option maxRecDepth 20000 in
theorem gX6_fall_X0_becomeAll : GoodIn wsX6_fall (wsV RX6 63 RX0 yX0_becomeAll wsX0_becomeAll) := goodIn_app (goodIn_of _ (by decide +kernel)) ggX6_fall_X0_becomeAll
set_option maxRecDepth 20000 in
theorem ggX6_fall_X0_loseMan : GoodIn wsX6_fall wsX0_loseMan := goodIn_r _ [16, 17, 18, 19, 6, 20, 9, 21, 22, 23, 24, 25, 26, 27, 28, 29, 30, 31, 32, 12, 33, 34, 35, 36, 37, 38, 39, 40, 41, 42, 43, 44, 8, 45, 46, 47, 48, 49, 50, 51, 52, 53, 54, 55, 56, 86, 87, 88, 89, 90] (by decide +kernel) (by decide +kernel)
set_option maxRecDepth 20000 in
theorem gX6_fall_X0_loseMan : GoodIn wsX6_fall (wsV RX6 146 RX0 yX0_loseMan wsX0_loseMan) := goodIn_app (goodIn_of _ (by decide +kernel)) ggX6_fall_X0_loseMan
set_option maxRecDepth 20000 in
theorem ggX6_fall_X6_remembered : GoodIn wsX6_fall wsX6_remembered := goodIn_r _ [61, 62, 1, 63, 64, 65, 66, 67, 68, 69, 70, 71, 72, 73, 74, 75, 76, 77, 6, 78, 12, 79, 80, 81, 82, 83, 84, 85, 91, 92, 93, 86, 87, 88, 89, 90] (by decide +kernel) (by decide +kernel)
set_option maxRecDepth 20000 in
theorem gX6_fall_X6_remembered : GoodIn wsX6_fall (wsV RX6 134 RX6 yX6_remembered wsX6_remembered) := goodIn_app (goodIn_of _ (by decide +kernel)) ggX6_fall_X6_remembered
theorem dX6_fall_0 : decode cX6_fall 0 = .ok (.aload_n 0, 1) := by decide +kernel
theorem dX6_fall_1 : decode cX6_fall 1 = .ok (.getfield 23, 3) := by decide +kernel
theorem dX6_fall_4 : decode cX6_fall 4 = .ok (.aload_n 0, 1) := by decide +kernel
theorem dX6_fall_5 : decode cX6_fall 5 = .ok (.getfield 19, 3) := by decide +kernel
theorem dX6_fall_8 : decode cX6_fall 8 = .ok (.invokevirtual 63, 3) := by decide +kernel
theorem dX6_fall_11 : decode cX6_fall 11 = .ok (.aload_n 0, 1) := by decide +kernel
theorem dX6_fall_12 : decode cX6_fall 12 = .ok (.aload_n 0, 1) := by decide +kernel
theorem dX6_fall_13 : decode cX6_fall 13 = .ok (.getfield 19, 3) := by decide +kernel
theorem dX6_fall_16 : decode cX6_fall 16 = .ok (.iload_n 1, 1) := by decide +kernel
theorem dX6_fall_17 : decode cX6_fall 17 = .ok (.invokevirtual 146, 3) := by decide +kernel
theorem dX6_fall_20 : decode cX6_fall 20 = .ok (.invokevirtual 134, 3) := by decide +kernel
theorem dX6_fall_23 : decode cX6_fall 23 = .ok (.ireturn, 1) := by decide +kernel
set_option maxRecDepth 20000 in
theorem ggX6_day_X0_becomeAll : GoodIn wsX6_day wsX0_becomeAll := goodIn_r _ [7, 8, 9, 10, 11, 12, 110, 111, 112, 113, 114] (by decide +kernel) (by decide +kernel)
set_option maxRecDepth 20000 in
theorem gX6_day_X0_becomeAll : GoodIn wsX6_day (wsV RX6 63 RX0 yX0_becomeAll wsX0_becomeAll) := goodIn_app (goodIn_of _ (by decide +kernel)) ggX6_day_X0_becomeAll
set_option maxRecDepth 20000 in
theorem ggX6_day_X0_passDay : GoodIn wsX6_day wsX0_passDay := goodIn_r _ [16, 8, 17, 18, 19, 6, 20, 10, 21, 22, 23, 24, 25, 26, 27, 28, 29, 30, 31, 32, 12, 33, 34, 35, 36, 37, 38, 39, 40, 41, 42, 43, 44, 45, 46, 47, 48, 49, 50, 51, 52, 53, 54, 55, 56, 57, 58, 59, 60, 9, 61, 62, 63, 64, 65, 66, 67, 68, 69, 70, 71, 72, 11, 73, 74, 75, 76, 77, 78, 79, 80, 110, 111, 112, 113, 114] (by decide +kernel) (by decide +kernel)
set_option maxRecDepth 20000 in
theorem gX6_day_X0_passDay : GoodIn wsX6_day (wsV RX6 149 RX0 yX0_passDay wsX0_passDay) := goodIn_app (goodIn_of _ (by decide +kernel)) ggX6_day_X0_passDay
set_option maxRecDepth 20000 in
theorem ggX6_day_X6_remembered : GoodIn wsX6_day wsX6_remembered := goodIn_r _ [85, 86, 1, 87, 88, 89, 90, 91, 92, 93, 94, 95, 96, 97, 98, 99, 100, 101, 6, 102, 12, 103, 104, 105, 106, 107, 108, 109, 115, 116, 117, 110, 111, 112, 113, 114] (by decide +kernel) (by decide +kernel)
set_option maxRecDepth 20000 in
theorem gX6_day_X6_remembered : GoodIn wsX6_day (wsV RX6 134 RX6 yX6_remembered wsX6_remembered) := goodIn_app (goodIn_of _ (by decide +kernel)) ggX6_day_X6_remembered
theorem dX6_day_0 : decode cX6_day 0 = .ok (.aload_n 0, 1) := by decide +kernel
theorem dX6_day_1 : decode cX6_day 1 = .ok (.getfield 23, 3) := by decide +kernel
theorem dX6_day_4 : decode cX6_day 4 = .ok (.aload_n 0, 1) := by decide +kernel
theorem dX6_day_5 : decode cX6_day 5 = .ok (.getfield 19, 3) := by decide +kernel
theorem dX6_day_8 : decode cX6_day 8 = .ok (.invokevirtual 63, 3) := by decide +kernel
theorem dX6_day_11 : decode cX6_day 11 = .ok (.aload_n 0, 1) := by decide +kernel
theorem dX6_day_12 : decode cX6_day 12 = .ok (.aload_n 0, 1) := by decide +kernel
theorem dX6_day_13 : decode cX6_day 13 = .ok (.getfield 19, 3) := by decide +kernel
theorem dX6_day_16 : decode cX6_day 16 = .ok (.invokevirtual 149, 3) := by decide +kernel
theorem dX6_day_19 : decode cX6_day 19 = .ok (.invokevirtual 134, 3) := by decide +kernel
theorem dX6_day_22 : decode cX6_day 22 = .ok (.ireturn, 1) := by decide +kernel
set_option maxRecDepth 20000 in
theorem ggX6_undo_X2_goBack : GoodIn wsX6_undo wsX2_goBack := goodIn_r _ [7, 8, 9, 10, 11, 12, 13, 14, 15, 16, 17, 18, 19, 20, 28, 29, 30, 31, 32, 33, 34, 35] (by decide +kernel) (by decide +kernel)
set_option maxRecDepth 20000 in
theorem gX6_undo_X2_goBack : GoodIn wsX6_undo (wsV RX6 152 RX2 yX2_goBack wsX2_goBack) := goodIn_app (goodIn_of _ (by decide +kernel)) ggX6_undo_X2_goBack
theorem dX6_undo_0 : decode cX6_undo 0 = .ok (.aload_n 0, 1) := by decide +kernel
theorem dX6_undo_1 : decode cX6_undo 1 = .ok (.getfield 29, 3) := by decide +kernel
theorem dX6_undo_4 : decode cX6_undo 4 = .ok (.getfield 92, 3) := by decide +kernel
theorem dX6_undo_7 : decode cX6_undo 7 = .ok (.ifCond .ne 8, 3) := by decide +kernel
theorem dX6_undo_10 : decode cX6_undo 10 = .ok (.bipush (-3), 2) := by decide +kernel
theorem dX6_undo_12 : decode cX6_undo 12 = .ok (.goto 14, 3) := by decide +kernel
theorem dX6_undo_15 : decode cX6_undo 15 = .ok (.aload_n 0, 1) := by decide +kernel
theorem dX6_undo_16 : decode cX6_undo 16 = .ok (.getfield 29, 3) := by decide +kernel
theorem dX6_undo_19 : decode cX6_undo 19 = .ok (.aload_n 0, 1) := by decide +kernel
theorem dX6_undo_20 : decode cX6_undo 20 = .ok (.getfield 19, 3) := by decide +kernel
theorem dX6_undo_23 : decode cX6_undo 23 = .ok (.invokevirtual 152, 3) := by decide +kernel
theorem dX6_undo_26 : decode cX6_undo 26 = .ok (.ireturn, 1) := by decide +kernel
set_option maxRecDepth 20000 in
theorem ggX6_remembered_X2_remember : GoodIn wsX6_remembered wsX2_remember := goodIn_r _ [7, 8, 9, 10, 11, 12, 13, 14, 15, 16, 17, 18, 19, 20, 28, 29, 30, 31, 32, 33, 34, 35] (by decide +kernel) (by decide +kernel)
set_option maxRecDepth 20000 in
theorem gX6_remembered_X2_remember : GoodIn wsX6_remembered (wsV RX6 155 RX2 yX2_remember wsX2_remember) := goodIn_app (goodIn_of _ (by decide +kernel)) ggX6_remembered_X2_remember
theorem dX6_remembered_0 : decode cX6_remembered 0 = .ok (.iload_n 1, 1) := by decide +kernel
theorem dX6_remembered_1 : decode cX6_remembered 1 = .ok (.ifCond .lt 14, 3) := by decide +kernel
theorem dX6_remembered_4 : decode cX6_remembered 4 = .ok (.aload_n 0, 1) := by decide +kernel
theorem dX6_remembered_5 : decode cX6_remembered 5 = .ok (.getfield 29, 3) := by decide +kernel
theorem dX6_remembered_8 : decode cX6_remembered 8 = .ok (.aload_n 0, 1) := by decide +kernel
theorem dX6_remembered_9 : decode cX6_remembered 9 = .ok (.getfield 23, 3) := by decide +kernel
theorem dX6_remembered_12 : decode cX6_remembered 12 = .ok (.invokevirtual 155, 3) := by decide +kernel
theorem dX6_remembered_15 : decode cX6_remembered 15 = .ok (.iload_n 1, 1) := by decide +kernel
theorem dX6_remembered_16 : decode cX6_remembered 16 = .ok (.ireturn, 1) := by decide +kernel
set_option maxRecDepth 20000 in
theorem ggX6_later_X0_isMan : GoodIn wsX6_later wsX0_isMan := goodIn_r _ [7, 8, 95, 96, 97, 98, 99] (by decide +kernel) (by decide +kernel)
set_option maxRecDepth 20000 in
theorem gX6_later_X0_isMan : GoodIn wsX6_later (wsV RX6 116 RX0 yX0_isMan wsX0_isMan) := goodIn_app (goodIn_of _ (by decide +kernel)) ggX6_later_X0_isMan
set_option maxRecDepth 20000 in
theorem ggX6_later_X6_tryDays : GoodIn wsX6_later wsX6_tryDays := goodIn_r _ [13, 2, 1, 14, 15, 16, 6, 17, 18, 8, 19, 20, 21, 22, 23, 24, 25, 26, 27, 28, 29, 30, 31, 32, 33, 34, 35, 36, 37, 38, 39, 40, 41, 42, 43, 44, 45, 46, 47, 48, 49, 50, 51, 52, 53, 54, 55, 56, 57, 58, 59, 60, 61, 62, 63, 64, 65, 66, 67, 68, 69, 70, 71, 72, 73, 74, 75, 76, 77, 78, 79, 80, 81, 82, 83, 84, 85, 86, 4, 5, 7, 88, 89, 90, 91, 92, 93, 94, 95, 96, 97, 98, 99] (by decide +kernel) (by decide +kernel)
set_option maxRecDepth 20000 in
theorem gX6_later_X6_tryDays : GoodIn wsX6_later (wsV RX6 158 RX6 yX6_tryDays wsX6_tryDays) := goodIn_app (goodIn_of _ (by decide +kernel)) ggX6_later_X6_tryDays
set_option maxRecDepth 20000 in
theorem ggX6_later_X0_ofMan : GoodIn wsX6_later wsX0_ofMan := goodIn_r _ [85, 86, 4, 5, 6, 7, 8, 38, 39, 40, 41, 21, 95, 96, 97, 98, 99] (by decide +kernel) (by decide +kernel)
set_option maxRecDepth 20000 in
theorem gX6_later_X0_ofMan : GoodIn wsX6_later (wsV RX6 122 RX0 yX0_ofMan wsX0_ofMan) := goodIn_app (goodIn_of _ (by decide +kernel)) ggX6_later_X0_ofMan
theorem dX6_later_0 : decode cX6_later 0 = .ok (.aload_n 0, 1) := by decide +kernel
theorem dX6_later_1 : decode cX6_later 1 = .ok (.getfield 19, 3) := by decide +kernel
theorem dX6_later_4 : decode cX6_later 4 = .ok (.iload_n 1, 1) := by decide +kernel
theorem dX6_later_5 : decode cX6_later 5 = .ok (.invokevirtual 116, 3) := by decide +kernel
theorem dX6_later_8 : decode cX6_later 8 = .ok (.ifCond .ne 5, 3) := by decide +kernel
theorem dX6_later_11 : decode cX6_later 11 = .ok (.iconst (-1), 1) := by decide +kernel
theorem dX6_later_12 : decode cX6_later 12 = .ok (.ireturn, 1) := by decide +kernel
theorem dX6_later_13 : decode cX6_later 13 = .ok (.iload_n 2, 1) := by decide +kernel
theorem dX6_later_14 : decode cX6_later 14 = .ok (.ifCond .lt 18, 3) := by decide +kernel
theorem dX6_later_17 : decode cX6_later 17 = .ok (.iload_n 2, 1) := by decide +kernel
theorem dX6_later_18 : decode cX6_later 18 = .ok (.bipush 40, 2) := by decide +kernel
theorem dX6_later_20 : decode cX6_later 20 = .ok (.if_icmp .gt 12, 3) := by decide +kernel
theorem dX6_later_23 : decode cX6_later 23 = .ok (.iload_n 3, 1) := by decide +kernel
theorem dX6_later_24 : decode cX6_later 24 = .ok (.ifCond .lt 8, 3) := by decide +kernel
theorem dX6_later_27 : decode cX6_later 27 = .ok (.iload_n 3, 1) := by decide +kernel
theorem dX6_later_28 : decode cX6_later 28 = .ok (.iconst 1, 1) := by decide +kernel
theorem dX6_later_29 : decode cX6_later 29 = .ok (.if_icmp .le 6, 3) := by decide +kernel
theorem dX6_later_32 : decode cX6_later 32 = .ok (.bipush (-2), 2) := by decide +kernel
theorem dX6_later_34 : decode cX6_later 34 = .ok (.ireturn, 1) := by decide +kernel
theorem dX6_later_35 : decode cX6_later 35 = .ok (.aload_n 0, 1) := by decide +kernel
theorem dX6_later_36 : decode cX6_later 36 = .ok (.iload_n 2, 1) := by decide +kernel
theorem dX6_later_37 : decode cX6_later 37 = .ok (.invokevirtual 158, 3) := by decide +kernel
theorem dX6_later_40 : decode cX6_later 40 = .ok (.aload_n 0, 1) := by decide +kernel
theorem dX6_later_41 : decode cX6_later 41 = .ok (.getfield 23, 3) := by decide +kernel
theorem dX6_later_44 : decode cX6_later 44 = .ok (.iload_n 3, 1) := by decide +kernel
theorem dX6_later_45 : decode cX6_later 45 = .ok (.ifCond .ne 7, 3) := by decide +kernel
theorem dX6_later_48 : decode cX6_later 48 = .ok (.iconst 2, 1) := by decide +kernel
theorem dX6_later_49 : decode cX6_later 49 = .ok (.goto 5, 3) := by decide +kernel
theorem dX6_later_52 : decode cX6_later 52 = .ok (.bipush 7, 2) := by decide +kernel
theorem dX6_later_54 : decode cX6_later 54 = .ok (.iload_n 1, 1) := by decide +kernel
theorem dX6_later_55 : decode cX6_later 55 = .ok (.invokevirtual 122, 3) := by decide +kernel
theorem dX6_later_58 : decode cX6_later 58 = .ok (.ireturn, 1) := by decide +kernel
set_option maxRecDepth 20000 in
theorem ggX6_holds_X0_isBag : GoodIn wsX6_holds wsX0_isBag := goodIn_r _ [7, 8, 95, 96, 97, 98, 99] (by decide +kernel) (by decide +kernel)
set_option maxRecDepth 20000 in
theorem gX6_holds_X0_isBag : GoodIn wsX6_holds (wsV RX6 99 RX0 yX0_isBag wsX0_isBag) := goodIn_app (goodIn_of _ (by decide +kernel)) ggX6_holds_X0_isBag
set_option maxRecDepth 20000 in
theorem ggX6_holds_X6_tryDays : GoodIn wsX6_holds wsX6_tryDays := goodIn_r _ [13, 2, 1, 14, 15, 16, 6, 17, 8, 18, 19, 20, 21, 22, 23, 24, 25, 26, 27, 28, 29, 30, 31, 32, 33, 34, 4, 5, 7, 35, 36, 37, 38, 39, 40, 41, 42, 43, 44, 45, 46, 47, 48, 49, 50, 51, 52, 53, 54, 55, 56, 57, 58, 59, 60, 61, 62, 63, 64, 65, 66, 67, 68, 69, 70, 71, 72, 73, 74, 75, 76, 77, 78, 79, 80, 81, 82, 83, 84, 85, 86, 88, 89, 90, 91, 92, 93, 94, 95, 96, 97, 98, 99] (by decide +kernel) (by decide +kernel)
set_option maxRecDepth 20000 in
theorem gX6_holds_X6_tryDays : GoodIn wsX6_holds (wsV RX6 158 RX6 yX6_tryDays wsX6_tryDays) := goodIn_app (goodIn_of _ (by decide +kernel)) ggX6_holds_X6_tryDays
set_option maxRecDepth 20000 in
theorem ggX6_holds_X0_breathsIn : GoodIn wsX6_holds wsX0_breathsIn := goodIn_r _ [33, 34, 4, 5, 6, 7, 8, 35, 36, 37, 38, 21, 95, 96, 97, 98, 99] (by decide +kernel) (by decide +kernel)
set_option maxRecDepth 20000 in
theorem gX6_holds_X0_breathsIn : GoodIn wsX6_holds (wsV RX6 103 RX0 yX0_breathsIn wsX0_breathsIn) := goodIn_app (goodIn_of _ (by decide +kernel)) ggX6_holds_X0_breathsIn
theorem dX6_holds_0 : decode cX6_holds 0 = .ok (.aload_n 0, 1) := by decide +kernel
theorem dX6_holds_1 : decode cX6_holds 1 = .ok (.getfield 19, 3) := by decide +kernel
theorem dX6_holds_4 : decode cX6_holds 4 = .ok (.iload_n 1, 1) := by decide +kernel
theorem dX6_holds_5 : decode cX6_holds 5 = .ok (.invokevirtual 99, 3) := by decide +kernel
theorem dX6_holds_8 : decode cX6_holds 8 = .ok (.ifCond .ne 5, 3) := by decide +kernel
theorem dX6_holds_11 : decode cX6_holds 11 = .ok (.iconst (-1), 1) := by decide +kernel
theorem dX6_holds_12 : decode cX6_holds 12 = .ok (.ireturn, 1) := by decide +kernel
theorem dX6_holds_13 : decode cX6_holds 13 = .ok (.iload_n 2, 1) := by decide +kernel
theorem dX6_holds_14 : decode cX6_holds 14 = .ok (.ifCond .lt 9, 3) := by decide +kernel
theorem dX6_holds_17 : decode cX6_holds 17 = .ok (.iload_n 2, 1) := by decide +kernel
theorem dX6_holds_18 : decode cX6_holds 18 = .ok (.bipush 40, 2) := by decide +kernel
theorem dX6_holds_20 : decode cX6_holds 20 = .ok (.if_icmp .le 6, 3) := by decide +kernel
theorem dX6_holds_23 : decode cX6_holds 23 = .ok (.bipush (-2), 2) := by decide +kernel
theorem dX6_holds_25 : decode cX6_holds 25 = .ok (.ireturn, 1) := by decide +kernel
theorem dX6_holds_26 : decode cX6_holds 26 = .ok (.aload_n 0, 1) := by decide +kernel
theorem dX6_holds_27 : decode cX6_holds 27 = .ok (.iload_n 2, 1) := by decide +kernel
theorem dX6_holds_28 : decode cX6_holds 28 = .ok (.invokevirtual 158, 3) := by decide +kernel
theorem dX6_holds_31 : decode cX6_holds 31 = .ok (.aload_n 0, 1) := by decide +kernel
theorem dX6_holds_32 : decode cX6_holds 32 = .ok (.getfield 23, 3) := by decide +kernel
theorem dX6_holds_35 : decode cX6_holds 35 = .ok (.iload_n 1, 1) := by decide +kernel
theorem dX6_holds_36 : decode cX6_holds 36 = .ok (.invokevirtual 103, 3) := by decide +kernel
theorem dX6_holds_39 : decode cX6_holds 39 = .ok (.ireturn, 1) := by decide +kernel
set_option maxRecDepth 20000 in
theorem ggX6_tryDays_X0_becomeAll : GoodIn wsX6_tryDays wsX0_becomeAll := goodIn_r _ [7, 8, 9, 10, 11, 12, 88, 89, 90, 91, 92] (by decide +kernel) (by decide +kernel)
set_option maxRecDepth 20000 in
theorem gX6_tryDays_X0_becomeAll : GoodIn wsX6_tryDays (wsV RX6 63 RX0 yX0_becomeAll wsX0_becomeAll) := goodIn_app (goodIn_of _ (by decide +kernel)) ggX6_tryDays_X0_becomeAll
set_option maxRecDepth 20000 in
theorem ggX6_tryDays_X0_passDay : GoodIn wsX6_tryDays wsX0_passDay := goodIn_r _ [16, 8, 17, 18, 19, 6, 20, 10, 21, 22, 23, 24, 25, 26, 27, 28, 29, 30, 31, 32, 12, 33, 34, 35, 36, 37, 38, 39, 40, 41, 42, 43, 44, 45, 46, 47, 48, 49, 50, 51, 52, 53, 54, 55, 56, 57, 58, 59, 60, 9, 61, 62, 63, 64, 65, 66, 67, 68, 69, 70, 71, 72, 11, 73, 74, 75, 76, 77, 78, 79, 80, 88, 89, 90, 91, 92] (by decide +kernel) (by decide +kernel)
set_option maxRecDepth 20000 in
theorem gX6_tryDays_X0_passDay : GoodIn wsX6_tryDays (wsV RX6 149 RX0 yX0_passDay wsX0_passDay) := goodIn_app (goodIn_of _ (by decide +kernel)) ggX6_tryDays_X0_passDay
theorem dX6_tryDays_0 : decode cX6_tryDays 0 = .ok (.aload_n 0, 1) := by decide +kernel
theorem dX6_tryDays_1 : decode cX6_tryDays 1 = .ok (.getfield 23, 3) := by decide +kernel
theorem dX6_tryDays_4 : decode cX6_tryDays 4 = .ok (.aload_n 0, 1) := by decide +kernel
theorem dX6_tryDays_5 : decode cX6_tryDays 5 = .ok (.getfield 19, 3) := by decide +kernel
theorem dX6_tryDays_8 : decode cX6_tryDays 8 = .ok (.invokevirtual 63, 3) := by decide +kernel
theorem dX6_tryDays_11 : decode cX6_tryDays 11 = .ok (.iconst 0, 1) := by decide +kernel
theorem dX6_tryDays_12 : decode cX6_tryDays 12 = .ok (.istore_n 2, 1) := by decide +kernel
theorem dX6_tryDays_13 : decode cX6_tryDays 13 = .ok (.iload_n 2, 1) := by decide +kernel
theorem dX6_tryDays_14 : decode cX6_tryDays 14 = .ok (.iload_n 1, 1) := by decide +kernel
theorem dX6_tryDays_15 : decode cX6_tryDays 15 = .ok (.if_icmp .ge 17, 3) := by decide +kernel
theorem dX6_tryDays_18 : decode cX6_tryDays 18 = .ok (.aload_n 0, 1) := by decide +kernel
theorem dX6_tryDays_19 : decode cX6_tryDays 19 = .ok (.getfield 23, 3) := by decide +kernel
theorem dX6_tryDays_22 : decode cX6_tryDays 22 = .ok (.invokevirtual 149, 3) := by decide +kernel
theorem dX6_tryDays_25 : decode cX6_tryDays 25 = .ok (.pop, 1) := by decide +kernel
theorem dX6_tryDays_26 : decode cX6_tryDays 26 = .ok (.iinc 2 1, 3) := by decide +kernel
theorem dX6_tryDays_29 : decode cX6_tryDays 29 = .ok (.goto (-16), 3) := by decide +kernel
theorem dX6_tryDays_32 : decode cX6_tryDays 32 = .ok (.return_, 1) := by decide +kernel
set_option maxRecDepth 20000 in
theorem ggX6_nth_X0_isBag : GoodIn wsX6_nth wsX0_isBag := goodIn_r _ [6, 7, 39, 40, 41, 42, 43] (by decide +kernel) (by decide +kernel)
set_option maxRecDepth 20000 in
theorem gX6_nth_X0_isBag : GoodIn wsX6_nth (wsV RX6 99 RX0 yX0_isBag wsX0_isBag) := goodIn_app (goodIn_of _ (by decide +kernel)) ggX6_nth_X0_isBag
set_option maxRecDepth 20000 in
theorem ggX6_nth_X0_breathsIn : GoodIn wsX6_nth wsX0_breathsIn := goodIn_r _ [11, 12, 3, 4, 5, 6, 7, 13, 14, 15, 16, 17, 39, 40, 41, 42, 43] (by decide +kernel) (by decide +kernel)
set_option maxRecDepth 20000 in
theorem gX6_nth_X0_breathsIn : GoodIn wsX6_nth (wsV RX6 103 RX0 yX0_breathsIn wsX0_breathsIn) := goodIn_app (goodIn_of _ (by decide +kernel)) ggX6_nth_X0_breathsIn
set_option maxRecDepth 20000 in
theorem ggX6_nth_X0_placePlayed : GoodIn wsX6_nth wsX0_placePlayed := goodIn_r _ [21, 22, 23, 24, 5, 25, 7, 26, 27, 9, 10, 11, 12, 3, 4, 6, 13, 14, 15, 16, 17, 39, 40, 41, 42, 43] (by decide +kernel) (by decide +kernel)
set_option maxRecDepth 20000 in
theorem gX6_nth_X0_placePlayed : GoodIn wsX6_nth (wsV RX6 162 RX0 yX0_placePlayed wsX0_placePlayed) := goodIn_app (goodIn_of _ (by decide +kernel)) ggX6_nth_X0_placePlayed
set_option maxRecDepth 20000 in
theorem ggX6_nth_X0_owner : GoodIn wsX6_nth wsX0_owner := goodIn_r _ [31, 13, 14, 15, 5, 16, 17, 39, 40, 41, 42, 43] (by decide +kernel) (by decide +kernel)
set_option maxRecDepth 20000 in
theorem gX6_nth_X0_owner : GoodIn wsX6_nth (wsV RX6 109 RX0 yX0_owner wsX0_owner) := goodIn_app (goodIn_of _ (by decide +kernel)) ggX6_nth_X0_owner
theorem dX6_nth_0 : decode cX6_nth 0 = .ok (.aload_n 0, 1) := by decide +kernel
theorem dX6_nth_1 : decode cX6_nth 1 = .ok (.getfield 19, 3) := by decide +kernel
theorem dX6_nth_4 : decode cX6_nth 4 = .ok (.iload_n 1, 1) := by decide +kernel
theorem dX6_nth_5 : decode cX6_nth 5 = .ok (.invokevirtual 99, 3) := by decide +kernel
theorem dX6_nth_8 : decode cX6_nth 8 = .ok (.ifCond .ne 5, 3) := by decide +kernel
theorem dX6_nth_11 : decode cX6_nth 11 = .ok (.iconst (-1), 1) := by decide +kernel
theorem dX6_nth_12 : decode cX6_nth 12 = .ok (.ireturn, 1) := by decide +kernel
theorem dX6_nth_13 : decode cX6_nth 13 = .ok (.iload_n 2, 1) := by decide +kernel
theorem dX6_nth_14 : decode cX6_nth 14 = .ok (.ifCond .lt 9, 3) := by decide +kernel
theorem dX6_nth_17 : decode cX6_nth 17 = .ok (.iload_n 2, 1) := by decide +kernel
theorem dX6_nth_18 : decode cX6_nth 18 = .ok (.bipush 9, 2) := by decide +kernel
theorem dX6_nth_20 : decode cX6_nth 20 = .ok (.if_icmp .lt 6, 3) := by decide +kernel
theorem dX6_nth_23 : decode cX6_nth 23 = .ok (.bipush (-2), 2) := by decide +kernel
theorem dX6_nth_25 : decode cX6_nth 25 = .ok (.ireturn, 1) := by decide +kernel
theorem dX6_nth_26 : decode cX6_nth 26 = .ok (.iload_n 2, 1) := by decide +kernel
theorem dX6_nth_27 : decode cX6_nth 27 = .ok (.aload_n 0, 1) := by decide +kernel
theorem dX6_nth_28 : decode cX6_nth 28 = .ok (.getfield 19, 3) := by decide +kernel
theorem dX6_nth_31 : decode cX6_nth 31 = .ok (.iload_n 1, 1) := by decide +kernel
theorem dX6_nth_32 : decode cX6_nth 32 = .ok (.invokevirtual 103, 3) := by decide +kernel
theorem dX6_nth_35 : decode cX6_nth 35 = .ok (.if_icmp .ge 23, 3) := by decide +kernel
theorem dX6_nth_38 : decode cX6_nth 38 = .ok (.aload_n 0, 1) := by decide +kernel
theorem dX6_nth_39 : decode cX6_nth 39 = .ok (.getfield 19, 3) := by decide +kernel
theorem dX6_nth_42 : decode cX6_nth 42 = .ok (.iload_n 1, 1) := by decide +kernel
theorem dX6_nth_43 : decode cX6_nth 43 = .ok (.aload_n 0, 1) := by decide +kernel
theorem dX6_nth_44 : decode cX6_nth 44 = .ok (.getfield 19, 3) := by decide +kernel
theorem dX6_nth_47 : decode cX6_nth 47 = .ok (.iload_n 1, 1) := by decide +kernel
theorem dX6_nth_48 : decode cX6_nth 48 = .ok (.iload_n 2, 1) := by decide +kernel
theorem dX6_nth_49 : decode cX6_nth 49 = .ok (.invokevirtual 162, 3) := by decide +kernel
theorem dX6_nth_52 : decode cX6_nth 52 = .ok (.invokevirtual 109, 3) := by decide +kernel
theorem dX6_nth_55 : decode cX6_nth 55 = .ok (.goto 5, 3) := by decide +kernel
theorem dX6_nth_58 : decode cX6_nth 58 = .ok (.bipush (-9), 2) := by decide +kernel
theorem dX6_nth_60 : decode cX6_nth 60 = .ok (.ireturn, 1) := by decide +kernel
set_option maxRecDepth 20000 in
theorem ggX6_waits_X0_isMan : GoodIn wsX6_waits wsX0_isMan := goodIn_r _ [6, 7, 44, 45, 46, 47, 48] (by decide +kernel) (by decide +kernel)
set_option maxRecDepth 20000 in
theorem gX6_waits_X0_isMan : GoodIn wsX6_waits (wsV RX6 116 RX0 yX0_isMan wsX0_isMan) := goodIn_app (goodIn_of _ (by decide +kernel)) ggX6_waits_X0_isMan
set_option maxRecDepth 20000 in
theorem ggX6_waits_X0_isBag : GoodIn wsX6_waits wsX0_isBag := goodIn_r _ [11, 12, 44, 45, 46, 47, 48] (by decide +kernel) (by decide +kernel)
set_option maxRecDepth 20000 in
theorem gX6_waits_X0_isBag : GoodIn wsX6_waits (wsV RX6 99 RX0 yX0_isBag wsX0_isBag) := goodIn_app (goodIn_of _ (by decide +kernel)) ggX6_waits_X0_isBag
set_option maxRecDepth 20000 in
theorem ggX6_waits_X0_breathsIn : GoodIn wsX6_waits wsX0_breathsIn := goodIn_r _ [16, 17, 9, 10, 5, 11, 12, 18, 19, 20, 21, 22, 44, 45, 46, 47, 48] (by decide +kernel) (by decide +kernel)
set_option maxRecDepth 20000 in
theorem gX6_waits_X0_breathsIn : GoodIn wsX6_waits (wsV RX6 103 RX0 yX0_breathsIn wsX0_breathsIn) := goodIn_app (goodIn_of _ (by decide +kernel)) ggX6_waits_X0_breathsIn
set_option maxRecDepth 20000 in
theorem ggX6_waits_X0_placePlayed : GoodIn wsX6_waits wsX0_placePlayed := goodIn_r _ [26, 27, 28, 29, 5, 30, 12, 31, 32, 14, 15, 16, 17, 9, 10, 11, 18, 19, 20, 21, 22, 44, 45, 46, 47, 48] (by decide +kernel) (by decide +kernel)
set_option maxRecDepth 20000 in
theorem gX6_waits_X0_placePlayed : GoodIn wsX6_waits (wsV RX6 162 RX0 yX0_placePlayed wsX0_placePlayed) := goodIn_app (goodIn_of _ (by decide +kernel)) ggX6_waits_X0_placePlayed
set_option maxRecDepth 20000 in
theorem ggX6_waits_X0_owner : GoodIn wsX6_waits wsX0_owner := goodIn_r _ [36, 18, 19, 20, 5, 21, 22, 44, 45, 46, 47, 48] (by decide +kernel) (by decide +kernel)
set_option maxRecDepth 20000 in
theorem gX6_waits_X0_owner : GoodIn wsX6_waits (wsV RX6 109 RX0 yX0_owner wsX0_owner) := goodIn_app (goodIn_of _ (by decide +kernel)) ggX6_waits_X0_owner
theorem dX6_waits_0 : decode cX6_waits 0 = .ok (.aload_n 0, 1) := by decide +kernel
