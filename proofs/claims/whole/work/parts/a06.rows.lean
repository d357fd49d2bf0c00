theorem dX7_lose_1 : decode cX7_lose 1 = .ok (.bipush 40, 2) := by decide +kernel
theorem dX7_lose_3 : decode cX7_lose 3 = .ok (.aload_n 0, 1) := by decide +kernel
theorem dX7_lose_4 : decode cX7_lose 4 = .ok (.iload_n 1, 1) := by decide +kernel
theorem dX7_lose_5 : decode cX7_lose 5 = .ok (.iload_n 2, 1) := by decide +kernel
theorem dX7_lose_6 : decode cX7_lose 6 = .ok (.invokestatic 121, 3) := by decide +kernel
theorem dX7_lose_9 : decode cX7_lose 9 = .ok (.iadd, 1) := by decide +kernel
theorem dX7_lose_10 : decode cX7_lose 10 = .ok (.dup2, 1) := by decide +kernel
theorem dX7_lose_11 : decode cX7_lose 11 = .ok (.iaload, 1) := by decide +kernel
theorem dX7_lose_12 : decode cX7_lose 12 = .ok (.iconst 1, 1) := by decide +kernel
theorem dX7_lose_13 : decode cX7_lose 13 = .ok (.iadd, 1) := by decide +kernel
theorem dX7_lose_14 : decode cX7_lose 14 = .ok (.iastore, 1) := by decide +kernel
theorem dX7_lose_15 : decode cX7_lose 15 = .ok (.aload_n 0, 1) := by decide +kernel
theorem dX7_lose_16 : decode cX7_lose 16 = .ok (.iload_n 1, 1) := by decide +kernel
theorem dX7_lose_17 : decode cX7_lose 17 = .ok (.iload_n 2, 1) := by decide +kernel
theorem dX7_lose_18 : decode cX7_lose 18 = .ok (.invokestatic 125, 3) := by decide +kernel
theorem dX7_lose_21 : decode cX7_lose 21 = .ok (.return_, 1) := by decide +kernel
set_option maxRecDepth 20000 in
theorem ggX7_breathsOf_X7_breath : GoodIn wsX7_breathsOf wsX7_breath := goodIn_r _ [4] (by decide +kernel) (by decide +kernel)
set_option maxRecDepth 20000 in
theorem gX7_breathsOf_X7_breath : GoodIn wsX7_breathsOf (va_wsS RX7 121 yX7_breath wsX7_breath) := goodIn_app (goodIn_of _ (by decide +kernel)) ggX7_breathsOf_X7_breath
theorem dX7_breathsOf_0 : decode cX7_breathsOf 0 = .ok (.iconst 0, 1) := by decide +kernel
theorem dX7_breathsOf_1 : decode cX7_breathsOf 1 = .ok (.istore_n 3, 1) := by decide +kernel
theorem dX7_breathsOf_2 : decode cX7_breathsOf 2 = .ok (.iconst 0, 1) := by decide +kernel
theorem dX7_breathsOf_3 : decode cX7_breathsOf 3 = .ok (.istore 4, 2) := by decide +kernel
theorem dX7_breathsOf_5 : decode cX7_breathsOf 5 = .ok (.iload 4, 2) := by decide +kernel
theorem dX7_breathsOf_7 : decode cX7_breathsOf 7 = .ok (.aload_n 0, 1) := by decide +kernel
theorem dX7_breathsOf_8 : decode cX7_breathsOf 8 = .ok (.iload_n 2, 1) := by decide +kernel
theorem dX7_breathsOf_9 : decode cX7_breathsOf 9 = .ok (.iaload, 1) := by decide +kernel
theorem dX7_breathsOf_10 : decode cX7_breathsOf 10 = .ok (.if_icmp .ge 28, 3) := by decide +kernel
theorem dX7_breathsOf_13 : decode cX7_breathsOf 13 = .ok (.iload_n 3, 1) := by decide +kernel
theorem dX7_breathsOf_14 : decode cX7_breathsOf 14 = .ok (.aload_n 0, 1) := by decide +kernel
theorem dX7_breathsOf_15 : decode cX7_breathsOf 15 = .ok (.iload_n 2, 1) := by decide +kernel
theorem dX7_breathsOf_16 : decode cX7_breathsOf 16 = .ok (.iload 4, 2) := by decide +kernel
theorem dX7_breathsOf_18 : decode cX7_breathsOf 18 = .ok (.invokestatic 121, 3) := by decide +kernel
theorem dX7_breathsOf_21 : decode cX7_breathsOf 21 = .ok (.iload_n 1, 1) := by decide +kernel
theorem dX7_breathsOf_22 : decode cX7_breathsOf 22 = .ok (.if_icmp .ne 7, 3) := by decide +kernel
theorem dX7_breathsOf_25 : decode cX7_breathsOf 25 = .ok (.iconst 1, 1) := by decide +kernel
theorem dX7_breathsOf_26 : decode cX7_breathsOf 26 = .ok (.goto 4, 3) := by decide +kernel
theorem dX7_breathsOf_29 : decode cX7_breathsOf 29 = .ok (.iconst 0, 1) := by decide +kernel
theorem dX7_breathsOf_30 : decode cX7_breathsOf 30 = .ok (.iadd, 1) := by decide +kernel
theorem dX7_breathsOf_31 : decode cX7_breathsOf 31 = .ok (.istore_n 3, 1) := by decide +kernel
theorem dX7_breathsOf_32 : decode cX7_breathsOf 32 = .ok (.iinc 4 1, 3) := by decide +kernel
theorem dX7_breathsOf_35 : decode cX7_breathsOf 35 = .ok (.goto (-30), 3) := by decide +kernel
theorem dX7_breathsOf_38 : decode cX7_breathsOf 38 = .ok (.iload_n 3, 1) := by decide +kernel
theorem dX7_breathsOf_39 : decode cX7_breathsOf 39 = .ok (.ireturn, 1) := by decide +kernel
set_option maxRecDepth 20000 in
theorem ggX7_allOf_X7_breathsOf : GoodIn wsX7_allOf wsX7_breathsOf := goodIn_r _ [4, 5, 6, 3, 7] (by decide +kernel) (by decide +kernel)
set_option maxRecDepth 20000 in
theorem gX7_allOf_X7_breathsOf : GoodIn wsX7_allOf (va_wsS RX7 128 yX7_breathsOf wsX7_breathsOf) := goodIn_app (goodIn_of _ (by decide +kernel)) ggX7_allOf_X7_breathsOf
theorem dX7_allOf_0 : decode cX7_allOf 0 = .ok (.aload_n 0, 1) := by decide +kernel
theorem dX7_allOf_1 : decode cX7_allOf 1 = .ok (.iload_n 1, 1) := by decide +kernel
theorem dX7_allOf_2 : decode cX7_allOf 2 = .ok (.iconst 0, 1) := by decide +kernel
theorem dX7_allOf_3 : decode cX7_allOf 3 = .ok (.invokestatic 128, 3) := by decide +kernel
theorem dX7_allOf_6 : decode cX7_allOf 6 = .ok (.aload_n 0, 1) := by decide +kernel
theorem dX7_allOf_7 : decode cX7_allOf 7 = .ok (.iload_n 1, 1) := by decide +kernel
theorem dX7_allOf_8 : decode cX7_allOf 8 = .ok (.iconst 1, 1) := by decide +kernel
theorem dX7_allOf_9 : decode cX7_allOf 9 = .ok (.invokestatic 128, 3) := by decide +kernel
theorem dX7_allOf_12 : decode cX7_allOf 12 = .ok (.iadd, 1) := by decide +kernel
theorem dX7_allOf_13 : decode cX7_allOf 13 = .ok (.aload_n 0, 1) := by decide +kernel
theorem dX7_allOf_14 : decode cX7_allOf 14 = .ok (.iload_n 1, 1) := by decide +kernel
theorem dX7_allOf_15 : decode cX7_allOf 15 = .ok (.iconst 2, 1) := by decide +kernel
theorem dX7_allOf_16 : decode cX7_allOf 16 = .ok (.invokestatic 128, 3) := by decide +kernel
theorem dX7_allOf_19 : decode cX7_allOf 19 = .ok (.iadd, 1) := by decide +kernel
theorem dX7_allOf_20 : decode cX7_allOf 20 = .ok (.ireturn, 1) := by decide +kernel
set_option maxRecDepth 20000 in
theorem ggX7_left_X7_has : GoodIn wsX7_left wsX7_has := goodIn_r _ [5] (by decide +kernel) (by decide +kernel)
set_option maxRecDepth 20000 in
theorem gX7_left_X7_has : GoodIn wsX7_left (va_wsS RX7 131 yX7_has wsX7_has) := goodIn_app (goodIn_of _ (by decide +kernel)) ggX7_left_X7_has
set_option maxRecDepth 20000 in
theorem ggX7_left_X7_allOf : GoodIn wsX7_left wsX7_allOf := goodIn_r _ [8, 9, 10, 4, 11, 12, 13, 14] (by decide +kernel) (by decide +kernel)
set_option maxRecDepth 20000 in
theorem gX7_left_X7_allOf : GoodIn wsX7_left (va_wsS RX7 135 yX7_allOf wsX7_allOf) := goodIn_app (goodIn_of _ (by decide +kernel)) ggX7_left_X7_allOf
theorem dX7_left_0 : decode cX7_left 0 = .ok (.iconst 0, 1) := by decide +kernel
theorem dX7_left_1 : decode cX7_left 1 = .ok (.istore_n 2, 1) := by decide +kernel
theorem dX7_left_2 : decode cX7_left 2 = .ok (.iconst 0, 1) := by decide +kernel
theorem dX7_left_3 : decode cX7_left 3 = .ok (.istore_n 3, 1) := by decide +kernel
theorem dX7_left_4 : decode cX7_left 4 = .ok (.iload_n 3, 1) := by decide +kernel
theorem dX7_left_5 : decode cX7_left 5 = .ok (.aload_n 0, 1) := by decide +kernel
theorem dX7_left_6 : decode cX7_left 6 = .ok (.getfield 73, 3) := by decide +kernel
theorem dX7_left_9 : decode cX7_left 9 = .ok (.if_icmp .ge 32, 3) := by decide +kernel
theorem dX7_left_12 : decode cX7_left 12 = .ok (.iload_n 2, 1) := by decide +kernel
theorem dX7_left_13 : decode cX7_left 13 = .ok (.aload_n 1, 1) := by decide +kernel
theorem dX7_left_14 : decode cX7_left 14 = .ok (.bipush 45, 2) := by decide +kernel
theorem dX7_left_16 : decode cX7_left 16 = .ok (.iaload, 1) := by decide +kernel
theorem dX7_left_17 : decode cX7_left 17 = .ok (.iload_n 3, 1) := by decide +kernel
theorem dX7_left_18 : decode cX7_left 18 = .ok (.invokestatic 131, 3) := by decide +kernel
theorem dX7_left_21 : decode cX7_left 21 = .ok (.ifCond .eq 11, 3) := by decide +kernel
theorem dX7_left_24 : decode cX7_left 24 = .ok (.aload_n 1, 1) := by decide +kernel
theorem dX7_left_25 : decode cX7_left 25 = .ok (.iload_n 3, 1) := by decide +kernel
theorem dX7_left_26 : decode cX7_left 26 = .ok (.invokestatic 135, 3) := by decide +kernel
theorem dX7_left_29 : decode cX7_left 29 = .ok (.goto 4, 3) := by decide +kernel
theorem dX7_left_32 : decode cX7_left 32 = .ok (.iconst 0, 1) := by decide +kernel
theorem dX7_left_33 : decode cX7_left 33 = .ok (.iadd, 1) := by decide +kernel
theorem dX7_left_34 : decode cX7_left 34 = .ok (.istore_n 2, 1) := by decide +kernel
theorem dX7_left_35 : decode cX7_left 35 = .ok (.iinc 3 1, 3) := by decide +kernel
theorem dX7_left_38 : decode cX7_left 38 = .ok (.goto (-34), 3) := by decide +kernel
theorem dX7_left_41 : decode cX7_left 41 = .ok (.iload_n 2, 1) := by decide +kernel
theorem dX7_left_42 : decode cX7_left 42 = .ok (.ireturn, 1) := by decide +kernel
theorem dX7_sum_0 : decode cX7_sum 0 = .ok (.iconst 0, 1) := by decide +kernel
theorem dX7_sum_1 : decode cX7_sum 1 = .ok (.istore_n 2, 1) := by decide +kernel
theorem dX7_sum_2 : decode cX7_sum 2 = .ok (.iconst 0, 1) := by decide +kernel
theorem dX7_sum_3 : decode cX7_sum 3 = .ok (.istore_n 3, 1) := by decide +kernel
theorem dX7_sum_4 : decode cX7_sum 4 = .ok (.iload_n 3, 1) := by decide +kernel
theorem dX7_sum_5 : decode cX7_sum 5 = .ok (.aload_n 0, 1) := by decide +kernel
theorem dX7_sum_6 : decode cX7_sum 6 = .ok (.getfield 73, 3) := by decide +kernel
theorem dX7_sum_9 : decode cX7_sum 9 = .ok (.if_icmp .ge 20, 3) := by decide +kernel
theorem dX7_sum_12 : decode cX7_sum 12 = .ok (.iload_n 2, 1) := by decide +kernel
theorem dX7_sum_13 : decode cX7_sum 13 = .ok (.aload_n 0, 1) := by decide +kernel
theorem dX7_sum_14 : decode cX7_sum 14 = .ok (.getfield 28, 3) := by decide +kernel
theorem dX7_sum_17 : decode cX7_sum 17 = .ok (.iload_n 1, 1) := by decide +kernel
theorem dX7_sum_18 : decode cX7_sum 18 = .ok (.iload_n 3, 1) := by decide +kernel
theorem dX7_sum_19 : decode cX7_sum 19 = .ok (.iadd, 1) := by decide +kernel
theorem dX7_sum_20 : decode cX7_sum 20 = .ok (.iaload, 1) := by decide +kernel
theorem dX7_sum_21 : decode cX7_sum 21 = .ok (.iadd, 1) := by decide +kernel
theorem dX7_sum_22 : decode cX7_sum 22 = .ok (.istore_n 2, 1) := by decide +kernel
theorem dX7_sum_23 : decode cX7_sum 23 = .ok (.iinc 3 1, 3) := by decide +kernel
theorem dX7_sum_26 : decode cX7_sum 26 = .ok (.goto (-22), 3) := by decide +kernel
theorem dX7_sum_29 : decode cX7_sum 29 = .ok (.iload_n 2, 1) := by decide +kernel
theorem dX7_sum_30 : decode cX7_sum 30 = .ok (.ireturn, 1) := by decide +kernel
theorem dX7_inAll_0 : decode cX7_inAll 0 = .ok (.aload_n 0, 1) := by decide +kernel
theorem dX7_inAll_1 : decode cX7_inAll 1 = .ok (.iconst 0, 1) := by decide +kernel
theorem dX7_inAll_2 : decode cX7_inAll 2 = .ok (.iaload, 1) := by decide +kernel
theorem dX7_inAll_3 : decode cX7_inAll 3 = .ok (.aload_n 0, 1) := by decide +kernel
theorem dX7_inAll_4 : decode cX7_inAll 4 = .ok (.iconst 1, 1) := by decide +kernel
theorem dX7_inAll_5 : decode cX7_inAll 5 = .ok (.iaload, 1) := by decide +kernel
theorem dX7_inAll_6 : decode cX7_inAll 6 = .ok (.iadd, 1) := by decide +kernel
theorem dX7_inAll_7 : decode cX7_inAll 7 = .ok (.aload_n 0, 1) := by decide +kernel
theorem dX7_inAll_8 : decode cX7_inAll 8 = .ok (.iconst 2, 1) := by decide +kernel
theorem dX7_inAll_9 : decode cX7_inAll 9 = .ok (.iaload, 1) := by decide +kernel
theorem dX7_inAll_10 : decode cX7_inAll 10 = .ok (.iadd, 1) := by decide +kernel
theorem dX7_inAll_11 : decode cX7_inAll 11 = .ok (.ireturn, 1) := by decide +kernel
set_option maxRecDepth 20000 in
theorem ggX7_play_X7_placeOf : GoodIn wsX7_play wsX7_placeOf := goodIn_r _ [5] (by decide +kernel) (by decide +kernel)
set_option maxRecDepth 20000 in
theorem gX7_play_X7_placeOf : GoodIn wsX7_play (va_wsS RX7 139 yX7_placeOf wsX7_placeOf) := goodIn_app (goodIn_of _ (by decide +kernel)) ggX7_play_X7_placeOf
set_option maxRecDepth 20000 in
theorem ggX7_play_X7_lose : GoodIn wsX7_play wsX7_lose := goodIn_r _ [8, 9, 10, 4, 11, 12, 13, 14] (by decide +kernel) (by decide +kernel)
set_option maxRecDepth 20000 in
theorem gX7_play_X7_lose : GoodIn wsX7_play (va_wsS RX7 143 yX7_lose wsX7_lose) := goodIn_app (goodIn_of _ (by decide +kernel)) ggX7_play_X7_lose
theorem dX7_play_0 : decode cX7_play 0 = .ok (.iconst 0, 1) := by decide +kernel
theorem dX7_play_1 : decode cX7_play 1 = .ok (.istore 4, 2) := by decide +kernel
theorem dX7_play_3 : decode cX7_play 3 = .ok (.iload 4, 2) := by decide +kernel
theorem dX7_play_5 : decode cX7_play 5 = .ok (.iload_n 3, 1) := by decide +kernel
theorem dX7_play_6 : decode cX7_play 6 = .ok (.if_icmp .ge 27, 3) := by decide +kernel
theorem dX7_play_9 : decode cX7_play 9 = .ok (.aload_n 1, 1) := by decide +kernel
theorem dX7_play_10 : decode cX7_play 10 = .ok (.iload_n 2, 1) := by decide +kernel
theorem dX7_play_11 : decode cX7_play 11 = .ok (.aload_n 1, 1) := by decide +kernel
theorem dX7_play_12 : decode cX7_play 12 = .ok (.iload_n 2, 1) := by decide +kernel
theorem dX7_play_13 : decode cX7_play 13 = .ok (.iaload, 1) := by decide +kernel
theorem dX7_play_14 : decode cX7_play 14 = .ok (.aload_n 0, 1) := by decide +kernel
theorem dX7_play_15 : decode cX7_play 15 = .ok (.getfield 13, 3) := by decide +kernel
theorem dX7_play_18 : decode cX7_play 18 = .ok (.iload_n 2, 1) := by decide +kernel
theorem dX7_play_19 : decode cX7_play 19 = .ok (.iaload, 1) := by decide +kernel
theorem dX7_play_20 : decode cX7_play 20 = .ok (.iconst 0, 1) := by decide +kernel
theorem dX7_play_21 : decode cX7_play 21 = .ok (.invokestatic 139, 3) := by decide +kernel
theorem dX7_play_24 : decode cX7_play 24 = .ok (.invokestatic 143, 3) := by decide +kernel
theorem dX7_play_27 : decode cX7_play 27 = .ok (.iinc 4 1, 3) := by decide +kernel
theorem dX7_play_30 : decode cX7_play 30 = .ok (.goto (-27), 3) := by decide +kernel
theorem dX7_play_33 : decode cX7_play 33 = .ok (.return_, 1) := by decide +kernel
set_option maxRecDepth 20000 in
theorem ggX7_sunday_X7_has : GoodIn wsX7_sunday wsX7_has := goodIn_r _ [6] (by decide +kernel) (by decide +kernel)
set_option maxRecDepth 20000 in
theorem gX7_sunday_X7_has : GoodIn wsX7_sunday (va_wsS RX7 131 yX7_has wsX7_has) := goodIn_app (goodIn_of _ (by decide +kernel)) ggX7_sunday_X7_has
theorem dX7_sunday_0 : decode cX7_sunday 0 = .ok (.iconst 0, 1) := by decide +kernel
theorem dX7_sunday_1 : decode cX7_sunday 1 = .ok (.istore_n 2, 1) := by decide +kernel
theorem dX7_sunday_2 : decode cX7_sunday 2 = .ok (.iload_n 2, 1) := by decide +kernel
theorem dX7_sunday_3 : decode cX7_sunday 3 = .ok (.aload_n 0, 1) := by decide +kernel
theorem dX7_sunday_4 : decode cX7_sunday 4 = .ok (.getfield 73, 3) := by decide +kernel
theorem dX7_sunday_7 : decode cX7_sunday 7 = .ok (.if_icmp .ge 110, 3) := by decide +kernel
theorem dX7_sunday_10 : decode cX7_sunday 10 = .ok (.aload_n 1, 1) := by decide +kernel
theorem dX7_sunday_11 : decode cX7_sunday 11 = .ok (.bipush 45, 2) := by decide +kernel
theorem dX7_sunday_13 : decode cX7_sunday 13 = .ok (.iaload, 1) := by decide +kernel
theorem dX7_sunday_14 : decode cX7_sunday 14 = .ok (.iload_n 2, 1) := by decide +kernel
theorem dX7_sunday_15 : decode cX7_sunday 15 = .ok (.invokestatic 131, 3) := by decide +kernel
theorem dX7_sunday_18 : decode cX7_sunday 18 = .ok (.ifCond .ne 93, 3) := by decide +kernel
theorem dX7_sunday_21 : decode cX7_sunday 21 = .ok (.aload_n 1, 1) := by decide +kernel
theorem dX7_sunday_22 : decode cX7_sunday 22 = .ok (.bipush 30, 2) := by decide +kernel
theorem dX7_sunday_24 : decode cX7_sunday 24 = .ok (.iload_n 2, 1) := by decide +kernel
theorem dX7_sunday_25 : decode cX7_sunday 25 = .ok (.iadd, 1) := by decide +kernel
theorem dX7_sunday_26 : decode cX7_sunday 26 = .ok (.iaload, 1) := by decide +kernel
theorem dX7_sunday_27 : decode cX7_sunday 27 = .ok (.aload_n 0, 1) := by decide +kernel
theorem dX7_sunday_28 : decode cX7_sunday 28 = .ok (.getfield 16, 3) := by decide +kernel
theorem dX7_sunday_31 : decode cX7_sunday 31 = .ok (.iload_n 2, 1) := by decide +kernel
theorem dX7_sunday_32 : decode cX7_sunday 32 = .ok (.iaload, 1) := by decide +kernel
theorem dX7_sunday_33 : decode cX7_sunday 33 = .ok (.iconst 1, 1) := by decide +kernel
theorem dX7_sunday_34 : decode cX7_sunday 34 = .ok (.if_icmp .ne 7, 3) := by decide +kernel
theorem dX7_sunday_37 : decode cX7_sunday 37 = .ok (.iconst 2, 1) := by decide +kernel
theorem dX7_sunday_38 : decode cX7_sunday 38 = .ok (.goto 4, 3) := by decide +kernel
theorem dX7_sunday_41 : decode cX7_sunday 41 = .ok (.iconst 1, 1) := by decide +kernel
theorem dX7_sunday_42 : decode cX7_sunday 42 = .ok (.if_icmp .lt 7, 3) := by decide +kernel
theorem dX7_sunday_45 : decode cX7_sunday 45 = .ok (.iconst 1, 1) := by decide +kernel
theorem dX7_sunday_46 : decode cX7_sunday 46 = .ok (.goto 4, 3) := by decide +kernel
theorem dX7_sunday_49 : decode cX7_sunday 49 = .ok (.iconst 0, 1) := by decide +kernel
theorem dX7_sunday_50 : decode cX7_sunday 50 = .ok (.istore_n 3, 1) := by decide +kernel
theorem dX7_sunday_51 : decode cX7_sunday 51 = .ok (.aload_n 1, 1) := by decide +kernel
theorem dX7_sunday_52 : decode cX7_sunday 52 = .ok (.bipush 30, 2) := by decide +kernel
theorem dX7_sunday_54 : decode cX7_sunday 54 = .ok (.iload_n 2, 1) := by decide +kernel
theorem dX7_sunday_55 : decode cX7_sunday 55 = .ok (.iadd, 1) := by decide +kernel
theorem dX7_sunday_56 : decode cX7_sunday 56 = .ok (.dup2, 1) := by decide +kernel
theorem dX7_sunday_57 : decode cX7_sunday 57 = .ok (.iaload, 1) := by decide +kernel
theorem dX7_sunday_58 : decode cX7_sunday 58 = .ok (.iload_n 3, 1) := by decide +kernel
theorem dX7_sunday_59 : decode cX7_sunday 59 = .ok (.ifCond .eq 7, 3) := by decide +kernel
theorem dX7_sunday_62 : decode cX7_sunday 62 = .ok (.iconst 1, 1) := by decide +kernel
theorem dX7_sunday_63 : decode cX7_sunday 63 = .ok (.goto 4, 3) := by decide +kernel
theorem dX7_sunday_66 : decode cX7_sunday 66 = .ok (.iconst 0, 1) := by decide +kernel
theorem dX7_sunday_67 : decode cX7_sunday 67 = .ok (.isub, 1) := by decide +kernel
theorem dX7_sunday_68 : decode cX7_sunday 68 = .ok (.iastore, 1) := by decide +kernel
theorem dX7_sunday_69 : decode cX7_sunday 69 = .ok (.aload_n 1, 1) := by decide +kernel
theorem dX7_sunday_70 : decode cX7_sunday 70 = .ok (.bipush 35, 2) := by decide +kernel
theorem dX7_sunday_72 : decode cX7_sunday 72 = .ok (.iload_n 2, 1) := by decide +kernel
theorem dX7_sunday_73 : decode cX7_sunday 73 = .ok (.iadd, 1) := by decide +kernel
theorem dX7_sunday_74 : decode cX7_sunday 74 = .ok (.dup2, 1) := by decide +kernel
theorem dX7_sunday_75 : decode cX7_sunday 75 = .ok (.iaload, 1) := by decide +kernel
theorem dX7_sunday_76 : decode cX7_sunday 76 = .ok (.iload_n 3, 1) := by decide +kernel
theorem dX7_sunday_77 : decode cX7_sunday 77 = .ok (.ifCond .ne 13, 3) := by decide +kernel
theorem dX7_sunday_80 : decode cX7_sunday 80 = .ok (.aload_n 0, 1) := by decide +kernel
theorem dX7_sunday_81 : decode cX7_sunday 81 = .ok (.getfield 16, 3) := by decide +kernel
theorem dX7_sunday_84 : decode cX7_sunday 84 = .ok (.iload_n 2, 1) := by decide +kernel
theorem dX7_sunday_85 : decode cX7_sunday 85 = .ok (.iaload, 1) := by decide +kernel
theorem dX7_sunday_86 : decode cX7_sunday 86 = .ok (.iconst 3, 1) := by decide +kernel
theorem dX7_sunday_87 : decode cX7_sunday 87 = .ok (.if_icmp .ne 7, 3) := by decide +kernel
theorem dX7_sunday_90 : decode cX7_sunday 90 = .ok (.iconst 0, 1) := by decide +kernel
theorem dX7_sunday_91 : decode cX7_sunday 91 = .ok (.goto 18, 3) := by decide +kernel
theorem dX7_sunday_94 : decode cX7_sunday 94 = .ok (.aload_n 0, 1) := by decide +kernel
theorem dX7_sunday_95 : decode cX7_sunday 95 = .ok (.getfield 16, 3) := by decide +kernel
theorem dX7_sunday_98 : decode cX7_sunday 98 = .ok (.iload_n 2, 1) := by decide +kernel
theorem dX7_sunday_99 : decode cX7_sunday 99 = .ok (.iaload, 1) := by decide +kernel
theorem dX7_sunday_100 : decode cX7_sunday 100 = .ok (.iconst 2, 1) := by decide +kernel
theorem dX7_sunday_101 : decode cX7_sunday 101 = .ok (.if_icmp .ne 7, 3) := by decide +kernel
theorem dX7_sunday_104 : decode cX7_sunday 104 = .ok (.iconst 2, 1) := by decide +kernel
theorem dX7_sunday_105 : decode cX7_sunday 105 = .ok (.goto 4, 3) := by decide +kernel
theorem dX7_sunday_108 : decode cX7_sunday 108 = .ok (.iconst 1, 1) := by decide +kernel
theorem dX7_sunday_109 : decode cX7_sunday 109 = .ok (.iadd, 1) := by decide +kernel
theorem dX7_sunday_110 : decode cX7_sunday 110 = .ok (.iastore, 1) := by decide +kernel
theorem dX7_sunday_111 : decode cX7_sunday 111 = .ok (.iinc 2 1, 3) := by decide +kernel
theorem dX7_sunday_114 : decode cX7_sunday 114 = .ok (.goto (-112), 3) := by decide +kernel
theorem dX7_sunday_117 : decode cX7_sunday 117 = .ok (.return_, 1) := by decide +kernel
set_option maxRecDepth 20000 in
theorem ggX7_goDay_X7_lose : GoodIn wsX7_goDay wsX7_lose := goodIn_r _ [6, 7, 8, 5, 9, 10, 11, 12] (by decide +kernel) (by decide +kernel)
set_option maxRecDepth 20000 in
theorem gX7_goDay_X7_lose : GoodIn wsX7_goDay (va_wsS RX7 143 yX7_lose wsX7_lose) := goodIn_app (goodIn_of _ (by decide +kernel)) ggX7_goDay_X7_lose
set_option maxRecDepth 20000 in
theorem ggX7_goDay_X7_sunday : GoodIn wsX7_goDay wsX7_sunday := goodIn_r _ [16, 17, 18, 19, 20, 5, 21, 22, 23, 24, 25, 26, 27, 28, 29, 30, 31, 32, 33, 34, 35, 36, 37, 38, 39, 40, 41, 42, 43, 44, 45, 46, 47, 48, 49, 50, 51, 52, 53, 54] (by decide +kernel) (by decide +kernel)
set_option maxRecDepth 20000 in
theorem gX7_goDay_X7_sunday : GoodIn wsX7_goDay (wsV RX7 146 RX7 yX7_sunday wsX7_sunday) := goodIn_app (goodIn_of _ (by decide +kernel)) ggX7_goDay_X7_sunday
theorem dX7_goDay_0 : decode cX7_goDay 0 = .ok (.iconst 0, 1) := by decide +kernel
theorem dX7_goDay_1 : decode cX7_goDay 1 = .ok (.istore_n 2, 1) := by decide +kernel
theorem dX7_goDay_2 : decode cX7_goDay 2 = .ok (.iconst 0, 1) := by decide +kernel
theorem dX7_goDay_3 : decode cX7_goDay 3 = .ok (.istore_n 3, 1) := by decide +kernel
theorem dX7_goDay_4 : decode cX7_goDay 4 = .ok (.iload_n 3, 1) := by decide +kernel
theorem dX7_goDay_5 : decode cX7_goDay 5 = .ok (.aload_n 0, 1) := by decide +kernel
theorem dX7_goDay_6 : decode cX7_goDay 6 = .ok (.getfield 66, 3) := by decide +kernel
theorem dX7_goDay_9 : decode cX7_goDay 9 = .ok (.if_icmp .ge 34, 3) := by decide +kernel
theorem dX7_goDay_12 : decode cX7_goDay 12 = .ok (.aload_n 0, 1) := by decide +kernel
theorem dX7_goDay_13 : decode cX7_goDay 13 = .ok (.getfield 13, 3) := by decide +kernel
theorem dX7_goDay_16 : decode cX7_goDay 16 = .ok (.iload_n 3, 1) := by decide +kernel
theorem dX7_goDay_17 : decode cX7_goDay 17 = .ok (.iaload, 1) := by decide +kernel
theorem dX7_goDay_18 : decode cX7_goDay 18 = .ok (.iconst 2, 1) := by decide +kernel
theorem dX7_goDay_19 : decode cX7_goDay 19 = .ok (.if_icmp .ne 18, 3) := by decide +kernel
theorem dX7_goDay_22 : decode cX7_goDay 22 = .ok (.aload_n 1, 1) := by decide +kernel
theorem dX7_goDay_23 : decode cX7_goDay 23 = .ok (.iload_n 3, 1) := by decide +kernel
theorem dX7_goDay_24 : decode cX7_goDay 24 = .ok (.iaload, 1) := by decide +kernel
theorem dX7_goDay_25 : decode cX7_goDay 25 = .ok (.ifCond .le 12, 3) := by decide +kernel
theorem dX7_goDay_28 : decode cX7_goDay 28 = .ok (.aload_n 1, 1) := by decide +kernel
theorem dX7_goDay_29 : decode cX7_goDay 29 = .ok (.iload_n 3, 1) := by decide +kernel
theorem dX7_goDay_30 : decode cX7_goDay 30 = .ok (.iconst 0, 1) := by decide +kernel
theorem dX7_goDay_31 : decode cX7_goDay 31 = .ok (.invokestatic 143, 3) := by decide +kernel
theorem dX7_goDay_34 : decode cX7_goDay 34 = .ok (.iinc 2 1, 3) := by decide +kernel
theorem dX7_goDay_37 : decode cX7_goDay 37 = .ok (.iinc 3 1, 3) := by decide +kernel
theorem dX7_goDay_40 : decode cX7_goDay 40 = .ok (.goto (-36), 3) := by decide +kernel
theorem dX7_goDay_43 : decode cX7_goDay 43 = .ok (.aload_n 1, 1) := by decide +kernel
theorem dX7_goDay_44 : decode cX7_goDay 44 = .ok (.bipush 46, 2) := by decide +kernel
theorem dX7_goDay_46 : decode cX7_goDay 46 = .ok (.iaload, 1) := by decide +kernel
theorem dX7_goDay_47 : decode cX7_goDay 47 = .ok (.bipush 7, 2) := by decide +kernel
theorem dX7_goDay_49 : decode cX7_goDay 49 = .ok (.irem, 1) := by decide +kernel
theorem dX7_goDay_50 : decode cX7_goDay 50 = .ok (.bipush 6, 2) := by decide +kernel
theorem dX7_goDay_52 : decode cX7_goDay 52 = .ok (.if_icmp .ne 8, 3) := by decide +kernel
theorem dX7_goDay_55 : decode cX7_goDay 55 = .ok (.aload_n 0, 1) := by decide +kernel
theorem dX7_goDay_56 : decode cX7_goDay 56 = .ok (.aload_n 1, 1) := by decide +kernel
theorem dX7_goDay_57 : decode cX7_goDay 57 = .ok (.invokevirtual 146, 3) := by decide +kernel
theorem dX7_goDay_60 : decode cX7_goDay 60 = .ok (.aload_n 1, 1) := by decide +kernel
theorem dX7_goDay_61 : decode cX7_goDay 61 = .ok (.bipush 46, 2) := by decide +kernel
theorem dX7_goDay_63 : decode cX7_goDay 63 = .ok (.dup2, 1) := by decide +kernel
theorem dX7_goDay_64 : decode cX7_goDay 64 = .ok (.iaload, 1) := by decide +kernel
theorem dX7_goDay_65 : decode cX7_goDay 65 = .ok (.iconst 1, 1) := by decide +kernel
theorem dX7_goDay_66 : decode cX7_goDay 66 = .ok (.iadd, 1) := by decide +kernel
theorem dX7_goDay_67 : decode cX7_goDay 67 = .ok (.iastore, 1) := by decide +kernel
theorem dX7_goDay_68 : decode cX7_goDay 68 = .ok (.iload_n 2, 1) := by decide +kernel
theorem dX7_goDay_69 : decode cX7_goDay 69 = .ok (.ireturn, 1) := by decide +kernel
set_option maxRecDepth 20000 in
theorem ggX7_about_X7_inAll : GoodIn wsX7_about wsX7_inAll := goodIn_r _ [11] (by decide +kernel) (by decide +kernel)
set_option maxRecDepth 20000 in
theorem gX7_about_X7_inAll : GoodIn wsX7_about (va_wsS RX7 150 yX7_inAll wsX7_inAll) := goodIn_app (goodIn_of _ (by decide +kernel)) ggX7_about_X7_inAll
set_option maxRecDepth 20000 in
theorem ggX7_about_X7_sum : GoodIn wsX7_about wsX7_sum := goodIn_r _ [15, 3, 4, 32, 33, 34, 35, 36, 37, 38, 39, 40, 41, 42, 43, 44, 45, 46, 47, 48, 49, 50, 51, 52, 53, 54, 55, 56, 57, 58, 59, 60, 61, 62, 63, 64] (by decide +kernel) (by decide +kernel)
set_option maxRecDepth 20000 in
theorem gX7_about_X7_sum : GoodIn wsX7_about (wsV RX7 154 RX7 yX7_sum wsX7_sum) := goodIn_app (goodIn_of _ (by decide +kernel)) ggX7_about_X7_sum
set_option maxRecDepth 20000 in
theorem ggX7_about_X7_left : GoodIn wsX7_about wsX7_left := goodIn_r _ [19, 3, 20, 21, 10, 22, 23, 24, 25, 26, 27, 28, 29, 30, 31, 32, 33, 34, 35, 36, 37, 38, 39, 40, 41, 42, 43, 44, 45, 46, 47, 48, 49, 50, 51, 52, 53, 54, 55, 56, 57, 58, 59, 60, 61, 62, 63, 64] (by decide +kernel) (by decide +kernel)
set_option maxRecDepth 20000 in
theorem gX7_about_X7_left : GoodIn wsX7_about (wsV RX7 157 RX7 yX7_left wsX7_left) := goodIn_app (goodIn_of _ (by decide +kernel)) ggX7_about_X7_left
theorem dX7_about_0 : decode cX7_about 0 = .ok (.aload_n 0, 1) := by decide +kernel
theorem dX7_about_1 : decode cX7_about 1 = .ok (.iconst 0, 1) := by decide +kernel
theorem dX7_about_2 : decode cX7_about 2 = .ok (.putfield 62, 3) := by decide +kernel
theorem dX7_about_5 : decode cX7_about 5 = .ok (.iload_n 1, 1) := by decide +kernel
theorem dX7_about_6 : decode cX7_about 6 = .ok (.tableswitch 141 0 11 #[62, 67, 72, 80, 88, 95, 103, 112, 119, 126, 131, 136], 62) := by decide +kernel
theorem dX7_about_68 : decode cX7_about 68 = .ok (.aload_n 0, 1) := by decide +kernel
theorem dX7_about_69 : decode cX7_about 69 = .ok (.getfield 66, 3) := by decide +kernel
theorem dX7_about_72 : decode cX7_about 72 = .ok (.ireturn, 1) := by decide +kernel
theorem dX7_about_73 : decode cX7_about 73 = .ok (.aload_n 0, 1) := by decide +kernel
theorem dX7_about_74 : decode cX7_about 74 = .ok (.getfield 73, 3) := by decide +kernel
theorem dX7_about_77 : decode cX7_about 77 = .ok (.ireturn, 1) := by decide +kernel
theorem dX7_about_78 : decode cX7_about 78 = .ok (.aload_n 0, 1) := by decide +kernel
theorem dX7_about_79 : decode cX7_about 79 = .ok (.getfield 28, 3) := by decide +kernel
theorem dX7_about_82 : decode cX7_about 82 = .ok (.bipush 46, 2) := by decide +kernel
theorem dX7_about_84 : decode cX7_about 84 = .ok (.iaload, 1) := by decide +kernel
theorem dX7_about_85 : decode cX7_about 85 = .ok (.ireturn, 1) := by decide +kernel
theorem dX7_about_86 : decode cX7_about 86 = .ok (.aload_n 0, 1) := by decide +kernel
theorem dX7_about_87 : decode cX7_about 87 = .ok (.getfield 28, 3) := by decide +kernel
theorem dX7_about_90 : decode cX7_about 90 = .ok (.invokestatic 150, 3) := by decide +kernel
theorem dX7_about_93 : decode cX7_about 93 = .ok (.ireturn, 1) := by decide +kernel
theorem dX7_about_94 : decode cX7_about 94 = .ok (.aload_n 0, 1) := by decide +kernel
theorem dX7_about_95 : decode cX7_about 95 = .ok (.bipush 40, 2) := by decide +kernel
theorem dX7_about_97 : decode cX7_about 97 = .ok (.invokevirtual 154, 3) := by decide +kernel
theorem dX7_about_100 : decode cX7_about 100 = .ok (.ireturn, 1) := by decide +kernel
theorem dX7_about_101 : decode cX7_about 101 = .ok (.aload_n 0, 1) := by decide +kernel
theorem dX7_about_102 : decode cX7_about 102 = .ok (.getfield 28, 3) := by decide +kernel
theorem dX7_about_105 : decode cX7_about 105 = .ok (.bipush 45, 2) := by decide +kernel
theorem dX7_about_107 : decode cX7_about 107 = .ok (.iaload, 1) := by decide +kernel
theorem dX7_about_108 : decode cX7_about 108 = .ok (.ireturn, 1) := by decide +kernel
theorem dX7_about_109 : decode cX7_about 109 = .ok (.aload_n 0, 1) := by decide +kernel
theorem dX7_about_110 : decode cX7_about 110 = .ok (.aload_n 0, 1) := by decide +kernel
theorem dX7_about_111 : decode cX7_about 111 = .ok (.getfield 28, 3) := by decide +kernel
theorem dX7_about_114 : decode cX7_about 114 = .ok (.invokevirtual 157, 3) := by decide +kernel
theorem dX7_about_117 : decode cX7_about 117 = .ok (.ireturn, 1) := by decide +kernel
theorem dX7_about_118 : decode cX7_about 118 = .ok (.aload_n 0, 1) := by decide +kernel
theorem dX7_about_119 : decode cX7_about 119 = .ok (.bipush 30, 2) := by decide +kernel
theorem dX7_about_121 : decode cX7_about 121 = .ok (.invokevirtual 154, 3) := by decide +kernel
theorem dX7_about_124 : decode cX7_about 124 = .ok (.ireturn, 1) := by decide +kernel
theorem dX7_about_125 : decode cX7_about 125 = .ok (.aload_n 0, 1) := by decide +kernel
theorem dX7_about_126 : decode cX7_about 126 = .ok (.bipush 35, 2) := by decide +kernel
theorem dX7_about_128 : decode cX7_about 128 = .ok (.invokevirtual 154, 3) := by decide +kernel
theorem dX7_about_131 : decode cX7_about 131 = .ok (.ireturn, 1) := by decide +kernel
theorem dX7_about_132 : decode cX7_about 132 = .ok (.aload_n 0, 1) := by decide +kernel
theorem dX7_about_133 : decode cX7_about 133 = .ok (.getfield 118, 3) := by decide +kernel
theorem dX7_about_136 : decode cX7_about 136 = .ok (.ireturn, 1) := by decide +kernel
theorem dX7_about_137 : decode cX7_about 137 = .ok (.aload_n 0, 1) := by decide +kernel
theorem dX7_about_138 : decode cX7_about 138 = .ok (.getfield 160, 3) := by decide +kernel
theorem dX7_about_141 : decode cX7_about 141 = .ok (.ireturn, 1) := by decide +kernel
theorem dX7_about_142 : decode cX7_about 142 = .ok (.aload_n 0, 1) := by decide +kernel
theorem dX7_about_143 : decode cX7_about 143 = .ok (.getfield 78, 3) := by decide +kernel
theorem dX7_about_146 : decode cX7_about 146 = .ok (.ireturn, 1) := by decide +kernel
theorem dX7_about_147 : decode cX7_about 147 = .ok (.bipush (-2), 2) := by decide +kernel
theorem dX7_about_149 : decode cX7_about 149 = .ok (.ireturn, 1) := by decide +kernel
set_option maxRecDepth 20000 in
theorem ggX7_menIn_X7_breath : GoodIn wsX7_menIn wsX7_breath := goodIn_r _ [5] (by decide +kernel) (by decide +kernel)
set_option maxRecDepth 20000 in
theorem gX7_menIn_X7_breath : GoodIn wsX7_menIn (va_wsS RX7 121 yX7_breath wsX7_breath) := goodIn_app (goodIn_of _ (by decide +kernel)) ggX7_menIn_X7_breath
theorem dX7_menIn_0 : decode cX7_menIn 0 = .ok (.iconst 0, 1) := by decide +kernel
theorem dX7_menIn_1 : decode cX7_menIn 1 = .ok (.istore_n 2, 1) := by decide +kernel
theorem dX7_menIn_2 : decode cX7_menIn 2 = .ok (.iconst 0, 1) := by decide +kernel
theorem dX7_menIn_3 : decode cX7_menIn 3 = .ok (.istore_n 3, 1) := by decide +kernel
theorem dX7_menIn_4 : decode cX7_menIn 4 = .ok (.iload_n 3, 1) := by decide +kernel
theorem dX7_menIn_5 : decode cX7_menIn 5 = .ok (.aload_n 0, 1) := by decide +kernel
theorem dX7_menIn_6 : decode cX7_menIn 6 = .ok (.getfield 28, 3) := by decide +kernel
theorem dX7_menIn_9 : decode cX7_menIn 9 = .ok (.iload_n 1, 1) := by decide +kernel
theorem dX7_menIn_10 : decode cX7_menIn 10 = .ok (.iaload, 1) := by decide +kernel
theorem dX7_menIn_11 : decode cX7_menIn 11 = .ok (.if_icmp .ge 23, 3) := by decide +kernel
theorem dX7_menIn_14 : decode cX7_menIn 14 = .ok (.iload_n 2, 1) := by decide +kernel
theorem dX7_menIn_15 : decode cX7_menIn 15 = .ok (.iconst 1, 1) := by decide +kernel
theorem dX7_menIn_16 : decode cX7_menIn 16 = .ok (.aload_n 0, 1) := by decide +kernel
theorem dX7_menIn_17 : decode cX7_menIn 17 = .ok (.getfield 28, 3) := by decide +kernel
theorem dX7_menIn_20 : decode cX7_menIn 20 = .ok (.iload_n 1, 1) := by decide +kernel
theorem dX7_menIn_21 : decode cX7_menIn 21 = .ok (.iload_n 3, 1) := by decide +kernel
theorem dX7_menIn_22 : decode cX7_menIn 22 = .ok (.invokestatic 121, 3) := by decide +kernel
theorem dX7_menIn_25 : decode cX7_menIn 25 = .ok (.ishl, 1) := by decide +kernel
theorem dX7_menIn_26 : decode cX7_menIn 26 = .ok (.ior, 1) := by decide +kernel
theorem dX7_menIn_27 : decode cX7_menIn 27 = .ok (.istore_n 2, 1) := by decide +kernel
theorem dX7_menIn_28 : decode cX7_menIn 28 = .ok (.iinc 3 1, 3) := by decide +kernel
theorem dX7_menIn_31 : decode cX7_menIn 31 = .ok (.goto (-27), 3) := by decide +kernel
theorem dX7_menIn_34 : decode cX7_menIn 34 = .ok (.iload_n 2, 1) := by decide +kernel
theorem dX7_menIn_35 : decode cX7_menIn 35 = .ok (.ireturn, 1) := by decide +kernel
set_option maxRecDepth 20000 in
theorem ggX7_bag_X7_noBag : GoodIn wsX7_bag wsX7_noBag := goodIn_r _ [8, 9, 10, 11, 7, 12, 20, 21, 22, 23, 24, 25, 26, 27, 28, 29, 30, 31, 32, 33, 34, 35, 36, 37, 38, 39, 40, 41, 42, 43, 44, 45, 46, 47, 48, 49, 50, 51, 52] (by decide +kernel) (by decide +kernel)
set_option maxRecDepth 20000 in
theorem gX7_bag_X7_noBag : GoodIn wsX7_bag (wsV RX7 163 RX7 yX7_noBag wsX7_noBag) := goodIn_app (goodIn_of _ (by decide +kernel)) ggX7_bag_X7_noBag
set_option maxRecDepth 20000 in
theorem ggX7_bag_X7_breath : GoodIn wsX7_bag wsX7_breath := goodIn_r _ [15] (by decide +kernel) (by decide +kernel)
set_option maxRecDepth 20000 in
theorem gX7_bag_X7_breath : GoodIn wsX7_bag (va_wsS RX7 121 yX7_breath wsX7_breath) := goodIn_app (goodIn_of _ (by decide +kernel)) ggX7_bag_X7_breath
set_option maxRecDepth 20000 in
theorem ggX7_bag_X7_menIn : GoodIn wsX7_bag wsX7_menIn := goodIn_r _ [19, 3, 13, 14, 7, 15, 20, 21, 22, 23, 24, 25, 26, 27, 28, 29, 30, 31, 32, 33, 34, 35, 36, 37, 38, 39, 40, 41, 42, 43, 44, 45, 46, 47, 48, 49, 50, 51, 52] (by decide +kernel) (by decide +kernel)
set_option maxRecDepth 20000 in
theorem gX7_bag_X7_menIn : GoodIn wsX7_bag (wsV RX7 167 RX7 yX7_menIn wsX7_menIn) := goodIn_app (goodIn_of _ (by decide +kernel)) ggX7_bag_X7_menIn
theorem dX7_bag_0 : decode cX7_bag 0 = .ok (.aload_n 0, 1) := by decide +kernel
theorem dX7_bag_1 : decode cX7_bag 1 = .ok (.iconst 0, 1) := by decide +kernel
theorem dX7_bag_2 : decode cX7_bag 2 = .ok (.putfield 62, 3) := by decide +kernel
theorem dX7_bag_5 : decode cX7_bag 5 = .ok (.aload_n 0, 1) := by decide +kernel
theorem dX7_bag_6 : decode cX7_bag 6 = .ok (.iload_n 1, 1) := by decide +kernel
theorem dX7_bag_7 : decode cX7_bag 7 = .ok (.invokevirtual 163, 3) := by decide +kernel
theorem dX7_bag_10 : decode cX7_bag 10 = .ok (.ifCond .eq 5, 3) := by decide +kernel
theorem dX7_bag_13 : decode cX7_bag 13 = .ok (.iconst (-1), 1) := by decide +kernel
theorem dX7_bag_14 : decode cX7_bag 14 = .ok (.ireturn, 1) := by decide +kernel
theorem dX7_bag_15 : decode cX7_bag 15 = .ok (.iload_n 2, 1) := by decide +kernel
theorem dX7_bag_16 : decode cX7_bag 16 = .ok (.tableswitch 111 0 4 #[36, 43, 50, 74, 105], 36) := by decide +kernel
theorem dX7_bag_52 : decode cX7_bag 52 = .ok (.aload_n 0, 1) := by decide +kernel
theorem dX7_bag_53 : decode cX7_bag 53 = .ok (.getfield 13, 3) := by decide +kernel
theorem dX7_bag_56 : decode cX7_bag 56 = .ok (.iload_n 1, 1) := by decide +kernel
theorem dX7_bag_57 : decode cX7_bag 57 = .ok (.iaload, 1) := by decide +kernel
theorem dX7_bag_58 : decode cX7_bag 58 = .ok (.ireturn, 1) := by decide +kernel
theorem dX7_bag_59 : decode cX7_bag 59 = .ok (.aload_n 0, 1) := by decide +kernel
theorem dX7_bag_60 : decode cX7_bag 60 = .ok (.getfield 28, 3) := by decide +kernel
theorem dX7_bag_63 : decode cX7_bag 63 = .ok (.iload_n 1, 1) := by decide +kernel
theorem dX7_bag_64 : decode cX7_bag 64 = .ok (.iaload, 1) := by decide +kernel
theorem dX7_bag_65 : decode cX7_bag 65 = .ok (.ireturn, 1) := by decide +kernel
theorem dX7_bag_66 : decode cX7_bag 66 = .ok (.aload_n 0, 1) := by decide +kernel
theorem dX7_bag_67 : decode cX7_bag 67 = .ok (.getfield 28, 3) := by decide +kernel
theorem dX7_bag_70 : decode cX7_bag 70 = .ok (.iload_n 1, 1) := by decide +kernel
theorem dX7_bag_71 : decode cX7_bag 71 = .ok (.iaload, 1) := by decide +kernel
theorem dX7_bag_72 : decode cX7_bag 72 = .ok (.ifCond .ne 8, 3) := by decide +kernel
theorem dX7_bag_75 : decode cX7_bag 75 = .ok (.bipush (-9), 2) := by decide +kernel
theorem dX7_bag_77 : decode cX7_bag 77 = .ok (.goto 12, 3) := by decide +kernel
theorem dX7_bag_80 : decode cX7_bag 80 = .ok (.aload_n 0, 1) := by decide +kernel
theorem dX7_bag_81 : decode cX7_bag 81 = .ok (.getfield 28, 3) := by decide +kernel
theorem dX7_bag_84 : decode cX7_bag 84 = .ok (.iload_n 1, 1) := by decide +kernel
theorem dX7_bag_85 : decode cX7_bag 85 = .ok (.iconst 0, 1) := by decide +kernel
theorem dX7_bag_86 : decode cX7_bag 86 = .ok (.invokestatic 121, 3) := by decide +kernel
theorem dX7_bag_89 : decode cX7_bag 89 = .ok (.ireturn, 1) := by decide +kernel
theorem dX7_bag_90 : decode cX7_bag 90 = .ok (.aload_n 0, 1) := by decide +kernel
theorem dX7_bag_91 : decode cX7_bag 91 = .ok (.getfield 28, 3) := by decide +kernel
theorem dX7_bag_94 : decode cX7_bag 94 = .ok (.iload_n 1, 1) := by decide +kernel
theorem dX7_bag_95 : decode cX7_bag 95 = .ok (.iaload, 1) := by decide +kernel
theorem dX7_bag_96 : decode cX7_bag 96 = .ok (.ifCond .ne 8, 3) := by decide +kernel
theorem dX7_bag_99 : decode cX7_bag 99 = .ok (.bipush (-9), 2) := by decide +kernel
theorem dX7_bag_101 : decode cX7_bag 101 = .ok (.goto 19, 3) := by decide +kernel
theorem dX7_bag_104 : decode cX7_bag 104 = .ok (.aload_n 0, 1) := by decide +kernel
theorem dX7_bag_105 : decode cX7_bag 105 = .ok (.getfield 28, 3) := by decide +kernel
theorem dX7_bag_108 : decode cX7_bag 108 = .ok (.iload_n 1, 1) := by decide +kernel
theorem dX7_bag_109 : decode cX7_bag 109 = .ok (.aload_n 0, 1) := by decide +kernel
theorem dX7_bag_110 : decode cX7_bag 110 = .ok (.getfield 28, 3) := by decide +kernel
theorem dX7_bag_113 : decode cX7_bag 113 = .ok (.iload_n 1, 1) := by decide +kernel
theorem dX7_bag_114 : decode cX7_bag 114 = .ok (.iaload, 1) := by decide +kernel
theorem dX7_bag_115 : decode cX7_bag 115 = .ok (.iconst 1, 1) := by decide +kernel
theorem dX7_bag_116 : decode cX7_bag 116 = .ok (.isub, 1) := by decide +kernel
theorem dX7_bag_117 : decode cX7_bag 117 = .ok (.invokestatic 121, 3) := by decide +kernel
theorem dX7_bag_120 : decode cX7_bag 120 = .ok (.ireturn, 1) := by decide +kernel
theorem dX7_bag_121 : decode cX7_bag 121 = .ok (.aload_n 0, 1) := by decide +kernel
theorem dX7_bag_122 : decode cX7_bag 122 = .ok (.iload_n 1, 1) := by decide +kernel
theorem dX7_bag_123 : decode cX7_bag 123 = .ok (.invokevirtual 167, 3) := by decide +kernel
theorem dX7_bag_126 : decode cX7_bag 126 = .ok (.ireturn, 1) := by decide +kernel
theorem dX7_bag_127 : decode cX7_bag 127 = .ok (.bipush (-2), 2) := by decide +kernel
theorem dX7_bag_129 : decode cX7_bag 129 = .ok (.ireturn, 1) := by decide +kernel
set_option maxRecDepth 20000 in
theorem ggX7_man_X7_noMan : GoodIn wsX7_man wsX7_noMan := goodIn_r _ [8, 9, 10, 11, 7, 12, 22, 23, 24, 25, 26, 27, 28, 29, 30, 31, 32, 33, 34, 35, 36, 37, 38, 39, 40, 41, 42, 43, 44, 45, 46, 47, 48, 49, 50, 51, 52, 53, 54] (by decide +kernel) (by decide +kernel)
set_option maxRecDepth 20000 in
theorem gX7_man_X7_noMan : GoodIn wsX7_man (wsV RX7 170 RX7 yX7_noMan wsX7_noMan) := goodIn_app (goodIn_of _ (by decide +kernel)) ggX7_man_X7_noMan
set_option maxRecDepth 20000 in
theorem ggX7_man_X7_allOf : GoodIn wsX7_man wsX7_allOf := goodIn_r _ [15, 16, 17, 7, 18, 19, 20, 21] (by decide +kernel) (by decide +kernel)
set_option maxRecDepth 20000 in
theorem gX7_man_X7_allOf : GoodIn wsX7_man (va_wsS RX7 135 yX7_allOf wsX7_allOf) := goodIn_app (goodIn_of _ (by decide +kernel)) ggX7_man_X7_allOf
theorem dX7_man_0 : decode cX7_man 0 = .ok (.aload_n 0, 1) := by decide +kernel
theorem dX7_man_1 : decode cX7_man 1 = .ok (.iconst 0, 1) := by decide +kernel
theorem dX7_man_2 : decode cX7_man 2 = .ok (.putfield 62, 3) := by decide +kernel
theorem dX7_man_5 : decode cX7_man 5 = .ok (.aload_n 0, 1) := by decide +kernel
theorem dX7_man_6 : decode cX7_man 6 = .ok (.iload_n 1, 1) := by decide +kernel
theorem dX7_man_7 : decode cX7_man 7 = .ok (.invokevirtual 170, 3) := by decide +kernel
theorem dX7_man_10 : decode cX7_man 10 = .ok (.ifCond .eq 5, 3) := by decide +kernel
theorem dX7_man_13 : decode cX7_man 13 = .ok (.iconst (-1), 1) := by decide +kernel
theorem dX7_man_14 : decode cX7_man 14 = .ok (.ireturn, 1) := by decide +kernel
theorem dX7_man_15 : decode cX7_man 15 = .ok (.iload_n 2, 1) := by decide +kernel
theorem dX7_man_16 : decode cX7_man 16 = .ok (.tableswitch 98 0 5 #[40, 47, 57, 67, 76, 86], 40) := by decide +kernel
theorem dX7_man_56 : decode cX7_man 56 = .ok (.aload_n 0, 1) := by decide +kernel
theorem dX7_man_57 : decode cX7_man 57 = .ok (.getfield 16, 3) := by decide +kernel
theorem dX7_man_60 : decode cX7_man 60 = .ok (.iload_n 1, 1) := by decide +kernel
theorem dX7_man_61 : decode cX7_man 61 = .ok (.iaload, 1) := by decide +kernel
theorem dX7_man_62 : decode cX7_man 62 = .ok (.ireturn, 1) := by decide +kernel
theorem dX7_man_63 : decode cX7_man 63 = .ok (.aload_n 0, 1) := by decide +kernel
theorem dX7_man_64 : decode cX7_man 64 = .ok (.getfield 28, 3) := by decide +kernel
theorem dX7_man_67 : decode cX7_man 67 = .ok (.bipush 30, 2) := by decide +kernel
theorem dX7_man_69 : decode cX7_man 69 = .ok (.iload_n 1, 1) := by decide +kernel
theorem dX7_man_70 : decode cX7_man 70 = .ok (.iadd, 1) := by decide +kernel
theorem dX7_man_71 : decode cX7_man 71 = .ok (.iaload, 1) := by decide +kernel
theorem dX7_man_72 : decode cX7_man 72 = .ok (.ireturn, 1) := by decide +kernel
theorem dX7_man_73 : decode cX7_man 73 = .ok (.aload_n 0, 1) := by decide +kernel
theorem dX7_man_74 : decode cX7_man 74 = .ok (.getfield 28, 3) := by decide +kernel
theorem dX7_man_77 : decode cX7_man 77 = .ok (.bipush 35, 2) := by decide +kernel
theorem dX7_man_79 : decode cX7_man 79 = .ok (.iload_n 1, 1) := by decide +kernel
theorem dX7_man_80 : decode cX7_man 80 = .ok (.iadd, 1) := by decide +kernel
theorem dX7_man_81 : decode cX7_man 81 = .ok (.iaload, 1) := by decide +kernel
theorem dX7_man_82 : decode cX7_man 82 = .ok (.ireturn, 1) := by decide +kernel
theorem dX7_man_83 : decode cX7_man 83 = .ok (.aload_n 0, 1) := by decide +kernel
theorem dX7_man_84 : decode cX7_man 84 = .ok (.getfield 28, 3) := by decide +kernel
theorem dX7_man_87 : decode cX7_man 87 = .ok (.iload_n 1, 1) := by decide +kernel
theorem dX7_man_88 : decode cX7_man 88 = .ok (.invokestatic 135, 3) := by decide +kernel
theorem dX7_man_91 : decode cX7_man 91 = .ok (.ireturn, 1) := by decide +kernel
theorem dX7_man_92 : decode cX7_man 92 = .ok (.aload_n 0, 1) := by decide +kernel
theorem dX7_man_93 : decode cX7_man 93 = .ok (.getfield 28, 3) := by decide +kernel
theorem dX7_man_96 : decode cX7_man 96 = .ok (.bipush 40, 2) := by decide +kernel
theorem dX7_man_98 : decode cX7_man 98 = .ok (.iload_n 1, 1) := by decide +kernel
theorem dX7_man_99 : decode cX7_man 99 = .ok (.iadd, 1) := by decide +kernel
theorem dX7_man_100 : decode cX7_man 100 = .ok (.iaload, 1) := by decide +kernel
theorem dX7_man_101 : decode cX7_man 101 = .ok (.ireturn, 1) := by decide +kernel
theorem dX7_man_102 : decode cX7_man 102 = .ok (.aload_n 0, 1) := by decide +kernel
theorem dX7_man_103 : decode cX7_man 103 = .ok (.getfield 28, 3) := by decide +kernel
theorem dX7_man_106 : decode cX7_man 106 = .ok (.bipush 45, 2) := by decide +kernel
theorem dX7_man_108 : decode cX7_man 108 = .ok (.iaload, 1) := by decide +kernel
theorem dX7_man_109 : decode cX7_man 109 = .ok (.iload_n 1, 1) := by decide +kernel
theorem dX7_man_110 : decode cX7_man 110 = .ok (.ishr, 1) := by decide +kernel
theorem dX7_man_111 : decode cX7_man 111 = .ok (.iconst 1, 1) := by decide +kernel
theorem dX7_man_112 : decode cX7_man 112 = .ok (.iand, 1) := by decide +kernel
theorem dX7_man_113 : decode cX7_man 113 = .ok (.ireturn, 1) := by decide +kernel
theorem dX7_man_114 : decode cX7_man 114 = .ok (.bipush (-2), 2) := by decide +kernel
theorem dX7_man_116 : decode cX7_man 116 = .ok (.ireturn, 1) := by decide +kernel
theorem dX7_note_0 : decode cX7_note 0 = .ok (.aload_n 0, 1) := by decide +kernel
theorem dX7_note_1 : decode cX7_note 1 = .ok (.getfield 118, 3) := by decide +kernel
theorem dX7_note_4 : decode cX7_note 4 = .ok (.bipush 14, 2) := by decide +kernel
theorem dX7_note_6 : decode cX7_note 6 = .ok (.if_icmp .ne 43, 3) := by decide +kernel
theorem dX7_note_9 : decode cX7_note 9 = .ok (.iconst 0, 1) := by decide +kernel
theorem dX7_note_10 : decode cX7_note 10 = .ok (.istore_n 1, 1) := by decide +kernel
theorem dX7_note_11 : decode cX7_note 11 = .ok (.iload_n 1, 1) := by decide +kernel
theorem dX7_note_12 : decode cX7_note 12 = .ok (.sipush 611, 3) := by decide +kernel
theorem dX7_note_15 : decode cX7_note 15 = .ok (.if_icmp .ge 24, 3) := by decide +kernel
theorem dX7_note_18 : decode cX7_note 18 = .ok (.aload_n 0, 1) := by decide +kernel
theorem dX7_note_19 : decode cX7_note 19 = .ok (.getfield 34, 3) := by decide +kernel
theorem dX7_note_22 : decode cX7_note 22 = .ok (.iload_n 1, 1) := by decide +kernel
theorem dX7_note_23 : decode cX7_note 23 = .ok (.aload_n 0, 1) := by decide +kernel
theorem dX7_note_24 : decode cX7_note 24 = .ok (.getfield 34, 3) := by decide +kernel
theorem dX7_note_27 : decode cX7_note 27 = .ok (.iload_n 1, 1) := by decide +kernel
theorem dX7_note_28 : decode cX7_note 28 = .ok (.bipush 47, 2) := by decide +kernel
theorem dX7_note_30 : decode cX7_note 30 = .ok (.iadd, 1) := by decide +kernel
theorem dX7_note_31 : decode cX7_note 31 = .ok (.iaload, 1) := by decide +kernel
theorem dX7_note_32 : decode cX7_note 32 = .ok (.iastore, 1) := by decide +kernel
theorem dX7_note_33 : decode cX7_note 33 = .ok (.iinc 1 1, 3) := by decide +kernel
theorem dX7_note_36 : decode cX7_note 36 = .ok (.goto (-25), 3) := by decide +kernel
theorem dX7_note_39 : decode cX7_note 39 = .ok (.aload_n 0, 1) := by decide +kernel
theorem dX7_note_40 : decode cX7_note 40 = .ok (.dup, 1) := by decide +kernel
theorem dX7_note_41 : decode cX7_note 41 = .ok (.getfield 118, 3) := by decide +kernel
theorem dX7_note_44 : decode cX7_note 44 = .ok (.iconst 1, 1) := by decide +kernel
theorem dX7_note_45 : decode cX7_note 45 = .ok (.isub, 1) := by decide +kernel
theorem dX7_note_46 : decode cX7_note 46 = .ok (.putfield 118, 3) := by decide +kernel
theorem dX7_note_49 : decode cX7_note 49 = .ok (.iconst 0, 1) := by decide +kernel
theorem dX7_note_50 : decode cX7_note 50 = .ok (.istore_n 1, 1) := by decide +kernel
theorem dX7_note_51 : decode cX7_note 51 = .ok (.iload_n 1, 1) := by decide +kernel
theorem dX7_note_52 : decode cX7_note 52 = .ok (.bipush 47, 2) := by decide +kernel
theorem dX7_note_54 : decode cX7_note 54 = .ok (.if_icmp .ge 29, 3) := by decide +kernel
theorem dX7_note_57 : decode cX7_note 57 = .ok (.aload_n 0, 1) := by decide +kernel
theorem dX7_note_58 : decode cX7_note 58 = .ok (.getfield 34, 3) := by decide +kernel
theorem dX7_note_61 : decode cX7_note 61 = .ok (.bipush 47, 2) := by decide +kernel
theorem dX7_note_63 : decode cX7_note 63 = .ok (.aload_n 0, 1) := by decide +kernel
theorem dX7_note_64 : decode cX7_note 64 = .ok (.getfield 118, 3) := by decide +kernel
theorem dX7_note_67 : decode cX7_note 67 = .ok (.imul, 1) := by decide +kernel
theorem dX7_note_68 : decode cX7_note 68 = .ok (.iload_n 1, 1) := by decide +kernel
theorem dX7_note_69 : decode cX7_note 69 = .ok (.iadd, 1) := by decide +kernel
theorem dX7_note_70 : decode cX7_note 70 = .ok (.aload_n 0, 1) := by decide +kernel
theorem dX7_note_71 : decode cX7_note 71 = .ok (.getfield 28, 3) := by decide +kernel
theorem dX7_note_74 : decode cX7_note 74 = .ok (.iload_n 1, 1) := by decide +kernel
theorem dX7_note_75 : decode cX7_note 75 = .ok (.iaload, 1) := by decide +kernel
theorem dX7_note_76 : decode cX7_note 76 = .ok (.iastore, 1) := by decide +kernel
theorem dX7_note_77 : decode cX7_note 77 = .ok (.iinc 1 1, 3) := by decide +kernel
theorem dX7_note_80 : decode cX7_note 80 = .ok (.goto (-29), 3) := by decide +kernel
theorem dX7_note_83 : decode cX7_note 83 = .ok (.aload_n 0, 1) := by decide +kernel
theorem dX7_note_84 : decode cX7_note 84 = .ok (.dup, 1) := by decide +kernel
theorem dX7_note_85 : decode cX7_note 85 = .ok (.getfield 118, 3) := by decide +kernel
theorem dX7_note_88 : decode cX7_note 88 = .ok (.iconst 1, 1) := by decide +kernel
theorem dX7_note_89 : decode cX7_note 89 = .ok (.iadd, 1) := by decide +kernel
theorem dX7_note_90 : decode cX7_note 90 = .ok (.putfield 118, 3) := by decide +kernel
theorem dX7_note_93 : decode cX7_note 93 = .ok (.return_, 1) := by decide +kernel
set_option maxRecDepth 20000 in
theorem ggX7_canGive_X7_has : GoodIn wsX7_canGive wsX7_has := goodIn_r _ [4] (by decide +kernel) (by decide +kernel)
set_option maxRecDepth 20000 in
theorem gX7_canGive_X7_has : GoodIn wsX7_canGive (va_wsS RX7 131 yX7_has wsX7_has) := goodIn_app (goodIn_of _ (by decide +kernel)) ggX7_canGive_X7_has
theorem dX7_canGive_0 : decode cX7_canGive 0 = .ok (.aload_n 0, 1) := by decide +kernel
theorem dX7_canGive_1 : decode cX7_canGive 1 = .ok (.bipush 45, 2) := by decide +kernel
theorem dX7_canGive_3 : decode cX7_canGive 3 = .ok (.iaload, 1) := by decide +kernel
theorem dX7_canGive_4 : decode cX7_canGive 4 = .ok (.iload_n 1, 1) := by decide +kernel
theorem dX7_canGive_5 : decode cX7_canGive 5 = .ok (.invokestatic 131, 3) := by decide +kernel
theorem dX7_canGive_8 : decode cX7_canGive 8 = .ok (.ifCond .ne 16, 3) := by decide +kernel
theorem dX7_canGive_11 : decode cX7_canGive 11 = .ok (.aload_n 0, 1) := by decide +kernel
theorem dX7_canGive_12 : decode cX7_canGive 12 = .ok (.bipush 30, 2) := by decide +kernel
theorem dX7_canGive_14 : decode cX7_canGive 14 = .ok (.iload_n 1, 1) := by decide +kernel
theorem dX7_canGive_15 : decode cX7_canGive 15 = .ok (.iadd, 1) := by decide +kernel
theorem dX7_canGive_16 : decode cX7_canGive 16 = .ok (.iaload, 1) := by decide +kernel
theorem dX7_canGive_17 : decode cX7_canGive 17 = .ok (.ifCond .le 7, 3) := by decide +kernel
theorem dX7_canGive_20 : decode cX7_canGive 20 = .ok (.iconst 1, 1) := by decide +kernel
theorem dX7_canGive_21 : decode cX7_canGive 21 = .ok (.goto 4, 3) := by decide +kernel
theorem dX7_canGive_24 : decode cX7_canGive 24 = .ok (.iconst 0, 1) := by decide +kernel
theorem dX7_canGive_25 : decode cX7_canGive 25 = .ok (.ireturn, 1) := by decide +kernel
set_option maxRecDepth 20000 in
theorem ggX7_give_X7_lay : GoodIn wsX7_give wsX7_lay := goodIn_r _ [4] (by decide +kernel) (by decide +kernel)
set_option maxRecDepth 20000 in
theorem gX7_give_X7_lay : GoodIn wsX7_give (va_wsS RX7 94 yX7_lay wsX7_lay) := goodIn_app (goodIn_of _ (by decide +kernel)) ggX7_give_X7_lay
theorem dX7_give_0 : decode cX7_give 0 = .ok (.aload_n 0, 1) := by decide +kernel
theorem dX7_give_1 : decode cX7_give 1 = .ok (.bipush 30, 2) := by decide +kernel
theorem dX7_give_3 : decode cX7_give 3 = .ok (.iload_n 1, 1) := by decide +kernel
theorem dX7_give_4 : decode cX7_give 4 = .ok (.iadd, 1) := by decide +kernel
theorem dX7_give_5 : decode cX7_give 5 = .ok (.dup2, 1) := by decide +kernel
theorem dX7_give_6 : decode cX7_give 6 = .ok (.iaload, 1) := by decide +kernel
theorem dX7_give_7 : decode cX7_give 7 = .ok (.iconst 1, 1) := by decide +kernel
theorem dX7_give_8 : decode cX7_give 8 = .ok (.isub, 1) := by decide +kernel
theorem dX7_give_9 : decode cX7_give 9 = .ok (.iastore, 1) := by decide +kernel
theorem dX7_give_10 : decode cX7_give 10 = .ok (.aload_n 0, 1) := by decide +kernel
theorem dX7_give_11 : decode cX7_give 11 = .ok (.iload_n 1, 1) := by decide +kernel
theorem dX7_give_12 : decode cX7_give 12 = .ok (.iload_n 2, 1) := by decide +kernel
theorem dX7_give_13 : decode cX7_give 13 = .ok (.invokestatic 94, 3) := by decide +kernel
theorem dX7_give_16 : decode cX7_give 16 = .ok (.return_, 1) := by decide +kernel
set_option maxRecDepth 20000 in
theorem ggX7_put_X7_noMan : GoodIn wsX7_put wsX7_noMan := goodIn_r _ [7, 8, 9, 10, 6, 11, 35, 36, 37, 38, 39, 40, 41, 42, 43, 44, 45, 46, 47, 48, 49, 50, 51, 52, 53, 54, 55, 56, 57, 58, 59, 60, 61, 62, 63, 64, 65, 66, 67] (by decide +kernel) (by decide +kernel)
set_option maxRecDepth 20000 in
theorem gX7_put_X7_noMan : GoodIn wsX7_put (wsV RX7 170 RX7 yX7_noMan wsX7_noMan) := goodIn_app (goodIn_of _ (by decide +kernel)) ggX7_put_X7_noMan
set_option maxRecDepth 20000 in
theorem ggX7_put_X7_noBag : GoodIn wsX7_put wsX7_noBag := goodIn_r _ [15, 16, 9, 10, 6, 11, 35, 36, 37, 38, 39, 40, 41, 42, 43, 44, 45, 46, 47, 48, 49, 50, 51, 52, 53, 54, 55, 56, 57, 58, 59, 60, 61, 62, 63, 64, 65, 66, 67] (by decide +kernel) (by decide +kernel)
set_option maxRecDepth 20000 in
theorem gX7_put_X7_noBag : GoodIn wsX7_put (wsV RX7 163 RX7 yX7_noBag wsX7_noBag) := goodIn_app (goodIn_of _ (by decide +kernel)) ggX7_put_X7_noBag
set_option maxRecDepth 20000 in
theorem ggX7_put_X7_canGive : GoodIn wsX7_put wsX7_canGive := goodIn_r _ [19, 20, 21, 6, 22] (by decide +kernel) (by decide +kernel)
set_option maxRecDepth 20000 in
theorem gX7_put_X7_canGive : GoodIn wsX7_put (va_wsS RX7 173 yX7_canGive wsX7_canGive) := goodIn_app (goodIn_of _ (by decide +kernel)) ggX7_put_X7_canGive
set_option maxRecDepth 20000 in
theorem ggX7_put_X7_note : GoodIn wsX7_put wsX7_note := goodIn_r _ [26, 27, 28, 2, 35, 36, 37, 38, 39, 40, 41, 42, 43, 44, 45, 46, 47, 48, 49, 50, 51, 52, 53, 54, 55, 56, 57, 58, 59, 60, 61, 62, 63, 64, 65, 66, 67] (by decide +kernel) (by decide +kernel)
set_option maxRecDepth 20000 in
theorem gX7_put_X7_note : GoodIn wsX7_put (wsV RX7 177 RX7 yX7_note wsX7_note) := goodIn_app (goodIn_of _ (by decide +kernel)) ggX7_put_X7_note
set_option maxRecDepth 20000 in
theorem ggX7_put_X7_give : GoodIn wsX7_put wsX7_give := goodIn_r _ [31, 32, 33, 6, 34] (by decide +kernel) (by decide +kernel)
set_option maxRecDepth 20000 in
theorem gX7_put_X7_give : GoodIn wsX7_put (va_wsS RX7 180 yX7_give wsX7_give) := goodIn_app (goodIn_of _ (by decide +kernel)) ggX7_put_X7_give
theorem dX7_put_0 : decode cX7_put 0 = .ok (.aload_n 0, 1) := by decide +kernel
theorem dX7_put_1 : decode cX7_put 1 = .ok (.iconst 0, 1) := by decide +kernel
theorem dX7_put_2 : decode cX7_put 2 = .ok (.putfield 62, 3) := by decide +kernel
theorem dX7_put_5 : decode cX7_put 5 = .ok (.aload_n 0, 1) := by decide +kernel
theorem dX7_put_6 : decode cX7_put 6 = .ok (.iload_n 1, 1) := by decide +kernel
theorem dX7_put_7 : decode cX7_put 7 = .ok (.invokevirtual 170, 3) := by decide +kernel
theorem dX7_put_10 : decode cX7_put 10 = .ok (.ifCond .ne 11, 3) := by decide +kernel
theorem dX7_put_13 : decode cX7_put 13 = .ok (.aload_n 0, 1) := by decide +kernel
theorem dX7_put_14 : decode cX7_put 14 = .ok (.iload_n 2, 1) := by decide +kernel
theorem dX7_put_15 : decode cX7_put 15 = .ok (.invokevirtual 163, 3) := by decide +kernel
theorem dX7_put_18 : decode cX7_put 18 = .ok (.ifCond .eq 5, 3) := by decide +kernel
theorem dX7_put_21 : decode cX7_put 21 = .ok (.iconst (-1), 1) := by decide +kernel
theorem dX7_put_22 : decode cX7_put 22 = .ok (.ireturn, 1) := by decide +kernel
theorem dX7_put_23 : decode cX7_put 23 = .ok (.aload_n 0, 1) := by decide +kernel
theorem dX7_put_24 : decode cX7_put 24 = .ok (.getfield 28, 3) := by decide +kernel
theorem dX7_put_27 : decode cX7_put 27 = .ok (.iload_n 1, 1) := by decide +kernel
theorem dX7_put_28 : decode cX7_put 28 = .ok (.invokestatic 173, 3) := by decide +kernel
theorem dX7_put_31 : decode cX7_put 31 = .ok (.ifCond .ne 6, 3) := by decide +kernel
theorem dX7_put_34 : decode cX7_put 34 = .ok (.bipush (-3), 2) := by decide +kernel
theorem dX7_put_36 : decode cX7_put 36 = .ok (.ireturn, 1) := by decide +kernel
theorem dX7_put_37 : decode cX7_put 37 = .ok (.aload_n 0, 1) := by decide +kernel
theorem dX7_put_38 : decode cX7_put 38 = .ok (.getfield 28, 3) := by decide +kernel
theorem dX7_put_41 : decode cX7_put 41 = .ok (.iload_n 2, 1) := by decide +kernel
theorem dX7_put_42 : decode cX7_put 42 = .ok (.iaload, 1) := by decide +kernel
theorem dX7_put_43 : decode cX7_put 43 = .ok (.bipush 9, 2) := by decide +kernel
theorem dX7_put_45 : decode cX7_put 45 = .ok (.if_icmp .ne 6, 3) := by decide +kernel
theorem dX7_put_48 : decode cX7_put 48 = .ok (.bipush (-4), 2) := by decide +kernel
theorem dX7_put_50 : decode cX7_put 50 = .ok (.ireturn, 1) := by decide +kernel
theorem dX7_put_51 : decode cX7_put 51 = .ok (.aload_n 0, 1) := by decide +kernel
theorem dX7_put_52 : decode cX7_put 52 = .ok (.invokevirtual 177, 3) := by decide +kernel
theorem dX7_put_55 : decode cX7_put 55 = .ok (.aload_n 0, 1) := by decide +kernel
theorem dX7_put_56 : decode cX7_put 56 = .ok (.getfield 28, 3) := by decide +kernel
theorem dX7_put_59 : decode cX7_put 59 = .ok (.iload_n 1, 1) := by decide +kernel
theorem dX7_put_60 : decode cX7_put 60 = .ok (.iload_n 2, 1) := by decide +kernel
theorem dX7_put_61 : decode cX7_put 61 = .ok (.invokestatic 180, 3) := by decide +kernel
theorem dX7_put_64 : decode cX7_put 64 = .ok (.aload_n 0, 1) := by decide +kernel
theorem dX7_put_65 : decode cX7_put 65 = .ok (.getfield 28, 3) := by decide +kernel
theorem dX7_put_68 : decode cX7_put 68 = .ok (.iload_n 2, 1) := by decide +kernel
theorem dX7_put_69 : decode cX7_put 69 = .ok (.iaload, 1) := by decide +kernel
theorem dX7_put_70 : decode cX7_put 70 = .ok (.ireturn, 1) := by decide +kernel
set_option maxRecDepth 20000 in
theorem ggX7_march_X7_noBag : GoodIn wsX7_march wsX7_noBag := goodIn_r _ [8, 9, 10, 11, 7, 12, 36, 37, 38, 39, 40, 41, 42, 43, 44, 45, 46, 47, 48, 49, 50, 51, 52, 53, 54, 55, 56, 57, 58, 59, 60, 61, 62, 63, 64, 65, 66, 67, 68] (by decide +kernel) (by decide +kernel)
set_option maxRecDepth 20000 in
theorem gX7_march_X7_noBag : GoodIn wsX7_march (wsV RX7 163 RX7 yX7_noBag wsX7_noBag) := goodIn_app (goodIn_of _ (by decide +kernel)) ggX7_march_X7_noBag
set_option maxRecDepth 20000 in
theorem ggX7_march_X7_in : GoodIn wsX7_march wsX7_in := goodIn_r _ [12] (by decide +kernel) (by decide +kernel)
set_option maxRecDepth 20000 in
theorem gX7_march_X7_in : GoodIn wsX7_march (va_wsS RX7 69 yX7_in wsX7_in) := goodIn_app (goodIn_of _ (by decide +kernel)) ggX7_march_X7_in
set_option maxRecDepth 20000 in
theorem ggX7_march_X7_note : GoodIn wsX7_march wsX7_note := goodIn_r _ [16, 17, 18, 3, 36, 37, 38, 39, 40, 41, 42, 43, 44, 45, 46, 47, 48, 49, 50, 51, 52, 53, 54, 55, 56, 57, 58, 59, 60, 61, 62, 63, 64, 65, 66, 67, 68] (by decide +kernel) (by decide +kernel)
set_option maxRecDepth 20000 in
theorem gX7_march_X7_note : GoodIn wsX7_march (wsV RX7 177 RX7 yX7_note wsX7_note) := goodIn_app (goodIn_of _ (by decide +kernel)) ggX7_march_X7_note
set_option maxRecDepth 20000 in
theorem ggX7_march_X7_play : GoodIn wsX7_march wsX7_play := goodIn_r _ [22, 23, 24, 25, 7, 26, 27, 28, 29, 30, 31, 32, 33, 34, 35, 36, 37, 38, 39, 40, 41, 42, 43, 44, 45, 46, 47, 48, 49, 50, 51, 52, 53, 54, 55, 56, 57, 58, 59, 60, 61, 62, 63, 64, 65, 66, 67, 68] (by decide +kernel) (by decide +kernel)
set_option maxRecDepth 20000 in
theorem gX7_march_X7_play : GoodIn wsX7_march (wsV RX7 185 RX7 yX7_play wsX7_play) := goodIn_app (goodIn_of _ (by decide +kernel)) ggX7_march_X7_play
theorem dX7_march_0 : decode cX7_march 0 = .ok (.aload_n 0, 1) := by decide +kernel
theorem dX7_march_1 : decode cX7_march 1 = .ok (.iconst 0, 1) := by decide +kernel
theorem dX7_march_2 : decode cX7_march 2 = .ok (.putfield 62, 3) := by decide +kernel
theorem dX7_march_5 : decode cX7_march 5 = .ok (.aload_n 0, 1) := by decide +kernel
theorem dX7_march_6 : decode cX7_march 6 = .ok (.iload_n 1, 1) := by decide +kernel
theorem dX7_march_7 : decode cX7_march 7 = .ok (.invokevirtual 163, 3) := by decide +kernel
theorem dX7_march_10 : decode cX7_march 10 = .ok (.ifCond .eq 5, 3) := by decide +kernel
theorem dX7_march_13 : decode cX7_march 13 = .ok (.iconst (-1), 1) := by decide +kernel
theorem dX7_march_14 : decode cX7_march 14 = .ok (.ireturn, 1) := by decide +kernel
theorem dX7_march_15 : decode cX7_march 15 = .ok (.iload_n 2, 1) := by decide +kernel
theorem dX7_march_16 : decode cX7_march 16 = .ok (.i2l, 1) := by decide +kernel
theorem dX7_march_17 : decode cX7_march 17 = .ok (.lconst 1, 1) := by decide +kernel
theorem dX7_march_18 : decode cX7_march 18 = .ok (.ldc2_w 183, 3) := by decide +kernel
theorem dX7_march_21 : decode cX7_march 21 = .ok (.invokestatic 69, 3) := by decide +kernel
theorem dX7_march_24 : decode cX7_march 24 = .ok (.ifCond .ne 6, 3) := by decide +kernel
theorem dX7_march_27 : decode cX7_march 27 = .ok (.bipush (-2), 2) := by decide +kernel
theorem dX7_march_29 : decode cX7_march 29 = .ok (.ireturn, 1) := by decide +kernel
theorem dX7_march_30 : decode cX7_march 30 = .ok (.aload_n 0, 1) := by decide +kernel
theorem dX7_march_31 : decode cX7_march 31 = .ok (.getfield 28, 3) := by decide +kernel
theorem dX7_march_34 : decode cX7_march 34 = .ok (.iload_n 1, 1) := by decide +kernel
theorem dX7_march_35 : decode cX7_march 35 = .ok (.iaload, 1) := by decide +kernel
theorem dX7_march_36 : decode cX7_march 36 = .ok (.iload_n 2, 1) := by decide +kernel
theorem dX7_march_37 : decode cX7_march 37 = .ok (.if_icmp .ge 6, 3) := by decide +kernel
theorem dX7_march_40 : decode cX7_march 40 = .ok (.bipush (-3), 2) := by decide +kernel
theorem dX7_march_42 : decode cX7_march 42 = .ok (.ireturn, 1) := by decide +kernel
theorem dX7_march_43 : decode cX7_march 43 = .ok (.aload_n 0, 1) := by decide +kernel
theorem dX7_march_44 : decode cX7_march 44 = .ok (.invokevirtual 177, 3) := by decide +kernel
theorem dX7_march_47 : decode cX7_march 47 = .ok (.aload_n 0, 1) := by decide +kernel
theorem dX7_march_48 : decode cX7_march 48 = .ok (.aload_n 0, 1) := by decide +kernel
theorem dX7_march_49 : decode cX7_march 49 = .ok (.getfield 28, 3) := by decide +kernel
theorem dX7_march_52 : decode cX7_march 52 = .ok (.iload_n 1, 1) := by decide +kernel
theorem dX7_march_53 : decode cX7_march 53 = .ok (.iload_n 2, 1) := by decide +kernel
theorem dX7_march_54 : decode cX7_march 54 = .ok (.invokevirtual 185, 3) := by decide +kernel
theorem dX7_march_57 : decode cX7_march 57 = .ok (.aload_n 0, 1) := by decide +kernel
theorem dX7_march_58 : decode cX7_march 58 = .ok (.getfield 28, 3) := by decide +kernel
theorem dX7_march_61 : decode cX7_march 61 = .ok (.iload_n 1, 1) := by decide +kernel
theorem dX7_march_62 : decode cX7_march 62 = .ok (.iaload, 1) := by decide +kernel
theorem dX7_march_63 : decode cX7_march 63 = .ok (.ireturn, 1) := by decide +kernel
set_option maxRecDepth 20000 in
theorem ggX7_placeToClaim_X7_placeOf : GoodIn wsX7_placeToClaim wsX7_placeOf := goodIn_r _ [5] (by decide +kernel) (by decide +kernel)
set_option maxRecDepth 20000 in
theorem gX7_placeToClaim_X7_placeOf : GoodIn wsX7_placeToClaim (va_wsS RX7 139 yX7_placeOf wsX7_placeOf) := goodIn_app (goodIn_of _ (by decide +kernel)) ggX7_placeToClaim_X7_placeOf
set_option maxRecDepth 20000 in
theorem ggX7_placeToClaim_X7_breath : GoodIn wsX7_placeToClaim wsX7_breath := goodIn_r _ [8] (by decide +kernel) (by decide +kernel)
set_option maxRecDepth 20000 in
theorem gX7_placeToClaim_X7_breath : GoodIn wsX7_placeToClaim (va_wsS RX7 121 yX7_breath wsX7_breath) := goodIn_app (goodIn_of _ (by decide +kernel)) ggX7_placeToClaim_X7_breath
set_option maxRecDepth 20000 in
theorem ggX7_placeToClaim_X7_has : GoodIn wsX7_placeToClaim wsX7_has := goodIn_r _ [11] (by decide +kernel) (by decide +kernel)
set_option maxRecDepth 20000 in
theorem gX7_placeToClaim_X7_has : GoodIn wsX7_placeToClaim (va_wsS RX7 131 yX7_has wsX7_has) := goodIn_app (goodIn_of _ (by decide +kernel)) ggX7_placeToClaim_X7_has
theorem dX7_placeToClaim_0 : decode cX7_placeToClaim 0 = .ok (.bipush (-9), 2) := by decide +kernel
theorem dX7_placeToClaim_2 : decode cX7_placeToClaim 2 = .ok (.istore 4, 2) := by decide +kernel
theorem dX7_placeToClaim_4 : decode cX7_placeToClaim 4 = .ok (.aload_n 1, 1) := by decide +kernel
theorem dX7_placeToClaim_5 : decode cX7_placeToClaim 5 = .ok (.iload_n 3, 1) := by decide +kernel
theorem dX7_placeToClaim_6 : decode cX7_placeToClaim 6 = .ok (.iaload, 1) := by decide +kernel
theorem dX7_placeToClaim_7 : decode cX7_placeToClaim 7 = .ok (.iconst 1, 1) := by decide +kernel
theorem dX7_placeToClaim_8 : decode cX7_placeToClaim 8 = .ok (.isub, 1) := by decide +kernel
theorem dX7_placeToClaim_9 : decode cX7_placeToClaim 9 = .ok (.istore 5, 2) := by decide +kernel
theorem dX7_placeToClaim_11 : decode cX7_placeToClaim 11 = .ok (.iload 5, 2) := by decide +kernel
theorem dX7_placeToClaim_13 : decode cX7_placeToClaim 13 = .ok (.ifCond .lt 45, 3) := by decide +kernel
theorem dX7_placeToClaim_16 : decode cX7_placeToClaim 16 = .ok (.aload_n 1, 1) := by decide +kernel
theorem dX7_placeToClaim_17 : decode cX7_placeToClaim 17 = .ok (.iload_n 3, 1) := by decide +kernel
theorem dX7_placeToClaim_18 : decode cX7_placeToClaim 18 = .ok (.iaload, 1) := by decide +kernel
theorem dX7_placeToClaim_19 : decode cX7_placeToClaim 19 = .ok (.aload_n 0, 1) := by decide +kernel
theorem dX7_placeToClaim_20 : decode cX7_placeToClaim 20 = .ok (.getfield 13, 3) := by decide +kernel
theorem dX7_placeToClaim_23 : decode cX7_placeToClaim 23 = .ok (.iload_n 3, 1) := by decide +kernel
theorem dX7_placeToClaim_24 : decode cX7_placeToClaim 24 = .ok (.iaload, 1) := by decide +kernel
theorem dX7_placeToClaim_25 : decode cX7_placeToClaim 25 = .ok (.iload 5, 2) := by decide +kernel
theorem dX7_placeToClaim_27 : decode cX7_placeToClaim 27 = .ok (.invokestatic 139, 3) := by decide +kernel
theorem dX7_placeToClaim_30 : decode cX7_placeToClaim 30 = .ok (.istore 6, 2) := by decide +kernel
theorem dX7_placeToClaim_32 : decode cX7_placeToClaim 32 = .ok (.aload_n 1, 1) := by decide +kernel
theorem dX7_placeToClaim_33 : decode cX7_placeToClaim 33 = .ok (.iload_n 3, 1) := by decide +kernel
theorem dX7_placeToClaim_34 : decode cX7_placeToClaim 34 = .ok (.iload 6, 2) := by decide +kernel
theorem dX7_placeToClaim_36 : decode cX7_placeToClaim 36 = .ok (.invokestatic 121, 3) := by decide +kernel
theorem dX7_placeToClaim_39 : decode cX7_placeToClaim 39 = .ok (.iload_n 2, 1) := by decide +kernel
theorem dX7_placeToClaim_40 : decode cX7_placeToClaim 40 = .ok (.if_icmp .ne 8, 3) := by decide +kernel
theorem dX7_placeToClaim_43 : decode cX7_placeToClaim 43 = .ok (.iload 6, 2) := by decide +kernel
theorem dX7_placeToClaim_45 : decode cX7_placeToClaim 45 = .ok (.goto 5, 3) := by decide +kernel
theorem dX7_placeToClaim_48 : decode cX7_placeToClaim 48 = .ok (.iload 4, 2) := by decide +kernel
theorem dX7_placeToClaim_50 : decode cX7_placeToClaim 50 = .ok (.istore 4, 2) := by decide +kernel
theorem dX7_placeToClaim_52 : decode cX7_placeToClaim 52 = .ok (.iinc 5 (-1), 3) := by decide +kernel
theorem dX7_placeToClaim_55 : decode cX7_placeToClaim 55 = .ok (.goto (-44), 3) := by decide +kernel
theorem dX7_placeToClaim_58 : decode cX7_placeToClaim 58 = .ok (.aload_n 1, 1) := by decide +kernel
theorem dX7_placeToClaim_59 : decode cX7_placeToClaim 59 = .ok (.bipush 45, 2) := by decide +kernel
theorem dX7_placeToClaim_61 : decode cX7_placeToClaim 61 = .ok (.iaload, 1) := by decide +kernel
theorem dX7_placeToClaim_62 : decode cX7_placeToClaim 62 = .ok (.iload_n 2, 1) := by decide +kernel
theorem dX7_placeToClaim_63 : decode cX7_placeToClaim 63 = .ok (.invokestatic 131, 3) := by decide +kernel
theorem dX7_placeToClaim_66 : decode cX7_placeToClaim 66 = .ok (.ifCond .ne 13, 3) := by decide +kernel
theorem dX7_placeToClaim_69 : decode cX7_placeToClaim 69 = .ok (.aload_n 0, 1) := by decide +kernel
theorem dX7_placeToClaim_70 : decode cX7_placeToClaim 70 = .ok (.getfield 13, 3) := by decide +kernel
theorem dX7_placeToClaim_73 : decode cX7_placeToClaim 73 = .ok (.iload_n 3, 1) := by decide +kernel
theorem dX7_placeToClaim_74 : decode cX7_placeToClaim 74 = .ok (.iaload, 1) := by decide +kernel
theorem dX7_placeToClaim_75 : decode cX7_placeToClaim 75 = .ok (.iconst 3, 1) := by decide +kernel
theorem dX7_placeToClaim_76 : decode cX7_placeToClaim 76 = .ok (.if_icmp .ne 8, 3) := by decide +kernel
theorem dX7_placeToClaim_79 : decode cX7_placeToClaim 79 = .ok (.bipush (-9), 2) := by decide +kernel
theorem dX7_placeToClaim_81 : decode cX7_placeToClaim 81 = .ok (.goto 5, 3) := by decide +kernel
theorem dX7_placeToClaim_84 : decode cX7_placeToClaim 84 = .ok (.iload 4, 2) := by decide +kernel
theorem dX7_placeToClaim_86 : decode cX7_placeToClaim 86 = .ok (.ireturn, 1) := by decide +kernel
set_option maxRecDepth 20000 in
theorem ggX7_goClaim_X7_placeToClaim : GoodIn wsX7_goClaim wsX7_placeToClaim := goodIn_r _ [5, 6, 7, 8, 4, 9, 10, 11, 12, 13, 14, 15, 19, 20, 21, 22, 23, 24, 25, 26, 27, 28, 29, 30, 31, 32, 33, 34, 35, 36, 37, 38, 39, 40, 41, 42, 43, 44, 45, 46, 47, 48, 49, 50, 51] (by decide +kernel) (by decide +kernel)
set_option maxRecDepth 20000 in
theorem gX7_goClaim_X7_placeToClaim : GoodIn wsX7_goClaim (wsV RX7 188 RX7 yX7_placeToClaim wsX7_placeToClaim) := goodIn_app (goodIn_of _ (by decide +kernel)) ggX7_goClaim_X7_placeToClaim
set_option maxRecDepth 20000 in
theorem ggX7_goClaim_X7_takeOut : GoodIn wsX7_goClaim wsX7_takeOut := goodIn_r _ [18] (by decide +kernel) (by decide +kernel)
set_option maxRecDepth 20000 in
theorem gX7_goClaim_X7_takeOut : GoodIn wsX7_goClaim (va_wsS RX7 125 yX7_takeOut wsX7_takeOut) := goodIn_app (goodIn_of _ (by decide +kernel)) ggX7_goClaim_X7_takeOut
theorem dX7_goClaim_0 : decode cX7_goClaim 0 = .ok (.aload_n 0, 1) := by decide +kernel
theorem dX7_goClaim_1 : decode cX7_goClaim 1 = .ok (.aload_n 1, 1) := by decide +kernel
theorem dX7_goClaim_2 : decode cX7_goClaim 2 = .ok (.iload_n 2, 1) := by decide +kernel
theorem dX7_goClaim_3 : decode cX7_goClaim 3 = .ok (.iload_n 3, 1) := by decide +kernel
theorem dX7_goClaim_4 : decode cX7_goClaim 4 = .ok (.invokevirtual 188, 3) := by decide +kernel
theorem dX7_goClaim_7 : decode cX7_goClaim 7 = .ok (.istore 4, 2) := by decide +kernel
theorem dX7_goClaim_9 : decode cX7_goClaim 9 = .ok (.iload 4, 2) := by decide +kernel
theorem dX7_goClaim_11 : decode cX7_goClaim 11 = .ok (.bipush (-9), 2) := by decide +kernel
theorem dX7_goClaim_13 : decode cX7_goClaim 13 = .ok (.if_icmp .ne 5, 3) := by decide +kernel
theorem dX7_goClaim_16 : decode cX7_goClaim 16 = .ok (.iconst 0, 1) := by decide +kernel
theorem dX7_goClaim_17 : decode cX7_goClaim 17 = .ok (.ireturn, 1) := by decide +kernel
theorem dX7_goClaim_18 : decode cX7_goClaim 18 = .ok (.aload_n 1, 1) := by decide +kernel
theorem dX7_goClaim_19 : decode cX7_goClaim 19 = .ok (.iload_n 3, 1) := by decide +kernel
theorem dX7_goClaim_20 : decode cX7_goClaim 20 = .ok (.iload 4, 2) := by decide +kernel
theorem dX7_goClaim_22 : decode cX7_goClaim 22 = .ok (.invokestatic 125, 3) := by decide +kernel
theorem dX7_goClaim_25 : decode cX7_goClaim 25 = .ok (.aload_n 1, 1) := by decide +kernel
theorem dX7_goClaim_26 : decode cX7_goClaim 26 = .ok (.bipush 30, 2) := by decide +kernel
theorem dX7_goClaim_28 : decode cX7_goClaim 28 = .ok (.iload_n 2, 1) := by decide +kernel
theorem dX7_goClaim_29 : decode cX7_goClaim 29 = .ok (.iadd, 1) := by decide +kernel
theorem dX7_goClaim_30 : decode cX7_goClaim 30 = .ok (.dup2, 1) := by decide +kernel
theorem dX7_goClaim_31 : decode cX7_goClaim 31 = .ok (.iaload, 1) := by decide +kernel
theorem dX7_goClaim_32 : decode cX7_goClaim 32 = .ok (.aload_n 1, 1) := by decide +kernel
theorem dX7_goClaim_33 : decode cX7_goClaim 33 = .ok (.bipush 30, 2) := by decide +kernel
theorem dX7_goClaim_35 : decode cX7_goClaim 35 = .ok (.iload_n 2, 1) := by decide +kernel
theorem dX7_goClaim_36 : decode cX7_goClaim 36 = .ok (.iadd, 1) := by decide +kernel
theorem dX7_goClaim_37 : decode cX7_goClaim 37 = .ok (.iaload, 1) := by decide +kernel
theorem dX7_goClaim_38 : decode cX7_goClaim 38 = .ok (.bipush 99, 2) := by decide +kernel
theorem dX7_goClaim_40 : decode cX7_goClaim 40 = .ok (.if_icmp .ge 7, 3) := by decide +kernel
theorem dX7_goClaim_43 : decode cX7_goClaim 43 = .ok (.iconst 1, 1) := by decide +kernel
theorem dX7_goClaim_44 : decode cX7_goClaim 44 = .ok (.goto 4, 3) := by decide +kernel
theorem dX7_goClaim_47 : decode cX7_goClaim 47 = .ok (.iconst 0, 1) := by decide +kernel
theorem dX7_goClaim_48 : decode cX7_goClaim 48 = .ok (.iadd, 1) := by decide +kernel
theorem dX7_goClaim_49 : decode cX7_goClaim 49 = .ok (.iastore, 1) := by decide +kernel
theorem dX7_goClaim_50 : decode cX7_goClaim 50 = .ok (.iconst 1, 1) := by decide +kernel
theorem dX7_goClaim_51 : decode cX7_goClaim 51 = .ok (.ireturn, 1) := by decide +kernel
set_option maxRecDepth 20000 in
theorem ggX7_claim_X7_noMan : GoodIn wsX7_claim wsX7_noMan := goodIn_r _ [7, 8, 9, 10, 6, 11, 44, 45, 46, 47, 48, 49, 50, 51, 52, 53, 54, 55, 56, 57, 58, 59, 60, 61, 62, 63, 64, 65, 66, 67, 68, 69, 70, 71, 72, 73, 74, 75, 76] (by decide +kernel) (by decide +kernel)
set_option maxRecDepth 20000 in
theorem gX7_claim_X7_noMan : GoodIn wsX7_claim (wsV RX7 170 RX7 yX7_noMan wsX7_noMan) := goodIn_app (goodIn_of _ (by decide +kernel)) ggX7_claim_X7_noMan
set_option maxRecDepth 20000 in
theorem ggX7_claim_X7_noBag : GoodIn wsX7_claim wsX7_noBag := goodIn_r _ [15, 16, 9, 10, 6, 11, 44, 45, 46, 47, 48, 49, 50, 51, 52, 53, 54, 55, 56, 57, 58, 59, 60, 61, 62, 63, 64, 65, 66, 67, 68, 69, 70, 71, 72, 73, 74, 75, 76] (by decide +kernel) (by decide +kernel)
set_option maxRecDepth 20000 in
theorem gX7_claim_X7_noBag : GoodIn wsX7_claim (wsV RX7 163 RX7 yX7_noBag wsX7_noBag) := goodIn_app (goodIn_of _ (by decide +kernel)) ggX7_claim_X7_noBag
set_option maxRecDepth 20000 in
theorem ggX7_claim_X7_placeToClaim : GoodIn wsX7_claim wsX7_placeToClaim := goodIn_r _ [20, 21, 22, 23, 6, 24, 25, 26, 27, 28, 29, 30, 44, 45, 46, 47, 48, 49, 50, 51, 52, 53, 54, 55, 56, 57, 58, 59, 60, 61, 62, 63, 64, 65, 66, 67, 68, 69, 70, 71, 72, 73, 74, 75, 76] (by decide +kernel) (by decide +kernel)
set_option maxRecDepth 20000 in
theorem gX7_claim_X7_placeToClaim : GoodIn wsX7_claim (wsV RX7 188 RX7 yX7_placeToClaim wsX7_placeToClaim) := goodIn_app (goodIn_of _ (by decide +kernel)) ggX7_claim_X7_placeToClaim
set_option maxRecDepth 20000 in
theorem ggX7_claim_X7_note : GoodIn wsX7_claim wsX7_note := goodIn_r _ [34, 35, 36, 2, 44, 45, 46, 47, 48, 49, 50, 51, 52, 53, 54, 55, 56, 57, 58, 59, 60, 61, 62, 63, 64, 65, 66, 67, 68, 69, 70, 71, 72, 73, 74, 75, 76] (by decide +kernel) (by decide +kernel)
set_option maxRecDepth 20000 in
theorem gX7_claim_X7_note : GoodIn wsX7_claim (wsV RX7 177 RX7 yX7_note wsX7_note) := goodIn_app (goodIn_of _ (by decide +kernel)) ggX7_claim_X7_note
set_option maxRecDepth 20000 in
theorem ggX7_claim_X7_goClaim : GoodIn wsX7_claim wsX7_goClaim := goodIn_r _ [40, 17, 18, 19, 6, 20, 21, 22, 23, 24, 25, 26, 27, 28, 29, 30, 41, 42, 43, 44, 45, 46, 47, 48, 49, 50, 51, 52, 53, 54, 55, 56, 57, 58, 59, 60, 61, 62, 63, 64, 65, 66, 67, 68, 69, 70, 71, 72, 73, 74, 75, 76] (by decide +kernel) (by decide +kernel)
set_option maxRecDepth 20000 in
theorem gX7_claim_X7_goClaim : GoodIn wsX7_claim (wsV RX7 191 RX7 yX7_goClaim wsX7_goClaim) := goodIn_app (goodIn_of _ (by decide +kernel)) ggX7_claim_X7_goClaim
theorem dX7_claim_0 : decode cX7_claim 0 = .ok (.aload_n 0, 1) := by decide +kernel
theorem dX7_claim_1 : decode cX7_claim 1 = .ok (.iconst 0, 1) := by decide +kernel
theorem dX7_claim_2 : decode cX7_claim 2 = .ok (.putfield 62, 3) := by decide +kernel
theorem dX7_claim_5 : decode cX7_claim 5 = .ok (.aload_n 0, 1) := by decide +kernel
theorem dX7_claim_6 : decode cX7_claim 6 = .ok (.iload_n 1, 1) := by decide +kernel
theorem dX7_claim_7 : decode cX7_claim 7 = .ok (.invokevirtual 170, 3) := by decide +kernel
theorem dX7_claim_10 : decode cX7_claim 10 = .ok (.ifCond .ne 11, 3) := by decide +kernel
theorem dX7_claim_13 : decode cX7_claim 13 = .ok (.aload_n 0, 1) := by decide +kernel
theorem dX7_claim_14 : decode cX7_claim 14 = .ok (.iload_n 2, 1) := by decide +kernel
theorem dX7_claim_15 : decode cX7_claim 15 = .ok (.invokevirtual 163, 3) := by decide +kernel
theorem dX7_claim_18 : decode cX7_claim 18 = .ok (.ifCond .eq 5, 3) := by decide +kernel
theorem dX7_claim_21 : decode cX7_claim 21 = .ok (.iconst (-1), 1) := by decide +kernel
theorem dX7_claim_22 : decode cX7_claim 22 = .ok (.ireturn, 1) := by decide +kernel
theorem dX7_claim_23 : decode cX7_claim 23 = .ok (.aload_n 0, 1) := by decide +kernel
theorem dX7_claim_24 : decode cX7_claim 24 = .ok (.aload_n 0, 1) := by decide +kernel
theorem dX7_claim_25 : decode cX7_claim 25 = .ok (.getfield 28, 3) := by decide +kernel
theorem dX7_claim_28 : decode cX7_claim 28 = .ok (.iload_n 1, 1) := by decide +kernel
theorem dX7_claim_29 : decode cX7_claim 29 = .ok (.iload_n 2, 1) := by decide +kernel
theorem dX7_claim_30 : decode cX7_claim 30 = .ok (.invokevirtual 188, 3) := by decide +kernel
theorem dX7_claim_33 : decode cX7_claim 33 = .ok (.bipush (-9), 2) := by decide +kernel
theorem dX7_claim_35 : decode cX7_claim 35 = .ok (.if_icmp .ne 6, 3) := by decide +kernel
theorem dX7_claim_38 : decode cX7_claim 38 = .ok (.bipush (-3), 2) := by decide +kernel
theorem dX7_claim_40 : decode cX7_claim 40 = .ok (.ireturn, 1) := by decide +kernel
theorem dX7_claim_41 : decode cX7_claim 41 = .ok (.aload_n 0, 1) := by decide +kernel
theorem dX7_claim_42 : decode cX7_claim 42 = .ok (.invokevirtual 177, 3) := by decide +kernel
theorem dX7_claim_45 : decode cX7_claim 45 = .ok (.aload_n 0, 1) := by decide +kernel
theorem dX7_claim_46 : decode cX7_claim 46 = .ok (.aload_n 0, 1) := by decide +kernel
theorem dX7_claim_47 : decode cX7_claim 47 = .ok (.getfield 28, 3) := by decide +kernel
theorem dX7_claim_50 : decode cX7_claim 50 = .ok (.iload_n 1, 1) := by decide +kernel
theorem dX7_claim_51 : decode cX7_claim 51 = .ok (.iload_n 2, 1) := by decide +kernel
theorem dX7_claim_52 : decode cX7_claim 52 = .ok (.invokevirtual 191, 3) := by decide +kernel
theorem dX7_claim_55 : decode cX7_claim 55 = .ok (.pop, 1) := by decide +kernel
theorem dX7_claim_56 : decode cX7_claim 56 = .ok (.aload_n 0, 1) := by decide +kernel
theorem dX7_claim_57 : decode cX7_claim 57 = .ok (.getfield 28, 3) := by decide +kernel
theorem dX7_claim_60 : decode cX7_claim 60 = .ok (.bipush 30, 2) := by decide +kernel
theorem dX7_claim_62 : decode cX7_claim 62 = .ok (.iload_n 1, 1) := by decide +kernel
theorem dX7_claim_63 : decode cX7_claim 63 = .ok (.iadd, 1) := by decide +kernel
theorem dX7_claim_64 : decode cX7_claim 64 = .ok (.iaload, 1) := by decide +kernel
theorem dX7_claim_65 : decode cX7_claim 65 = .ok (.ireturn, 1) := by decide +kernel
set_option maxRecDepth 20000 in
theorem ggX7_slit_X7_noBag : GoodIn wsX7_slit wsX7_noBag := goodIn_r _ [7, 8, 9, 10, 6, 11, 35, 36, 37, 38, 39, 40, 41, 42, 43, 44, 45, 46, 47, 48, 49, 50, 51, 52, 53, 54, 55, 56, 57, 58, 59, 60, 61, 62, 63, 64, 65, 66, 67] (by decide +kernel) (by decide +kernel)
set_option maxRecDepth 20000 in
theorem gX7_slit_X7_noBag : GoodIn wsX7_slit (wsV RX7 163 RX7 yX7_noBag wsX7_noBag) := goodIn_app (goodIn_of _ (by decide +kernel)) ggX7_slit_X7_noBag
set_option maxRecDepth 20000 in
theorem ggX7_slit_X7_note : GoodIn wsX7_slit wsX7_note := goodIn_r _ [15, 16, 17, 2, 35, 36, 37, 38, 39, 40, 41, 42, 43, 44, 45, 46, 47, 48, 49, 50, 51, 52, 53, 54, 55, 56, 57, 58, 59, 60, 61, 62, 63, 64, 65, 66, 67] (by decide +kernel) (by decide +kernel)
set_option maxRecDepth 20000 in
theorem gX7_slit_X7_note : GoodIn wsX7_slit (wsV RX7 177 RX7 yX7_note wsX7_note) := goodIn_app (goodIn_of _ (by decide +kernel)) ggX7_slit_X7_note
set_option maxRecDepth 20000 in
theorem ggX7_slit_X7_play : GoodIn wsX7_slit wsX7_play := goodIn_r _ [21, 22, 23, 24, 6, 25, 26, 27, 28, 29, 30, 31, 32, 33, 34, 35, 36, 37, 38, 39, 40, 41, 42, 43, 44, 45, 46, 47, 48, 49, 50, 51, 52, 53, 54, 55, 56, 57, 58, 59, 60, 61, 62, 63, 64, 65, 66, 67] (by decide +kernel) (by decide +kernel)
set_option maxRecDepth 20000 in
theorem gX7_slit_X7_play : GoodIn wsX7_slit (wsV RX7 185 RX7 yX7_play wsX7_play) := goodIn_app (goodIn_of _ (by decide +kernel)) ggX7_slit_X7_play
theorem dX7_slit_0 : decode cX7_slit 0 = .ok (.aload_n 0, 1) := by decide +kernel
theorem dX7_slit_1 : decode cX7_slit 1 = .ok (.iconst 0, 1) := by decide +kernel
theorem dX7_slit_2 : decode cX7_slit 2 = .ok (.putfield 62, 3) := by decide +kernel
theorem dX7_slit_5 : decode cX7_slit 5 = .ok (.aload_n 0, 1) := by decide +kernel
theorem dX7_slit_6 : decode cX7_slit 6 = .ok (.iload_n 1, 1) := by decide +kernel
theorem dX7_slit_7 : decode cX7_slit 7 = .ok (.invokevirtual 163, 3) := by decide +kernel
theorem dX7_slit_10 : decode cX7_slit 10 = .ok (.ifCond .eq 5, 3) := by decide +kernel
theorem dX7_slit_13 : decode cX7_slit 13 = .ok (.iconst (-1), 1) := by decide +kernel
theorem dX7_slit_14 : decode cX7_slit 14 = .ok (.ireturn, 1) := by decide +kernel
theorem dX7_slit_15 : decode cX7_slit 15 = .ok (.aload_n 0, 1) := by decide +kernel
theorem dX7_slit_16 : decode cX7_slit 16 = .ok (.getfield 28, 3) := by decide +kernel
theorem dX7_slit_19 : decode cX7_slit 19 = .ok (.iload_n 1, 1) := by decide +kernel
theorem dX7_slit_20 : decode cX7_slit 20 = .ok (.iaload, 1) := by decide +kernel
theorem dX7_slit_21 : decode cX7_slit 21 = .ok (.istore_n 2, 1) := by decide +kernel
theorem dX7_slit_22 : decode cX7_slit 22 = .ok (.iload_n 2, 1) := by decide +kernel
theorem dX7_slit_23 : decode cX7_slit 23 = .ok (.ifCond .ne 6, 3) := by decide +kernel
theorem dX7_slit_26 : decode cX7_slit 26 = .ok (.bipush (-3), 2) := by decide +kernel
theorem dX7_slit_28 : decode cX7_slit 28 = .ok (.ireturn, 1) := by decide +kernel
theorem dX7_slit_29 : decode cX7_slit 29 = .ok (.aload_n 0, 1) := by decide +kernel
theorem dX7_slit_30 : decode cX7_slit 30 = .ok (.invokevirtual 177, 3) := by decide +kernel
theorem dX7_slit_33 : decode cX7_slit 33 = .ok (.aload_n 0, 1) := by decide +kernel
theorem dX7_slit_34 : decode cX7_slit 34 = .ok (.aload_n 0, 1) := by decide +kernel
theorem dX7_slit_35 : decode cX7_slit 35 = .ok (.getfield 28, 3) := by decide +kernel
theorem dX7_slit_38 : decode cX7_slit 38 = .ok (.iload_n 1, 1) := by decide +kernel
theorem dX7_slit_39 : decode cX7_slit 39 = .ok (.iload_n 2, 1) := by decide +kernel
theorem dX7_slit_40 : decode cX7_slit 40 = .ok (.invokevirtual 185, 3) := by decide +kernel
theorem dX7_slit_43 : decode cX7_slit 43 = .ok (.iload_n 2, 1) := by decide +kernel
theorem dX7_slit_44 : decode cX7_slit 44 = .ok (.ireturn, 1) := by decide +kernel
set_option maxRecDepth 20000 in
theorem ggX7_fall_X7_noMan : GoodIn wsX7_fall wsX7_noMan := goodIn_r _ [7, 8, 9, 10, 6, 11, 34, 35, 36, 37, 38, 39, 40, 41, 42, 43, 44, 45, 46, 47, 48, 49, 50, 51, 52, 53, 54, 55, 56, 57, 58, 59, 60, 61, 62, 63, 64, 65, 66] (by decide +kernel) (by decide +kernel)
set_option maxRecDepth 20000 in
theorem gX7_fall_X7_noMan : GoodIn wsX7_fall (wsV RX7 170 RX7 yX7_noMan wsX7_noMan) := goodIn_app (goodIn_of _ (by decide +kernel)) ggX7_fall_X7_noMan
set_option maxRecDepth 20000 in
theorem ggX7_fall_X7_has : GoodIn wsX7_fall wsX7_has := goodIn_r _ [14] (by decide +kernel) (by decide +kernel)
set_option maxRecDepth 20000 in
theorem gX7_fall_X7_has : GoodIn wsX7_fall (va_wsS RX7 131 yX7_has wsX7_has) := goodIn_app (goodIn_of _ (by decide +kernel)) ggX7_fall_X7_has
set_option maxRecDepth 20000 in
theorem ggX7_fall_X7_note : GoodIn wsX7_fall wsX7_note := goodIn_r _ [18, 19, 20, 2, 34, 35, 36, 37, 38, 39, 40, 41, 42, 43, 44, 45, 46, 47, 48, 49, 50, 51, 52, 53, 54, 55, 56, 57, 58, 59, 60, 61, 62, 63, 64, 65, 66] (by decide +kernel) (by decide +kernel)
set_option maxRecDepth 20000 in
theorem gX7_fall_X7_note : GoodIn wsX7_fall (wsV RX7 177 RX7 yX7_note wsX7_note) := goodIn_app (goodIn_of _ (by decide +kernel)) ggX7_fall_X7_note
set_option maxRecDepth 20000 in
theorem ggX7_fall_X7_left : GoodIn wsX7_fall wsX7_left := goodIn_r _ [24, 8, 12, 13, 6, 14, 25, 26, 27, 28, 29, 30, 31, 32, 33, 34, 35, 36, 37, 38, 39, 40, 41, 42, 43, 44, 45, 46, 47, 48, 49, 50, 51, 52, 53, 54, 55, 56, 57, 58, 59, 60, 61, 62, 63, 64, 65, 66] (by decide +kernel) (by decide +kernel)
set_option maxRecDepth 20000 in
theorem gX7_fall_X7_left : GoodIn wsX7_fall (wsV RX7 157 RX7 yX7_left wsX7_left) := goodIn_app (goodIn_of _ (by decide +kernel)) ggX7_fall_X7_left
theorem dX7_fall_0 : decode cX7_fall 0 = .ok (.aload_n 0, 1) := by decide +kernel
theorem dX7_fall_1 : decode cX7_fall 1 = .ok (.iconst 0, 1) := by decide +kernel
theorem dX7_fall_2 : decode cX7_fall 2 = .ok (.putfield 62, 3) := by decide +kernel
theorem dX7_fall_5 : decode cX7_fall 5 = .ok (.aload_n 0, 1) := by decide +kernel
theorem dX7_fall_6 : decode cX7_fall 6 = .ok (.iload_n 1, 1) := by decide +kernel
theorem dX7_fall_7 : decode cX7_fall 7 = .ok (.invokevirtual 170, 3) := by decide +kernel
theorem dX7_fall_10 : decode cX7_fall 10 = .ok (.ifCond .eq 5, 3) := by decide +kernel
theorem dX7_fall_13 : decode cX7_fall 13 = .ok (.iconst (-1), 1) := by decide +kernel
theorem dX7_fall_14 : decode cX7_fall 14 = .ok (.ireturn, 1) := by decide +kernel
theorem dX7_fall_15 : decode cX7_fall 15 = .ok (.aload_n 0, 1) := by decide +kernel
theorem dX7_fall_16 : decode cX7_fall 16 = .ok (.getfield 28, 3) := by decide +kernel
theorem dX7_fall_19 : decode cX7_fall 19 = .ok (.bipush 45, 2) := by decide +kernel
theorem dX7_fall_21 : decode cX7_fall 21 = .ok (.iaload, 1) := by decide +kernel
theorem dX7_fall_22 : decode cX7_fall 22 = .ok (.iload_n 1, 1) := by decide +kernel
theorem dX7_fall_23 : decode cX7_fall 23 = .ok (.invokestatic 131, 3) := by decide +kernel
theorem dX7_fall_26 : decode cX7_fall 26 = .ok (.ifCond .eq 6, 3) := by decide +kernel
theorem dX7_fall_29 : decode cX7_fall 29 = .ok (.bipush (-3), 2) := by decide +kernel
theorem dX7_fall_31 : decode cX7_fall 31 = .ok (.ireturn, 1) := by decide +kernel
theorem dX7_fall_32 : decode cX7_fall 32 = .ok (.aload_n 0, 1) := by decide +kernel
theorem dX7_fall_33 : decode cX7_fall 33 = .ok (.invokevirtual 177, 3) := by decide +kernel
theorem dX7_fall_36 : decode cX7_fall 36 = .ok (.aload_n 0, 1) := by decide +kernel
theorem dX7_fall_37 : decode cX7_fall 37 = .ok (.getfield 28, 3) := by decide +kernel
theorem dX7_fall_40 : decode cX7_fall 40 = .ok (.bipush 45, 2) := by decide +kernel
theorem dX7_fall_42 : decode cX7_fall 42 = .ok (.dup2, 1) := by decide +kernel
theorem dX7_fall_43 : decode cX7_fall 43 = .ok (.iaload, 1) := by decide +kernel
theorem dX7_fall_44 : decode cX7_fall 44 = .ok (.iconst 1, 1) := by decide +kernel
theorem dX7_fall_45 : decode cX7_fall 45 = .ok (.iload_n 1, 1) := by decide +kernel
theorem dX7_fall_46 : decode cX7_fall 46 = .ok (.ishl, 1) := by decide +kernel
theorem dX7_fall_47 : decode cX7_fall 47 = .ok (.ior, 1) := by decide +kernel
theorem dX7_fall_48 : decode cX7_fall 48 = .ok (.iastore, 1) := by decide +kernel
theorem dX7_fall_49 : decode cX7_fall 49 = .ok (.aload_n 0, 1) := by decide +kernel
theorem dX7_fall_50 : decode cX7_fall 50 = .ok (.aload_n 0, 1) := by decide +kernel
theorem dX7_fall_51 : decode cX7_fall 51 = .ok (.getfield 28, 3) := by decide +kernel
theorem dX7_fall_54 : decode cX7_fall 54 = .ok (.invokevirtual 157, 3) := by decide +kernel
theorem dX7_fall_57 : decode cX7_fall 57 = .ok (.ireturn, 1) := by decide +kernel
set_option maxRecDepth 20000 in
theorem ggX7_day_X7_note : GoodIn wsX7_day wsX7_note := goodIn_r _ [7, 8, 9, 2, 34, 35, 36, 37, 38, 39, 40, 41, 42, 43, 44, 45, 46, 47, 48, 49, 50, 51, 52, 53, 54, 55, 56, 57, 58, 59, 60, 61, 62, 63, 64, 65, 66] (by decide +kernel) (by decide +kernel)
set_option maxRecDepth 20000 in
theorem gX7_day_X7_note : GoodIn wsX7_day (wsV RX7 177 RX7 yX7_note wsX7_note) := goodIn_app (goodIn_of _ (by decide +kernel)) ggX7_day_X7_note
set_option maxRecDepth 20000 in
theorem ggX7_day_X7_goDay : GoodIn wsX7_day wsX7_goDay := goodIn_r _ [13, 14, 15, 16, 17, 6, 18, 19, 20, 21, 22, 23, 24, 25, 26, 27, 28, 29, 30, 31, 32, 33, 34, 35, 36, 37, 38, 39, 40, 41, 42, 43, 44, 45, 46, 47, 48, 49, 50, 51, 52, 53, 54, 55, 56, 57, 58, 59, 60, 61, 62, 63, 64, 65, 66] (by decide +kernel) (by decide +kernel)
set_option maxRecDepth 20000 in
theorem gX7_day_X7_goDay : GoodIn wsX7_day (wsV RX7 195 RX7 yX7_goDay wsX7_goDay) := goodIn_app (goodIn_of _ (by decide +kernel)) ggX7_day_X7_goDay
theorem dX7_day_0 : decode cX7_day 0 = .ok (.aload_n 0, 1) := by decide +kernel
theorem dX7_day_1 : decode cX7_day 1 = .ok (.iconst 0, 1) := by decide +kernel
theorem dX7_day_2 : decode cX7_day 2 = .ok (.putfield 62, 3) := by decide +kernel
theorem dX7_day_5 : decode cX7_day 5 = .ok (.aload_n 0, 1) := by decide +kernel
theorem dX7_day_6 : decode cX7_day 6 = .ok (.invokevirtual 177, 3) := by decide +kernel
theorem dX7_day_9 : decode cX7_day 9 = .ok (.aload_n 0, 1) := by decide +kernel
theorem dX7_day_10 : decode cX7_day 10 = .ok (.aload_n 0, 1) := by decide +kernel
theorem dX7_day_11 : decode cX7_day 11 = .ok (.getfield 28, 3) := by decide +kernel
theorem dX7_day_14 : decode cX7_day 14 = .ok (.invokevirtual 195, 3) := by decide +kernel
theorem dX7_day_17 : decode cX7_day 17 = .ok (.ireturn, 1) := by decide +kernel
theorem dX7_undo_0 : decode cX7_undo 0 = .ok (.aload_n 0, 1) := by decide +kernel
theorem dX7_undo_1 : decode cX7_undo 1 = .ok (.iconst 0, 1) := by decide +kernel
theorem dX7_undo_2 : decode cX7_undo 2 = .ok (.putfield 62, 3) := by decide +kernel
theorem dX7_undo_5 : decode cX7_undo 5 = .ok (.aload_n 0, 1) := by decide +kernel
theorem dX7_undo_6 : decode cX7_undo 6 = .ok (.getfield 118, 3) := by decide +kernel
theorem dX7_undo_9 : decode cX7_undo 9 = .ok (.ifCond .ne 6, 3) := by decide +kernel
theorem dX7_undo_12 : decode cX7_undo 12 = .ok (.bipush (-3), 2) := by decide +kernel
theorem dX7_undo_14 : decode cX7_undo 14 = .ok (.ireturn, 1) := by decide +kernel
theorem dX7_undo_15 : decode cX7_undo 15 = .ok (.aload_n 0, 1) := by decide +kernel
theorem dX7_undo_16 : decode cX7_undo 16 = .ok (.dup, 1) := by decide +kernel
theorem dX7_undo_17 : decode cX7_undo 17 = .ok (.getfield 118, 3) := by decide +kernel
theorem dX7_undo_20 : decode cX7_undo 20 = .ok (.iconst 1, 1) := by decide +kernel
theorem dX7_undo_21 : decode cX7_undo 21 = .ok (.isub, 1) := by decide +kernel
theorem dX7_undo_22 : decode cX7_undo 22 = .ok (.putfield 118, 3) := by decide +kernel
theorem dX7_undo_25 : decode cX7_undo 25 = .ok (.iconst 0, 1) := by decide +kernel
theorem dX7_undo_26 : decode cX7_undo 26 = .ok (.istore_n 1, 1) := by decide +kernel
theorem dX7_undo_27 : decode cX7_undo 27 = .ok (.iload_n 1, 1) := by decide +kernel
theorem dX7_undo_28 : decode cX7_undo 28 = .ok (.bipush 47, 2) := by decide +kernel
theorem dX7_undo_30 : decode cX7_undo 30 = .ok (.if_icmp .ge 29, 3) := by decide +kernel
theorem dX7_undo_33 : decode cX7_undo 33 = .ok (.aload_n 0, 1) := by decide +kernel
theorem dX7_undo_34 : decode cX7_undo 34 = .ok (.getfield 28, 3) := by decide +kernel
theorem dX7_undo_37 : decode cX7_undo 37 = .ok (.iload_n 1, 1) := by decide +kernel
theorem dX7_undo_38 : decode cX7_undo 38 = .ok (.aload_n 0, 1) := by decide +kernel
theorem dX7_undo_39 : decode cX7_undo 39 = .ok (.getfield 34, 3) := by decide +kernel
theorem dX7_undo_42 : decode cX7_undo 42 = .ok (.bipush 47, 2) := by decide +kernel
theorem dX7_undo_44 : decode cX7_undo 44 = .ok (.aload_n 0, 1) := by decide +kernel
theorem dX7_undo_45 : decode cX7_undo 45 = .ok (.getfield 118, 3) := by decide +kernel
theorem dX7_undo_48 : decode cX7_undo 48 = .ok (.imul, 1) := by decide +kernel
theorem dX7_undo_49 : decode cX7_undo 49 = .ok (.iload_n 1, 1) := by decide +kernel
theorem dX7_undo_50 : decode cX7_undo 50 = .ok (.iadd, 1) := by decide +kernel
theorem dX7_undo_51 : decode cX7_undo 51 = .ok (.iaload, 1) := by decide +kernel
theorem dX7_undo_52 : decode cX7_undo 52 = .ok (.iastore, 1) := by decide +kernel
theorem dX7_undo_53 : decode cX7_undo 53 = .ok (.iinc 1 1, 3) := by decide +kernel
theorem dX7_undo_56 : decode cX7_undo 56 = .ok (.goto (-29), 3) := by decide +kernel
theorem dX7_undo_59 : decode cX7_undo 59 = .ok (.aload_n 0, 1) := by decide +kernel
theorem dX7_undo_60 : decode cX7_undo 60 = .ok (.getfield 118, 3) := by decide +kernel
theorem dX7_undo_63 : decode cX7_undo 63 = .ok (.ireturn, 1) := by decide +kernel
theorem dX7_begin_0 : decode cX7_begin 0 = .ok (.iconst 0, 1) := by decide +kernel
theorem dX7_begin_1 : decode cX7_begin 1 = .ok (.istore_n 1, 1) := by decide +kernel
theorem dX7_begin_2 : decode cX7_begin 2 = .ok (.iload_n 1, 1) := by decide +kernel
theorem dX7_begin_3 : decode cX7_begin 3 = .ok (.bipush 47, 2) := by decide +kernel
theorem dX7_begin_5 : decode cX7_begin 5 = .ok (.if_icmp .ge 21, 3) := by decide +kernel
theorem dX7_begin_8 : decode cX7_begin 8 = .ok (.aload_n 0, 1) := by decide +kernel
theorem dX7_begin_9 : decode cX7_begin 9 = .ok (.getfield 31, 3) := by decide +kernel
theorem dX7_begin_12 : decode cX7_begin 12 = .ok (.iload_n 1, 1) := by decide +kernel
theorem dX7_begin_13 : decode cX7_begin 13 = .ok (.aload_n 0, 1) := by decide +kernel
theorem dX7_begin_14 : decode cX7_begin 14 = .ok (.getfield 28, 3) := by decide +kernel
theorem dX7_begin_17 : decode cX7_begin 17 = .ok (.iload_n 1, 1) := by decide +kernel
theorem dX7_begin_18 : decode cX7_begin 18 = .ok (.iaload, 1) := by decide +kernel
theorem dX7_begin_19 : decode cX7_begin 19 = .ok (.iastore, 1) := by decide +kernel
theorem dX7_begin_20 : decode cX7_begin 20 = .ok (.iinc 1 1, 3) := by decide +kernel
theorem dX7_begin_23 : decode cX7_begin 23 = .ok (.goto (-21), 3) := by decide +kernel
theorem dX7_begin_26 : decode cX7_begin 26 = .ok (.return_, 1) := by decide +kernel
set_option maxRecDepth 20000 in
theorem ggX7_goDays_X7_begin : GoodIn wsX7_goDays wsX7_begin := goodIn_r _ [6, 1, 7, 32, 33, 34, 35, 36, 37, 38, 39, 40, 41, 42, 43, 44, 45, 46, 47, 48, 49, 50, 51, 52, 53, 54, 55, 56, 57, 58, 59, 60, 61, 62, 63, 64] (by decide +kernel) (by decide +kernel)
set_option maxRecDepth 20000 in
theorem gX7_goDays_X7_begin : GoodIn wsX7_goDays (wsV RX7 198 RX7 yX7_begin wsX7_begin) := goodIn_app (goodIn_of _ (by decide +kernel)) ggX7_goDays_X7_begin
set_option maxRecDepth 20000 in
theorem ggX7_goDays_X7_goDay : GoodIn wsX7_goDays wsX7_goDay := goodIn_r _ [11, 12, 13, 14, 15, 5, 16, 17, 18, 19, 20, 21, 22, 23, 24, 25, 26, 27, 28, 29, 30, 31, 32, 33, 34, 35, 36, 37, 38, 39, 40, 41, 42, 43, 44, 45, 46, 47, 48, 49, 50, 51, 52, 53, 54, 55, 56, 57, 58, 59, 60, 61, 62, 63, 64] (by decide +kernel) (by decide +kernel)
set_option maxRecDepth 20000 in
theorem gX7_goDays_X7_goDay : GoodIn wsX7_goDays (wsV RX7 195 RX7 yX7_goDay wsX7_goDay) := goodIn_app (goodIn_of _ (by decide +kernel)) ggX7_goDays_X7_goDay
theorem dX7_goDays_0 : decode cX7_goDays 0 = .ok (.aload_n 0, 1) := by decide +kernel
theorem dX7_goDays_1 : decode cX7_goDays 1 = .ok (.invokevirtual 198, 3) := by decide +kernel
theorem dX7_goDays_4 : decode cX7_goDays 4 = .ok (.iconst 0, 1) := by decide +kernel
theorem dX7_goDays_5 : decode cX7_goDays 5 = .ok (.istore_n 2, 1) := by decide +kernel
theorem dX7_goDays_6 : decode cX7_goDays 6 = .ok (.iload_n 2, 1) := by decide +kernel
theorem dX7_goDays_7 : decode cX7_goDays 7 = .ok (.iload_n 1, 1) := by decide +kernel
theorem dX7_goDays_8 : decode cX7_goDays 8 = .ok (.if_icmp .ge 18, 3) := by decide +kernel
theorem dX7_goDays_11 : decode cX7_goDays 11 = .ok (.aload_n 0, 1) := by decide +kernel
theorem dX7_goDays_12 : decode cX7_goDays 12 = .ok (.aload_n 0, 1) := by decide +kernel
theorem dX7_goDays_13 : decode cX7_goDays 13 = .ok (.getfield 31, 3) := by decide +kernel
theorem dX7_goDays_16 : decode cX7_goDays 16 = .ok (.invokevirtual 195, 3) := by decide +kernel
theorem dX7_goDays_19 : decode cX7_goDays 19 = .ok (.pop, 1) := by decide +kernel
theorem dX7_goDays_20 : decode cX7_goDays 20 = .ok (.iinc 2 1, 3) := by decide +kernel
theorem dX7_goDays_23 : decode cX7_goDays 23 = .ok (.goto (-17), 3) := by decide +kernel
theorem dX7_goDays_26 : decode cX7_goDays 26 = .ok (.return_, 1) := by decide +kernel
set_option maxRecDepth 20000 in
theorem ggX7_later_X7_noMan : GoodIn wsX7_later wsX7_noMan := goodIn_r _ [8, 9, 10, 11, 7, 12, 45, 46, 47, 48, 49, 50, 51, 52, 53, 54, 55, 56, 57, 58, 59, 60, 61, 62, 63, 64, 65, 66, 67, 68, 69, 70, 71, 72, 73, 74, 75, 76, 77] (by decide +kernel) (by decide +kernel)
set_option maxRecDepth 20000 in
theorem gX7_later_X7_noMan : GoodIn wsX7_later (wsV RX7 170 RX7 yX7_noMan wsX7_noMan) := goodIn_app (goodIn_of _ (by decide +kernel)) ggX7_later_X7_noMan
set_option maxRecDepth 20000 in
theorem ggX7_later_X7_in : GoodIn wsX7_later wsX7_in := goodIn_r _ [12] (by decide +kernel) (by decide +kernel)
set_option maxRecDepth 20000 in
theorem gX7_later_X7_in : GoodIn wsX7_later (va_wsS RX7 69 yX7_in wsX7_in) := goodIn_app (goodIn_of _ (by decide +kernel)) ggX7_later_X7_in
set_option maxRecDepth 20000 in
theorem ggX7_later_X7_goDays : GoodIn wsX7_later wsX7_goDays := goodIn_r _ [16, 3, 17, 18, 19, 7, 20, 21, 22, 23, 24, 25, 26, 27, 28, 29, 30, 31, 32, 33, 34, 35, 36, 37, 38, 39, 40, 9, 41, 42, 43, 44, 45, 46, 47, 48, 49, 50, 51, 52, 53, 54, 55, 56, 57, 58, 59, 60, 61, 62, 63, 64, 65, 66, 67, 68, 69, 70, 71, 72, 73, 74, 75, 76, 77] (by decide +kernel) (by decide +kernel)
set_option maxRecDepth 20000 in
theorem gX7_later_X7_goDays : GoodIn wsX7_later (wsV RX7 203 RX7 yX7_goDays wsX7_goDays) := goodIn_app (goodIn_of _ (by decide +kernel)) ggX7_later_X7_goDays
theorem dX7_later_0 : decode cX7_later 0 = .ok (.aload_n 0, 1) := by decide +kernel
theorem dX7_later_1 : decode cX7_later 1 = .ok (.iconst 0, 1) := by decide +kernel
theorem dX7_later_2 : decode cX7_later 2 = .ok (.putfield 62, 3) := by decide +kernel
theorem dX7_later_5 : decode cX7_later 5 = .ok (.aload_n 0, 1) := by decide +kernel
theorem dX7_later_6 : decode cX7_later 6 = .ok (.iload_n 1, 1) := by decide +kernel
theorem dX7_later_7 : decode cX7_later 7 = .ok (.invokevirtual 170, 3) := by decide +kernel
theorem dX7_later_10 : decode cX7_later 10 = .ok (.ifCond .eq 5, 3) := by decide +kernel
theorem dX7_later_13 : decode cX7_later 13 = .ok (.iconst (-1), 1) := by decide +kernel
theorem dX7_later_14 : decode cX7_later 14 = .ok (.ireturn, 1) := by decide +kernel
theorem dX7_later_15 : decode cX7_later 15 = .ok (.iload_n 2, 1) := by decide +kernel
theorem dX7_later_16 : decode cX7_later 16 = .ok (.i2l, 1) := by decide +kernel
theorem dX7_later_17 : decode cX7_later 17 = .ok (.lconst 0, 1) := by decide +kernel
theorem dX7_later_18 : decode cX7_later 18 = .ok (.ldc2_w 201, 3) := by decide +kernel
theorem dX7_later_21 : decode cX7_later 21 = .ok (.invokestatic 69, 3) := by decide +kernel
theorem dX7_later_24 : decode cX7_later 24 = .ok (.ifCond .eq 13, 3) := by decide +kernel
theorem dX7_later_27 : decode cX7_later 27 = .ok (.iload_n 3, 1) := by decide +kernel
theorem dX7_later_28 : decode cX7_later 28 = .ok (.i2l, 1) := by decide +kernel
theorem dX7_later_29 : decode cX7_later 29 = .ok (.lconst 0, 1) := by decide +kernel
theorem dX7_later_30 : decode cX7_later 30 = .ok (.lconst 1, 1) := by decide +kernel
theorem dX7_later_31 : decode cX7_later 31 = .ok (.invokestatic 69, 3) := by decide +kernel
theorem dX7_later_34 : decode cX7_later 34 = .ok (.ifCond .ne 6, 3) := by decide +kernel
theorem dX7_later_37 : decode cX7_later 37 = .ok (.bipush (-2), 2) := by decide +kernel
theorem dX7_later_39 : decode cX7_later 39 = .ok (.ireturn, 1) := by decide +kernel
theorem dX7_later_40 : decode cX7_later 40 = .ok (.aload_n 0, 1) := by decide +kernel
theorem dX7_later_41 : decode cX7_later 41 = .ok (.iload_n 2, 1) := by decide +kernel
theorem dX7_later_42 : decode cX7_later 42 = .ok (.invokevirtual 203, 3) := by decide +kernel
theorem dX7_later_45 : decode cX7_later 45 = .ok (.iload_n 3, 1) := by decide +kernel
theorem dX7_later_46 : decode cX7_later 46 = .ok (.ifCond .ne 15, 3) := by decide +kernel
theorem dX7_later_49 : decode cX7_later 49 = .ok (.aload_n 0, 1) := by decide +kernel
theorem dX7_later_50 : decode cX7_later 50 = .ok (.getfield 31, 3) := by decide +kernel
theorem dX7_later_53 : decode cX7_later 53 = .ok (.bipush 30, 2) := by decide +kernel
theorem dX7_later_55 : decode cX7_later 55 = .ok (.iload_n 1, 1) := by decide +kernel
theorem dX7_later_56 : decode cX7_later 56 = .ok (.iadd, 1) := by decide +kernel
theorem dX7_later_57 : decode cX7_later 57 = .ok (.iaload, 1) := by decide +kernel
theorem dX7_later_58 : decode cX7_later 58 = .ok (.goto 12, 3) := by decide +kernel
theorem dX7_later_61 : decode cX7_later 61 = .ok (.aload_n 0, 1) := by decide +kernel
theorem dX7_later_62 : decode cX7_later 62 = .ok (.getfield 31, 3) := by decide +kernel
theorem dX7_later_65 : decode cX7_later 65 = .ok (.bipush 35, 2) := by decide +kernel
theorem dX7_later_67 : decode cX7_later 67 = .ok (.iload_n 1, 1) := by decide +kernel
theorem dX7_later_68 : decode cX7_later 68 = .ok (.iadd, 1) := by decide +kernel
theorem dX7_later_69 : decode cX7_later 69 = .ok (.iaload, 1) := by decide +kernel
theorem dX7_later_70 : decode cX7_later 70 = .ok (.ireturn, 1) := by decide +kernel
set_option maxRecDepth 20000 in
theorem ggX7_holds_X7_noBag : GoodIn wsX7_holds wsX7_noBag := goodIn_r _ [8, 9, 10, 11, 7, 12, 45, 46, 47, 48, 49, 50, 51, 52, 53, 54, 55, 56, 57, 58, 59, 60, 61, 62, 63, 64, 65, 66, 67, 68, 69, 70, 71, 72, 73, 74, 75, 76, 77] (by decide +kernel) (by decide +kernel)
set_option maxRecDepth 20000 in
theorem gX7_holds_X7_noBag : GoodIn wsX7_holds (wsV RX7 163 RX7 yX7_noBag wsX7_noBag) := goodIn_app (goodIn_of _ (by decide +kernel)) ggX7_holds_X7_noBag
set_option maxRecDepth 20000 in
theorem ggX7_holds_X7_in : GoodIn wsX7_holds wsX7_in := goodIn_r _ [12] (by decide +kernel) (by decide +kernel)
set_option maxRecDepth 20000 in
theorem gX7_holds_X7_in : GoodIn wsX7_holds (va_wsS RX7 69 yX7_in wsX7_in) := goodIn_app (goodIn_of _ (by decide +kernel)) ggX7_holds_X7_in
set_option maxRecDepth 20000 in
theorem ggX7_holds_X7_goDays : GoodIn wsX7_holds wsX7_goDays := goodIn_r _ [16, 3, 17, 18, 19, 7, 20, 21, 22, 23, 24, 25, 9, 26, 27, 28, 29, 30, 31, 32, 33, 34, 35, 36, 37, 38, 39, 40, 41, 42, 43, 44, 45, 46, 47, 48, 49, 50, 51, 52, 53, 54, 55, 56, 57, 58, 59, 60, 61, 62, 63, 64, 65, 66, 67, 68, 69, 70, 71, 72, 73, 74, 75, 76, 77] (by decide +kernel) (by decide +kernel)
set_option maxRecDepth 20000 in
theorem gX7_holds_X7_goDays : GoodIn wsX7_holds (wsV RX7 203 RX7 yX7_goDays wsX7_goDays) := goodIn_app (goodIn_of _ (by decide +kernel)) ggX7_holds_X7_goDays
theorem dX7_holds_0 : decode cX7_holds 0 = .ok (.aload_n 0, 1) := by decide +kernel
theorem dX7_holds_1 : decode cX7_holds 1 = .ok (.iconst 0, 1) := by decide +kernel
theorem dX7_holds_2 : decode cX7_holds 2 = .ok (.putfield 62, 3) := by decide +kernel
theorem dX7_holds_5 : decode cX7_holds 5 = .ok (.aload_n 0, 1) := by decide +kernel
theorem dX7_holds_6 : decode cX7_holds 6 = .ok (.iload_n 1, 1) := by decide +kernel
theorem dX7_holds_7 : decode cX7_holds 7 = .ok (.invokevirtual 163, 3) := by decide +kernel
theorem dX7_holds_10 : decode cX7_holds 10 = .ok (.ifCond .eq 5, 3) := by decide +kernel
theorem dX7_holds_13 : decode cX7_holds 13 = .ok (.iconst (-1), 1) := by decide +kernel
theorem dX7_holds_14 : decode cX7_holds 14 = .ok (.ireturn, 1) := by decide +kernel
theorem dX7_holds_15 : decode cX7_holds 15 = .ok (.iload_n 2, 1) := by decide +kernel
theorem dX7_holds_16 : decode cX7_holds 16 = .ok (.i2l, 1) := by decide +kernel
theorem dX7_holds_17 : decode cX7_holds 17 = .ok (.lconst 0, 1) := by decide +kernel
theorem dX7_holds_18 : decode cX7_holds 18 = .ok (.ldc2_w 201, 3) := by decide +kernel
theorem dX7_holds_21 : decode cX7_holds 21 = .ok (.invokestatic 69, 3) := by decide +kernel
theorem dX7_holds_24 : decode cX7_holds 24 = .ok (.ifCond .ne 6, 3) := by decide +kernel
theorem dX7_holds_27 : decode cX7_holds 27 = .ok (.bipush (-2), 2) := by decide +kernel
theorem dX7_holds_29 : decode cX7_holds 29 = .ok (.ireturn, 1) := by decide +kernel
theorem dX7_holds_30 : decode cX7_holds 30 = .ok (.aload_n 0, 1) := by decide +kernel
theorem dX7_holds_31 : decode cX7_holds 31 = .ok (.iload_n 2, 1) := by decide +kernel
theorem dX7_holds_32 : decode cX7_holds 32 = .ok (.invokevirtual 203, 3) := by decide +kernel
theorem dX7_holds_35 : decode cX7_holds 35 = .ok (.aload_n 0, 1) := by decide +kernel
theorem dX7_holds_36 : decode cX7_holds 36 = .ok (.getfield 31, 3) := by decide +kernel
theorem dX7_holds_39 : decode cX7_holds 39 = .ok (.iload_n 1, 1) := by decide +kernel
theorem dX7_holds_40 : decode cX7_holds 40 = .ok (.iaload, 1) := by decide +kernel
theorem dX7_holds_41 : decode cX7_holds 41 = .ok (.ireturn, 1) := by decide +kernel
set_option maxRecDepth 20000 in
theorem ggX7_nth_X7_noBag : GoodIn wsX7_nth wsX7_noBag := goodIn_r _ [9, 10, 11, 12, 8, 13, 20, 21, 22, 23, 24, 25, 26, 27, 28, 29, 30, 31, 32, 33, 34, 35, 36, 37, 38, 39, 40, 41, 42, 43, 44, 45, 46, 47, 48, 49, 50, 51, 52] (by decide +kernel) (by decide +kernel)
set_option maxRecDepth 20000 in
theorem gX7_nth_X7_noBag : GoodIn wsX7_nth (wsV RX7 163 RX7 yX7_noBag wsX7_noBag) := goodIn_app (goodIn_of _ (by decide +kernel)) ggX7_nth_X7_noBag
set_option maxRecDepth 20000 in
theorem ggX7_nth_X7_in : GoodIn wsX7_nth wsX7_in := goodIn_r _ [13] (by decide +kernel) (by decide +kernel)
set_option maxRecDepth 20000 in
theorem gX7_nth_X7_in : GoodIn wsX7_nth (va_wsS RX7 69 yX7_in wsX7_in) := goodIn_app (goodIn_of _ (by decide +kernel)) ggX7_nth_X7_in
set_option maxRecDepth 20000 in
theorem ggX7_nth_X7_placeOf : GoodIn wsX7_nth wsX7_placeOf := goodIn_r _ [16] (by decide +kernel) (by decide +kernel)
set_option maxRecDepth 20000 in
theorem gX7_nth_X7_placeOf : GoodIn wsX7_nth (va_wsS RX7 139 yX7_placeOf wsX7_placeOf) := goodIn_app (goodIn_of _ (by decide +kernel)) ggX7_nth_X7_placeOf
set_option maxRecDepth 20000 in
theorem ggX7_nth_X7_breath : GoodIn wsX7_nth wsX7_breath := goodIn_r _ [19] (by decide +kernel) (by decide +kernel)
set_option maxRecDepth 20000 in
theorem gX7_nth_X7_breath : GoodIn wsX7_nth (va_wsS RX7 121 yX7_breath wsX7_breath) := goodIn_app (goodIn_of _ (by decide +kernel)) ggX7_nth_X7_breath
theorem dX7_nth_0 : decode cX7_nth 0 = .ok (.aload_n 0, 1) := by decide +kernel
theorem dX7_nth_1 : decode cX7_nth 1 = .ok (.iconst 0, 1) := by decide +kernel
theorem dX7_nth_2 : decode cX7_nth 2 = .ok (.putfield 62, 3) := by decide +kernel
theorem dX7_nth_5 : decode cX7_nth 5 = .ok (.aload_n 0, 1) := by decide +kernel
theorem dX7_nth_6 : decode cX7_nth 6 = .ok (.iload_n 1, 1) := by decide +kernel
theorem dX7_nth_7 : decode cX7_nth 7 = .ok (.invokevirtual 163, 3) := by decide +kernel
theorem dX7_nth_10 : decode cX7_nth 10 = .ok (.ifCond .eq 5, 3) := by decide +kernel
theorem dX7_nth_13 : decode cX7_nth 13 = .ok (.iconst (-1), 1) := by decide +kernel
theorem dX7_nth_14 : decode cX7_nth 14 = .ok (.ireturn, 1) := by decide +kernel
theorem dX7_nth_15 : decode cX7_nth 15 = .ok (.iload_n 2, 1) := by decide +kernel
theorem dX7_nth_16 : decode cX7_nth 16 = .ok (.i2l, 1) := by decide +kernel
theorem dX7_nth_17 : decode cX7_nth 17 = .ok (.lconst 0, 1) := by decide +kernel
theorem dX7_nth_18 : decode cX7_nth 18 = .ok (.ldc2_w 207, 3) := by decide +kernel
theorem dX7_nth_21 : decode cX7_nth 21 = .ok (.invokestatic 69, 3) := by decide +kernel
theorem dX7_nth_24 : decode cX7_nth 24 = .ok (.ifCond .ne 6, 3) := by decide +kernel
theorem dX7_nth_27 : decode cX7_nth 27 = .ok (.bipush (-2), 2) := by decide +kernel
theorem dX7_nth_29 : decode cX7_nth 29 = .ok (.ireturn, 1) := by decide +kernel
theorem dX7_nth_30 : decode cX7_nth 30 = .ok (.iload_n 2, 1) := by decide +kernel
theorem dX7_nth_31 : decode cX7_nth 31 = .ok (.aload_n 0, 1) := by decide +kernel
theorem dX7_nth_32 : decode cX7_nth 32 = .ok (.getfield 28, 3) := by decide +kernel
theorem dX7_nth_35 : decode cX7_nth 35 = .ok (.iload_n 1, 1) := by decide +kernel
theorem dX7_nth_36 : decode cX7_nth 36 = .ok (.iaload, 1) := by decide +kernel
theorem dX7_nth_37 : decode cX7_nth 37 = .ok (.if_icmp .ge 30, 3) := by decide +kernel
theorem dX7_nth_40 : decode cX7_nth 40 = .ok (.aload_n 0, 1) := by decide +kernel
theorem dX7_nth_41 : decode cX7_nth 41 = .ok (.getfield 28, 3) := by decide +kernel
theorem dX7_nth_44 : decode cX7_nth 44 = .ok (.iload_n 1, 1) := by decide +kernel
theorem dX7_nth_45 : decode cX7_nth 45 = .ok (.aload_n 0, 1) := by decide +kernel
theorem dX7_nth_46 : decode cX7_nth 46 = .ok (.getfield 28, 3) := by decide +kernel
theorem dX7_nth_49 : decode cX7_nth 49 = .ok (.iload_n 1, 1) := by decide +kernel
theorem dX7_nth_50 : decode cX7_nth 50 = .ok (.iaload, 1) := by decide +kernel
theorem dX7_nth_51 : decode cX7_nth 51 = .ok (.aload_n 0, 1) := by decide +kernel
theorem dX7_nth_52 : decode cX7_nth 52 = .ok (.getfield 13, 3) := by decide +kernel
theorem dX7_nth_55 : decode cX7_nth 55 = .ok (.iload_n 1, 1) := by decide +kernel
theorem dX7_nth_56 : decode cX7_nth 56 = .ok (.iaload, 1) := by decide +kernel
theorem dX7_nth_57 : decode cX7_nth 57 = .ok (.iload_n 2, 1) := by decide +kernel
theorem dX7_nth_58 : decode cX7_nth 58 = .ok (.invokestatic 139, 3) := by decide +kernel
theorem dX7_nth_61 : decode cX7_nth 61 = .ok (.invokestatic 121, 3) := by decide +kernel
theorem dX7_nth_64 : decode cX7_nth 64 = .ok (.goto 5, 3) := by decide +kernel
theorem dX7_nth_67 : decode cX7_nth 67 = .ok (.bipush (-9), 2) := by decide +kernel
theorem dX7_nth_69 : decode cX7_nth 69 = .ok (.ireturn, 1) := by decide +kernel
set_option maxRecDepth 20000 in
theorem ggX7_waits_X7_noMan : GoodIn wsX7_waits wsX7_noMan := goodIn_r _ [8, 9, 10, 11, 7, 12, 24, 25, 26, 27, 28, 29, 30, 31, 32, 33, 34, 35, 36, 37, 38, 39, 40, 41, 42, 43, 44, 45, 46, 47, 48, 49, 50, 51, 52, 53, 54, 55, 56] (by decide +kernel) (by decide +kernel)
set_option maxRecDepth 20000 in
theorem gX7_waits_X7_noMan : GoodIn wsX7_waits (wsV RX7 170 RX7 yX7_noMan wsX7_noMan) := goodIn_app (goodIn_of _ (by decide +kernel)) ggX7_waits_X7_noMan
set_option maxRecDepth 20000 in
theorem ggX7_waits_X7_noBag : GoodIn wsX7_waits wsX7_noBag := goodIn_r _ [16, 17, 10, 11, 7, 12, 24, 25, 26, 27, 28, 29, 30, 31, 32, 33, 34, 35, 36, 37, 38, 39, 40, 41, 42, 43, 44, 45, 46, 47, 48, 49, 50, 51, 52, 53, 54, 55, 56] (by decide +kernel) (by decide +kernel)
set_option maxRecDepth 20000 in
theorem gX7_waits_X7_noBag : GoodIn wsX7_waits (wsV RX7 163 RX7 yX7_noBag wsX7_noBag) := goodIn_app (goodIn_of _ (by decide +kernel)) ggX7_waits_X7_noBag
set_option maxRecDepth 20000 in
theorem ggX7_waits_X7_placeOf : GoodIn wsX7_waits wsX7_placeOf := goodIn_r _ [20] (by decide +kernel) (by decide +kernel)
set_option maxRecDepth 20000 in
theorem gX7_waits_X7_placeOf : GoodIn wsX7_waits (va_wsS RX7 139 yX7_placeOf wsX7_placeOf) := goodIn_app (goodIn_of _ (by decide +kernel)) ggX7_waits_X7_placeOf
set_option maxRecDepth 20000 in
theorem ggX7_waits_X7_breath : GoodIn wsX7_waits wsX7_breath := goodIn_r _ [23] (by decide +kernel) (by decide +kernel)
set_option maxRecDepth 20000 in
theorem gX7_waits_X7_breath : GoodIn wsX7_waits (va_wsS RX7 121 yX7_breath wsX7_breath) := goodIn_app (goodIn_of _ (by decide +kernel)) ggX7_waits_X7_breath
theorem dX7_waits_0 : decode cX7_waits 0 = .ok (.aload_n 0, 1) := by decide +kernel
theorem dX7_waits_1 : decode cX7_waits 1 = .ok (.iconst 0, 1) := by decide +kernel
theorem dX7_waits_2 : decode cX7_waits 2 = .ok (.putfield 62, 3) := by decide +kernel
theorem dX7_waits_5 : decode cX7_waits 5 = .ok (.aload_n 0, 1) := by decide +kernel
theorem dX7_waits_6 : decode cX7_waits 6 = .ok (.iload_n 1, 1) := by decide +kernel
theorem dX7_waits_7 : decode cX7_waits 7 = .ok (.invokevirtual 170, 3) := by decide +kernel
theorem dX7_waits_10 : decode cX7_waits 10 = .ok (.ifCond .ne 11, 3) := by decide +kernel
theorem dX7_waits_13 : decode cX7_waits 13 = .ok (.aload_n 0, 1) := by decide +kernel
theorem dX7_waits_14 : decode cX7_waits 14 = .ok (.iload_n 2, 1) := by decide +kernel
theorem dX7_waits_15 : decode cX7_waits 15 = .ok (.invokevirtual 163, 3) := by decide +kernel
theorem dX7_waits_18 : decode cX7_waits 18 = .ok (.ifCond .eq 5, 3) := by decide +kernel
theorem dX7_waits_21 : decode cX7_waits 21 = .ok (.iconst (-1), 1) := by decide +kernel
theorem dX7_waits_22 : decode cX7_waits 22 = .ok (.ireturn, 1) := by decide +kernel
theorem dX7_waits_23 : decode cX7_waits 23 = .ok (.iconst 0, 1) := by decide +kernel
theorem dX7_waits_24 : decode cX7_waits 24 = .ok (.istore_n 3, 1) := by decide +kernel
theorem dX7_waits_25 : decode cX7_waits 25 = .ok (.iconst 0, 1) := by decide +kernel
theorem dX7_waits_26 : decode cX7_waits 26 = .ok (.istore 4, 2) := by decide +kernel
theorem dX7_waits_28 : decode cX7_waits 28 = .ok (.iload 4, 2) := by decide +kernel
theorem dX7_waits_30 : decode cX7_waits 30 = .ok (.aload_n 0, 1) := by decide +kernel
theorem dX7_waits_31 : decode cX7_waits 31 = .ok (.getfield 28, 3) := by decide +kernel
theorem dX7_waits_34 : decode cX7_waits 34 = .ok (.iload_n 2, 1) := by decide +kernel
theorem dX7_waits_35 : decode cX7_waits 35 = .ok (.iaload, 1) := by decide +kernel
theorem dX7_waits_36 : decode cX7_waits 36 = .ok (.if_icmp .ge 47, 3) := by decide +kernel
theorem dX7_waits_39 : decode cX7_waits 39 = .ok (.aload_n 0, 1) := by decide +kernel
theorem dX7_waits_40 : decode cX7_waits 40 = .ok (.getfield 28, 3) := by decide +kernel
theorem dX7_waits_43 : decode cX7_waits 43 = .ok (.iload_n 2, 1) := by decide +kernel
theorem dX7_waits_44 : decode cX7_waits 44 = .ok (.aload_n 0, 1) := by decide +kernel
theorem dX7_waits_45 : decode cX7_waits 45 = .ok (.getfield 28, 3) := by decide +kernel
theorem dX7_waits_48 : decode cX7_waits 48 = .ok (.iload_n 2, 1) := by decide +kernel
theorem dX7_waits_49 : decode cX7_waits 49 = .ok (.iaload, 1) := by decide +kernel
theorem dX7_waits_50 : decode cX7_waits 50 = .ok (.aload_n 0, 1) := by decide +kernel
theorem dX7_waits_51 : decode cX7_waits 51 = .ok (.getfield 13, 3) := by decide +kernel
theorem dX7_waits_54 : decode cX7_waits 54 = .ok (.iload_n 2, 1) := by decide +kernel
theorem dX7_waits_55 : decode cX7_waits 55 = .ok (.iaload, 1) := by decide +kernel
theorem dX7_waits_56 : decode cX7_waits 56 = .ok (.iload 4, 2) := by decide +kernel
theorem dX7_waits_58 : decode cX7_waits 58 = .ok (.invokestatic 139, 3) := by decide +kernel
theorem dX7_waits_61 : decode cX7_waits 61 = .ok (.invokestatic 121, 3) := by decide +kernel
theorem dX7_waits_64 : decode cX7_waits 64 = .ok (.iload_n 1, 1) := by decide +kernel
theorem dX7_waits_65 : decode cX7_waits 65 = .ok (.if_icmp .ne 10, 3) := by decide +kernel
theorem dX7_waits_68 : decode cX7_waits 68 = .ok (.iload 4, 2) := by decide +kernel
theorem dX7_waits_70 : decode cX7_waits 70 = .ok (.iconst 1, 1) := by decide +kernel
theorem dX7_waits_71 : decode cX7_waits 71 = .ok (.iadd, 1) := by decide +kernel
theorem dX7_waits_72 : decode cX7_waits 72 = .ok (.goto 4, 3) := by decide +kernel
theorem dX7_waits_75 : decode cX7_waits 75 = .ok (.iload_n 3, 1) := by decide +kernel
theorem dX7_waits_76 : decode cX7_waits 76 = .ok (.istore_n 3, 1) := by decide +kernel
theorem dX7_waits_77 : decode cX7_waits 77 = .ok (.iinc 4 1, 3) := by decide +kernel
theorem dX7_waits_80 : decode cX7_waits 80 = .ok (.goto (-52), 3) := by decide +kernel
theorem dX7_waits_83 : decode cX7_waits 83 = .ok (.iload_n 3, 1) := by decide +kernel
theorem dX7_waits_84 : decode cX7_waits 84 = .ok (.ireturn, 1) := by decide +kernel
set_option maxRecDepth 20000 in
theorem ggX7_losers_X7_placeOf : GoodIn wsX7_losers wsX7_placeOf := goodIn_r _ [6] (by decide +kernel) (by decide +kernel)
set_option maxRecDepth 20000 in
theorem gX7_losers_X7_placeOf : GoodIn wsX7_losers (va_wsS RX7 139 yX7_placeOf wsX7_placeOf) := goodIn_app (goodIn_of _ (by decide +kernel)) ggX7_losers_X7_placeOf
set_option maxRecDepth 20000 in
theorem ggX7_losers_X7_breath : GoodIn wsX7_losers wsX7_breath := goodIn_r _ [9] (by decide +kernel) (by decide +kernel)
set_option maxRecDepth 20000 in
theorem gX7_losers_X7_breath : GoodIn wsX7_losers (va_wsS RX7 121 yX7_breath wsX7_breath) := goodIn_app (goodIn_of _ (by decide +kernel)) ggX7_losers_X7_breath
theorem dX7_losers_0 : decode cX7_losers 0 = .ok (.iconst 0, 1) := by decide +kernel
theorem dX7_losers_1 : decode cX7_losers 1 = .ok (.istore_n 3, 1) := by decide +kernel
theorem dX7_losers_2 : decode cX7_losers 2 = .ok (.iconst 0, 1) := by decide +kernel
theorem dX7_losers_3 : decode cX7_losers 3 = .ok (.istore 4, 2) := by decide +kernel
theorem dX7_losers_5 : decode cX7_losers 5 = .ok (.iload 4, 2) := by decide +kernel
theorem dX7_losers_7 : decode cX7_losers 7 = .ok (.iload_n 2, 1) := by decide +kernel
theorem dX7_losers_8 : decode cX7_losers 8 = .ok (.if_icmp .ge 39, 3) := by decide +kernel
theorem dX7_losers_11 : decode cX7_losers 11 = .ok (.iload_n 3, 1) := by decide +kernel
theorem dX7_losers_12 : decode cX7_losers 12 = .ok (.iconst 1, 1) := by decide +kernel
theorem dX7_losers_13 : decode cX7_losers 13 = .ok (.aload_n 0, 1) := by decide +kernel
theorem dX7_losers_14 : decode cX7_losers 14 = .ok (.getfield 28, 3) := by decide +kernel
theorem dX7_losers_17 : decode cX7_losers 17 = .ok (.iload_n 1, 1) := by decide +kernel
theorem dX7_losers_18 : decode cX7_losers 18 = .ok (.aload_n 0, 1) := by decide +kernel
theorem dX7_losers_19 : decode cX7_losers 19 = .ok (.getfield 28, 3) := by decide +kernel
theorem dX7_losers_22 : decode cX7_losers 22 = .ok (.iload_n 1, 1) := by decide +kernel
theorem dX7_losers_23 : decode cX7_losers 23 = .ok (.iaload, 1) := by decide +kernel
theorem dX7_losers_24 : decode cX7_losers 24 = .ok (.aload_n 0, 1) := by decide +kernel
theorem dX7_losers_25 : decode cX7_losers 25 = .ok (.getfield 13, 3) := by decide +kernel
theorem dX7_losers_28 : decode cX7_losers 28 = .ok (.iload_n 1, 1) := by decide +kernel
theorem dX7_losers_29 : decode cX7_losers 29 = .ok (.iaload, 1) := by decide +kernel
theorem dX7_losers_30 : decode cX7_losers 30 = .ok (.iload 4, 2) := by decide +kernel
theorem dX7_losers_32 : decode cX7_losers 32 = .ok (.invokestatic 139, 3) := by decide +kernel
theorem dX7_losers_35 : decode cX7_losers 35 = .ok (.invokestatic 121, 3) := by decide +kernel
theorem dX7_losers_38 : decode cX7_losers 38 = .ok (.ishl, 1) := by decide +kernel
theorem dX7_losers_39 : decode cX7_losers 39 = .ok (.ior, 1) := by decide +kernel
theorem dX7_losers_40 : decode cX7_losers 40 = .ok (.istore_n 3, 1) := by decide +kernel
theorem dX7_losers_41 : decode cX7_losers 41 = .ok (.iinc 4 1, 3) := by decide +kernel
theorem dX7_losers_44 : decode cX7_losers 44 = .ok (.goto (-39), 3) := by decide +kernel
theorem dX7_losers_47 : decode cX7_losers 47 = .ok (.iload_n 3, 1) := by decide +kernel
theorem dX7_losers_48 : decode cX7_losers 48 = .ok (.ireturn, 1) := by decide +kernel
set_option maxRecDepth 20000 in
theorem ggX7_findRoute_X7_power : GoodIn wsX7_findRoute wsX7_power := goodIn_r _ [8] (by decide +kernel) (by decide +kernel)
set_option maxRecDepth 20000 in
theorem gX7_findRoute_X7_power : GoodIn wsX7_findRoute (va_wsS RX7 215 yX7_power wsX7_power) := goodIn_app (goodIn_of _ (by decide +kernel)) ggX7_findRoute_X7_power
set_option maxRecDepth 20000 in
theorem ggX7_findRoute_X7_losers : GoodIn wsX7_findRoute wsX7_losers := goodIn_r _ [12, 4, 13, 14, 15, 7, 16, 17, 18, 19, 23, 24, 25, 26, 27, 28, 29, 30, 31, 32, 33, 34, 35, 36, 37, 38, 39, 40, 41, 42, 43, 44, 45, 46, 47, 48, 49, 50, 51, 52, 53, 54, 55] (by decide +kernel) (by decide +kernel)
set_option maxRecDepth 20000 in
theorem gX7_findRoute_X7_losers : GoodIn wsX7_findRoute (wsV RX7 219 RX7 yX7_losers wsX7_losers) := goodIn_app (goodIn_of _ (by decide +kernel)) ggX7_findRoute_X7_losers
set_option maxRecDepth 20000 in
theorem ggX7_findRoute_X7_many : GoodIn wsX7_findRoute wsX7_many := goodIn_r _ [22] (by decide +kernel) (by decide +kernel)
set_option maxRecDepth 20000 in
theorem gX7_findRoute_X7_many : GoodIn wsX7_findRoute (va_wsS RX7 222 yX7_many wsX7_many) := goodIn_app (goodIn_of _ (by decide +kernel)) ggX7_findRoute_X7_many
theorem dX7_findRoute_0 : decode cX7_findRoute 0 = .ok (.aload_n 0, 1) := by decide +kernel
theorem dX7_findRoute_1 : decode cX7_findRoute 1 = .ok (.bipush (-9), 2) := by decide +kernel
theorem dX7_findRoute_3 : decode cX7_findRoute 3 = .ok (.putfield 209, 3) := by decide +kernel
theorem dX7_findRoute_6 : decode cX7_findRoute 6 = .ok (.aload_n 0, 1) := by decide +kernel
theorem dX7_findRoute_7 : decode cX7_findRoute 7 = .ok (.bipush (-9), 2) := by decide +kernel
theorem dX7_findRoute_9 : decode cX7_findRoute 9 = .ok (.putfield 212, 3) := by decide +kernel
theorem dX7_findRoute_12 : decode cX7_findRoute 12 = .ok (.iconst 0, 1) := by decide +kernel
theorem dX7_findRoute_13 : decode cX7_findRoute 13 = .ok (.istore_n 2, 1) := by decide +kernel
theorem dX7_findRoute_14 : decode cX7_findRoute 14 = .ok (.iload_n 2, 1) := by decide +kernel
theorem dX7_findRoute_15 : decode cX7_findRoute 15 = .ok (.bipush 10, 2) := by decide +kernel
theorem dX7_findRoute_17 : decode cX7_findRoute 17 = .ok (.aload_n 0, 1) := by decide +kernel
theorem dX7_findRoute_18 : decode cX7_findRoute 18 = .ok (.getfield 66, 3) := by decide +kernel
theorem dX7_findRoute_21 : decode cX7_findRoute 21 = .ok (.invokestatic 215, 3) := by decide +kernel
theorem dX7_findRoute_24 : decode cX7_findRoute 24 = .ok (.if_icmp .ge 152, 3) := by decide +kernel
theorem dX7_findRoute_27 : decode cX7_findRoute 27 = .ok (.iconst 0, 1) := by decide +kernel
theorem dX7_findRoute_28 : decode cX7_findRoute 28 = .ok (.istore_n 3, 1) := by decide +kernel
theorem dX7_findRoute_29 : decode cX7_findRoute 29 = .ok (.iconst 0, 1) := by decide +kernel
theorem dX7_findRoute_30 : decode cX7_findRoute 30 = .ok (.istore 4, 2) := by decide +kernel
theorem dX7_findRoute_32 : decode cX7_findRoute 32 = .ok (.iconst 1, 1) := by decide +kernel
theorem dX7_findRoute_33 : decode cX7_findRoute 33 = .ok (.istore 5, 2) := by decide +kernel
theorem dX7_findRoute_35 : decode cX7_findRoute 35 = .ok (.iconst 0, 1) := by decide +kernel
theorem dX7_findRoute_36 : decode cX7_findRoute 36 = .ok (.istore 6, 2) := by decide +kernel
theorem dX7_findRoute_38 : decode cX7_findRoute 38 = .ok (.iload 6, 2) := by decide +kernel
theorem dX7_findRoute_40 : decode cX7_findRoute 40 = .ok (.aload_n 0, 1) := by decide +kernel
theorem dX7_findRoute_41 : decode cX7_findRoute 41 = .ok (.getfield 66, 3) := by decide +kernel
theorem dX7_findRoute_44 : decode cX7_findRoute 44 = .ok (.if_icmp .ge 81, 3) := by decide +kernel
theorem dX7_findRoute_47 : decode cX7_findRoute 47 = .ok (.iload_n 2, 1) := by decide +kernel
theorem dX7_findRoute_48 : decode cX7_findRoute 48 = .ok (.bipush 10, 2) := by decide +kernel
theorem dX7_findRoute_50 : decode cX7_findRoute 50 = .ok (.aload_n 0, 1) := by decide +kernel
theorem dX7_findRoute_51 : decode cX7_findRoute 51 = .ok (.getfield 66, 3) := by decide +kernel
theorem dX7_findRoute_54 : decode cX7_findRoute 54 = .ok (.iconst 1, 1) := by decide +kernel
theorem dX7_findRoute_55 : decode cX7_findRoute 55 = .ok (.isub, 1) := by decide +kernel
theorem dX7_findRoute_56 : decode cX7_findRoute 56 = .ok (.iload 6, 2) := by decide +kernel
theorem dX7_findRoute_58 : decode cX7_findRoute 58 = .ok (.isub, 1) := by decide +kernel
theorem dX7_findRoute_59 : decode cX7_findRoute 59 = .ok (.invokestatic 215, 3) := by decide +kernel
theorem dX7_findRoute_62 : decode cX7_findRoute 62 = .ok (.idiv, 1) := by decide +kernel
theorem dX7_findRoute_63 : decode cX7_findRoute 63 = .ok (.bipush 10, 2) := by decide +kernel
theorem dX7_findRoute_65 : decode cX7_findRoute 65 = .ok (.irem, 1) := by decide +kernel
theorem dX7_findRoute_66 : decode cX7_findRoute 66 = .ok (.istore 7, 2) := by decide +kernel
theorem dX7_findRoute_68 : decode cX7_findRoute 68 = .ok (.iload_n 3, 1) := by decide +kernel
theorem dX7_findRoute_69 : decode cX7_findRoute 69 = .ok (.iload 7, 2) := by decide +kernel
theorem dX7_findRoute_71 : decode cX7_findRoute 71 = .ok (.iadd, 1) := by decide +kernel
theorem dX7_findRoute_72 : decode cX7_findRoute 72 = .ok (.istore_n 3, 1) := by decide +kernel
theorem dX7_findRoute_73 : decode cX7_findRoute 73 = .ok (.iload 5, 2) := by decide +kernel
theorem dX7_findRoute_75 : decode cX7_findRoute 75 = .ok (.ifCond .eq 19, 3) := by decide +kernel
theorem dX7_findRoute_78 : decode cX7_findRoute 78 = .ok (.iload 7, 2) := by decide +kernel
theorem dX7_findRoute_80 : decode cX7_findRoute 80 = .ok (.aload_n 0, 1) := by decide +kernel
theorem dX7_findRoute_81 : decode cX7_findRoute 81 = .ok (.getfield 28, 3) := by decide +kernel
theorem dX7_findRoute_84 : decode cX7_findRoute 84 = .ok (.iload 6, 2) := by decide +kernel
theorem dX7_findRoute_86 : decode cX7_findRoute 86 = .ok (.iaload, 1) := by decide +kernel
theorem dX7_findRoute_87 : decode cX7_findRoute 87 = .ok (.if_icmp .gt 7, 3) := by decide +kernel
theorem dX7_findRoute_90 : decode cX7_findRoute 90 = .ok (.iconst 1, 1) := by decide +kernel
theorem dX7_findRoute_91 : decode cX7_findRoute 91 = .ok (.goto 4, 3) := by decide +kernel
theorem dX7_findRoute_94 : decode cX7_findRoute 94 = .ok (.iconst 0, 1) := by decide +kernel
theorem dX7_findRoute_95 : decode cX7_findRoute 95 = .ok (.istore 5, 2) := by decide +kernel
theorem dX7_findRoute_97 : decode cX7_findRoute 97 = .ok (.iload 4, 2) := by decide +kernel
theorem dX7_findRoute_99 : decode cX7_findRoute 99 = .ok (.iload 5, 2) := by decide +kernel
theorem dX7_findRoute_101 : decode cX7_findRoute 101 = .ok (.ifCond .eq 14, 3) := by decide +kernel
theorem dX7_findRoute_104 : decode cX7_findRoute 104 = .ok (.aload_n 0, 1) := by decide +kernel
theorem dX7_findRoute_105 : decode cX7_findRoute 105 = .ok (.iload 6, 2) := by decide +kernel
theorem dX7_findRoute_107 : decode cX7_findRoute 107 = .ok (.iload 7, 2) := by decide +kernel
theorem dX7_findRoute_109 : decode cX7_findRoute 109 = .ok (.invokevirtual 219, 3) := by decide +kernel
theorem dX7_findRoute_112 : decode cX7_findRoute 112 = .ok (.goto 4, 3) := by decide +kernel
theorem dX7_findRoute_115 : decode cX7_findRoute 115 = .ok (.iconst 0, 1) := by decide +kernel
theorem dX7_findRoute_116 : decode cX7_findRoute 116 = .ok (.ior, 1) := by decide +kernel
theorem dX7_findRoute_117 : decode cX7_findRoute 117 = .ok (.istore 4, 2) := by decide +kernel
theorem dX7_findRoute_119 : decode cX7_findRoute 119 = .ok (.iinc 6 1, 3) := by decide +kernel
theorem dX7_findRoute_122 : decode cX7_findRoute 122 = .ok (.goto (-84), 3) := by decide +kernel
theorem dX7_findRoute_125 : decode cX7_findRoute 125 = .ok (.iload 5, 2) := by decide +kernel
theorem dX7_findRoute_127 : decode cX7_findRoute 127 = .ok (.ifCond .eq 43, 3) := by decide +kernel
theorem dX7_findRoute_130 : decode cX7_findRoute 130 = .ok (.iload_n 3, 1) := by decide +kernel
theorem dX7_findRoute_131 : decode cX7_findRoute 131 = .ok (.iload_n 1, 1) := by decide +kernel
theorem dX7_findRoute_132 : decode cX7_findRoute 132 = .ok (.if_icmp .ne 38, 3) := by decide +kernel
theorem dX7_findRoute_135 : decode cX7_findRoute 135 = .ok (.aload_n 0, 1) := by decide +kernel
theorem dX7_findRoute_136 : decode cX7_findRoute 136 = .ok (.getfield 209, 3) := by decide +kernel
theorem dX7_findRoute_139 : decode cX7_findRoute 139 = .ok (.bipush (-9), 2) := by decide +kernel
theorem dX7_findRoute_141 : decode cX7_findRoute 141 = .ok (.if_icmp .eq 15, 3) := by decide +kernel
theorem dX7_findRoute_144 : decode cX7_findRoute 144 = .ok (.iload 4, 2) := by decide +kernel
theorem dX7_findRoute_146 : decode cX7_findRoute 146 = .ok (.invokestatic 222, 3) := by decide +kernel
theorem dX7_findRoute_149 : decode cX7_findRoute 149 = .ok (.aload_n 0, 1) := by decide +kernel
theorem dX7_findRoute_150 : decode cX7_findRoute 150 = .ok (.getfield 209, 3) := by decide +kernel
theorem dX7_findRoute_153 : decode cX7_findRoute 153 = .ok (.if_icmp .ge 17, 3) := by decide +kernel
theorem dX7_findRoute_156 : decode cX7_findRoute 156 = .ok (.aload_n 0, 1) := by decide +kernel
theorem dX7_findRoute_157 : decode cX7_findRoute 157 = .ok (.iload 4, 2) := by decide +kernel
theorem dX7_findRoute_159 : decode cX7_findRoute 159 = .ok (.invokestatic 222, 3) := by decide +kernel
theorem dX7_findRoute_162 : decode cX7_findRoute 162 = .ok (.putfield 209, 3) := by decide +kernel
theorem dX7_findRoute_165 : decode cX7_findRoute 165 = .ok (.aload_n 0, 1) := by decide +kernel
theorem dX7_findRoute_166 : decode cX7_findRoute 166 = .ok (.iload_n 2, 1) := by decide +kernel
theorem dX7_findRoute_167 : decode cX7_findRoute 167 = .ok (.putfield 212, 3) := by decide +kernel
theorem dX7_findRoute_170 : decode cX7_findRoute 170 = .ok (.iinc 2 1, 3) := by decide +kernel
theorem dX7_findRoute_173 : decode cX7_findRoute 173 = .ok (.goto (-159), 3) := by decide +kernel
theorem dX7_findRoute_176 : decode cX7_findRoute 176 = .ok (.return_, 1) := by decide +kernel
set_option maxRecDepth 20000 in
theorem ggX7_route_X7_in : GoodIn wsX7_route wsX7_in := goodIn_r _ [8] (by decide +kernel) (by decide +kernel)
set_option maxRecDepth 20000 in
theorem gX7_route_X7_in : GoodIn wsX7_route (va_wsS RX7 69 yX7_in wsX7_in) := goodIn_app (goodIn_of _ (by decide +kernel)) ggX7_route_X7_in
set_option maxRecDepth 20000 in
theorem ggX7_route_X7_findRoute : GoodIn wsX7_route wsX7_findRoute := goodIn_r _ [12, 3, 4, 13, 14, 15, 16, 7, 17, 18, 19, 20, 21, 22, 23, 24, 25, 26, 27, 28, 29, 30, 31, 32, 33, 34, 35, 36, 37, 38, 39, 40, 41, 42, 43, 44, 45, 46, 47, 48, 49, 50, 51, 52, 53, 54, 55, 56, 57, 58, 59, 60, 61, 62, 63, 64] (by decide +kernel) (by decide +kernel)
set_option maxRecDepth 20000 in
theorem gX7_route_X7_findRoute : GoodIn wsX7_route (wsV RX7 227 RX7 yX7_findRoute wsX7_findRoute) := goodIn_app (goodIn_of _ (by decide +kernel)) ggX7_route_X7_findRoute
theorem dX7_route_0 : decode cX7_route 0 = .ok (.aload_n 0, 1) := by decide +kernel
theorem dX7_route_1 : decode cX7_route 1 = .ok (.iconst 0, 1) := by decide +kernel
theorem dX7_route_2 : decode cX7_route 2 = .ok (.putfield 62, 3) := by decide +kernel
theorem dX7_route_5 : decode cX7_route 5 = .ok (.iload_n 1, 1) := by decide +kernel
theorem dX7_route_6 : decode cX7_route 6 = .ok (.i2l, 1) := by decide +kernel
theorem dX7_route_7 : decode cX7_route 7 = .ok (.lconst 1, 1) := by decide +kernel
theorem dX7_route_8 : decode cX7_route 8 = .ok (.ldc2_w 225, 3) := by decide +kernel
theorem dX7_route_11 : decode cX7_route 11 = .ok (.invokestatic 69, 3) := by decide +kernel
theorem dX7_route_14 : decode cX7_route 14 = .ok (.ifCond .eq 13, 3) := by decide +kernel
theorem dX7_route_17 : decode cX7_route 17 = .ok (.iload_n 2, 1) := by decide +kernel
theorem dX7_route_18 : decode cX7_route 18 = .ok (.i2l, 1) := by decide +kernel
theorem dX7_route_19 : decode cX7_route 19 = .ok (.lconst 0, 1) := by decide +kernel
theorem dX7_route_20 : decode cX7_route 20 = .ok (.lconst 1, 1) := by decide +kernel
theorem dX7_route_21 : decode cX7_route 21 = .ok (.invokestatic 69, 3) := by decide +kernel
theorem dX7_route_24 : decode cX7_route 24 = .ok (.ifCond .ne 6, 3) := by decide +kernel
theorem dX7_route_27 : decode cX7_route 27 = .ok (.bipush (-2), 2) := by decide +kernel
theorem dX7_route_29 : decode cX7_route 29 = .ok (.ireturn, 1) := by decide +kernel
theorem dX7_route_30 : decode cX7_route 30 = .ok (.aload_n 0, 1) := by decide +kernel
theorem dX7_route_31 : decode cX7_route 31 = .ok (.iload_n 1, 1) := by decide +kernel
theorem dX7_route_32 : decode cX7_route 32 = .ok (.invokevirtual 227, 3) := by decide +kernel
theorem dX7_route_35 : decode cX7_route 35 = .ok (.iload_n 2, 1) := by decide +kernel
theorem dX7_route_36 : decode cX7_route 36 = .ok (.ifCond .ne 10, 3) := by decide +kernel
theorem dX7_route_39 : decode cX7_route 39 = .ok (.aload_n 0, 1) := by decide +kernel
theorem dX7_route_40 : decode cX7_route 40 = .ok (.getfield 209, 3) := by decide +kernel
theorem dX7_route_43 : decode cX7_route 43 = .ok (.goto 7, 3) := by decide +kernel
theorem dX7_route_46 : decode cX7_route 46 = .ok (.aload_n 0, 1) := by decide +kernel
theorem dX7_route_47 : decode cX7_route 47 = .ok (.getfield 212, 3) := by decide +kernel
theorem dX7_route_50 : decode cX7_route 50 = .ok (.ireturn, 1) := by decide +kernel
theorem dX7_longPower_0 : decode cX7_longPower 0 = .ok (.lconst 1, 1) := by decide +kernel
theorem dX7_longPower_1 : decode cX7_longPower 1 = .ok (.lstore_n 3, 1) := by decide +kernel
theorem dX7_longPower_2 : decode cX7_longPower 2 = .ok (.iconst 0, 1) := by decide +kernel
theorem dX7_longPower_3 : decode cX7_longPower 3 = .ok (.istore 5, 2) := by decide +kernel
theorem dX7_longPower_5 : decode cX7_longPower 5 = .ok (.iload 5, 2) := by decide +kernel
theorem dX7_longPower_7 : decode cX7_longPower 7 = .ok (.iload_n 2, 1) := by decide +kernel
theorem dX7_longPower_8 : decode cX7_longPower 8 = .ok (.if_icmp .ge 13, 3) := by decide +kernel
theorem dX7_longPower_11 : decode cX7_longPower 11 = .ok (.lload_n 3, 1) := by decide +kernel
theorem dX7_longPower_12 : decode cX7_longPower 12 = .ok (.lload_n 0, 1) := by decide +kernel
theorem dX7_longPower_13 : decode cX7_longPower 13 = .ok (.lmul, 1) := by decide +kernel
theorem dX7_longPower_14 : decode cX7_longPower 14 = .ok (.lstore_n 3, 1) := by decide +kernel
theorem dX7_longPower_15 : decode cX7_longPower 15 = .ok (.iinc 5 1, 3) := by decide +kernel
theorem dX7_longPower_18 : decode cX7_longPower 18 = .ok (.goto (-13), 3) := by decide +kernel
theorem dX7_longPower_21 : decode cX7_longPower 21 = .ok (.lload_n 3, 1) := by decide +kernel
theorem dX7_longPower_22 : decode cX7_longPower 22 = .ok (.lreturn, 1) := by decide +kernel
set_option maxRecDepth 20000 in
theorem ggX7_puts_X7_noMan : GoodIn wsX7_puts wsX7_noMan := goodIn_r _ [6, 7, 8, 9, 5, 10, 28, 29, 30, 31, 32, 33, 34, 35, 36, 37, 38, 39, 40, 41, 42, 43, 44, 45, 46, 47, 48, 49, 50, 51, 52, 53, 54, 55, 56, 57, 58, 59, 60] (by decide +kernel) (by decide +kernel)
set_option maxRecDepth 20000 in
theorem gX7_puts_X7_noMan : GoodIn wsX7_puts (wsV RX7 170 RX7 yX7_noMan wsX7_noMan) := goodIn_app (goodIn_of _ (by decide +kernel)) ggX7_puts_X7_noMan
set_option maxRecDepth 20000 in
theorem ggX7_puts_X7_noBag : GoodIn wsX7_puts wsX7_noBag := goodIn_r _ [14, 15, 8, 9, 5, 10, 28, 29, 30, 31, 32, 33, 34, 35, 36, 37, 38, 39, 40, 41, 42, 43, 44, 45, 46, 47, 48, 49, 50, 51, 52, 53, 54, 55, 56, 57, 58, 59, 60] (by decide +kernel) (by decide +kernel)
set_option maxRecDepth 20000 in
theorem gX7_puts_X7_noBag : GoodIn wsX7_puts (wsV RX7 163 RX7 yX7_noBag wsX7_noBag) := goodIn_app (goodIn_of _ (by decide +kernel)) ggX7_puts_X7_noBag
set_option maxRecDepth 20000 in
theorem ggX7_puts_X7_canGive : GoodIn wsX7_puts wsX7_canGive := goodIn_r _ [18, 19, 20, 5, 21] (by decide +kernel) (by decide +kernel)
set_option maxRecDepth 20000 in
theorem gX7_puts_X7_canGive : GoodIn wsX7_puts (va_wsS RX7 173 yX7_canGive wsX7_canGive) := goodIn_app (goodIn_of _ (by decide +kernel)) ggX7_puts_X7_canGive
set_option maxRecDepth 20000 in
theorem ggX7_puts_X7_give : GoodIn wsX7_puts wsX7_give := goodIn_r _ [24, 25, 26, 5, 27] (by decide +kernel) (by decide +kernel)
set_option maxRecDepth 20000 in
theorem gX7_puts_X7_give : GoodIn wsX7_puts (va_wsS RX7 180 yX7_give wsX7_give) := goodIn_app (goodIn_of _ (by decide +kernel)) ggX7_puts_X7_give
theorem dX7_puts_0 : decode cX7_puts 0 = .ok (.aload_n 0, 1) := by decide +kernel
theorem dX7_puts_1 : decode cX7_puts 1 = .ok (.iload_n 1, 1) := by decide +kernel
theorem dX7_puts_2 : decode cX7_puts 2 = .ok (.invokevirtual 170, 3) := by decide +kernel
theorem dX7_puts_5 : decode cX7_puts 5 = .ok (.ifCond .ne 37, 3) := by decide +kernel
theorem dX7_puts_8 : decode cX7_puts 8 = .ok (.aload_n 0, 1) := by decide +kernel
theorem dX7_puts_9 : decode cX7_puts 9 = .ok (.iload_n 2, 1) := by decide +kernel
theorem dX7_puts_10 : decode cX7_puts 10 = .ok (.invokevirtual 163, 3) := by decide +kernel
theorem dX7_puts_13 : decode cX7_puts 13 = .ok (.ifCond .ne 29, 3) := by decide +kernel
theorem dX7_puts_16 : decode cX7_puts 16 = .ok (.aload_n 0, 1) := by decide +kernel
theorem dX7_puts_17 : decode cX7_puts 17 = .ok (.getfield 31, 3) := by decide +kernel
theorem dX7_puts_20 : decode cX7_puts 20 = .ok (.iload_n 1, 1) := by decide +kernel
theorem dX7_puts_21 : decode cX7_puts 21 = .ok (.invokestatic 173, 3) := by decide +kernel
theorem dX7_puts_24 : decode cX7_puts 24 = .ok (.ifCond .eq 18, 3) := by decide +kernel
