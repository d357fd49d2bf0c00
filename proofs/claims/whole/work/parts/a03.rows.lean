theorem dX0_init_0 : decode cX0_init 0 = .ok (.aload_n 0, 1) := by decide +kernel
theorem dX0_init_1 : decode cX0_init 1 = .ok (.invokespecial 5, 3) := by decide +kernel
theorem dX0_init_4 : decode cX0_init 4 = .ok (.aload_n 0, 1) := by decide +kernel
theorem dX0_init_5 : decode cX0_init 5 = .ok (.iconst 0, 1) := by decide +kernel
theorem dX0_init_6 : decode cX0_init 6 = .ok (.putfield 11, 3) := by decide +kernel
theorem dX0_init_9 : decode cX0_init 9 = .ok (.aload_n 0, 1) := by decide +kernel
theorem dX0_init_10 : decode cX0_init 10 = .ok (.iconst 0, 1) := by decide +kernel
theorem dX0_init_11 : decode cX0_init 11 = .ok (.putfield 15, 3) := by decide +kernel
theorem dX0_init_14 : decode cX0_init 14 = .ok (.aload_n 0, 1) := by decide +kernel
theorem dX0_init_15 : decode cX0_init 15 = .ok (.iconst 3, 1) := by decide +kernel
theorem dX0_init_16 : decode cX0_init 16 = .ok (.newarray .int, 2) := by decide +kernel
theorem dX0_init_18 : decode cX0_init 18 = .ok (.putfield 18, 3) := by decide +kernel
theorem dX0_init_21 : decode cX0_init 21 = .ok (.aload_n 0, 1) := by decide +kernel
theorem dX0_init_22 : decode cX0_init 22 = .ok (.iconst 5, 1) := by decide +kernel
theorem dX0_init_23 : decode cX0_init 23 = .ok (.newarray .int, 2) := by decide +kernel
theorem dX0_init_25 : decode cX0_init 25 = .ok (.putfield 22, 3) := by decide +kernel
theorem dX0_init_28 : decode cX0_init 28 = .ok (.aload_n 0, 1) := by decide +kernel
theorem dX0_init_29 : decode cX0_init 29 = .ok (.bipush 23, 2) := by decide +kernel
theorem dX0_init_31 : decode cX0_init 31 = .ok (.newarray .int, 2) := by decide +kernel
theorem dX0_init_33 : decode cX0_init 33 = .ok (.putfield 25, 3) := by decide +kernel
theorem dX0_init_36 : decode cX0_init 36 = .ok (.return_, 1) := by decide +kernel
theorem dX0_empty_0 : decode cX0_empty 0 = .ok (.aload_n 0, 1) := by decide +kernel
theorem dX0_empty_1 : decode cX0_empty 1 = .ok (.iconst 0, 1) := by decide +kernel
theorem dX0_empty_2 : decode cX0_empty 2 = .ok (.putfield 11, 3) := by decide +kernel
theorem dX0_empty_5 : decode cX0_empty 5 = .ok (.aload_n 0, 1) := by decide +kernel
theorem dX0_empty_6 : decode cX0_empty 6 = .ok (.iconst 0, 1) := by decide +kernel
theorem dX0_empty_7 : decode cX0_empty 7 = .ok (.putfield 15, 3) := by decide +kernel
theorem dX0_empty_10 : decode cX0_empty 10 = .ok (.iconst 0, 1) := by decide +kernel
theorem dX0_empty_11 : decode cX0_empty 11 = .ok (.istore_n 1, 1) := by decide +kernel
theorem dX0_empty_12 : decode cX0_empty 12 = .ok (.iload_n 1, 1) := by decide +kernel
theorem dX0_empty_13 : decode cX0_empty 13 = .ok (.aload_n 0, 1) := by decide +kernel
theorem dX0_empty_14 : decode cX0_empty 14 = .ok (.getfield 25, 3) := by decide +kernel
theorem dX0_empty_17 : decode cX0_empty 17 = .ok (.arraylength, 1) := by decide +kernel
theorem dX0_empty_18 : decode cX0_empty 18 = .ok (.if_icmp .ge 16, 3) := by decide +kernel
theorem dX0_empty_21 : decode cX0_empty 21 = .ok (.aload_n 0, 1) := by decide +kernel
theorem dX0_empty_22 : decode cX0_empty 22 = .ok (.getfield 25, 3) := by decide +kernel
theorem dX0_empty_25 : decode cX0_empty 25 = .ok (.iload_n 1, 1) := by decide +kernel
theorem dX0_empty_26 : decode cX0_empty 26 = .ok (.iconst 0, 1) := by decide +kernel
theorem dX0_empty_27 : decode cX0_empty 27 = .ok (.iastore, 1) := by decide +kernel
theorem dX0_empty_28 : decode cX0_empty 28 = .ok (.iinc 1 1, 3) := by decide +kernel
theorem dX0_empty_31 : decode cX0_empty 31 = .ok (.goto (-19), 3) := by decide +kernel
theorem dX0_empty_34 : decode cX0_empty 34 = .ok (.return_, 1) := by decide +kernel
theorem dX0_becomeAll_0 : decode cX0_becomeAll 0 = .ok (.aload_n 0, 1) := by decide +kernel
theorem dX0_becomeAll_1 : decode cX0_becomeAll 1 = .ok (.aload_n 1, 1) := by decide +kernel
theorem dX0_becomeAll_2 : decode cX0_becomeAll 2 = .ok (.getfield 11, 3) := by decide +kernel
theorem dX0_becomeAll_5 : decode cX0_becomeAll 5 = .ok (.putfield 11, 3) := by decide +kernel
theorem dX0_becomeAll_8 : decode cX0_becomeAll 8 = .ok (.aload_n 0, 1) := by decide +kernel
theorem dX0_becomeAll_9 : decode cX0_becomeAll 9 = .ok (.aload_n 1, 1) := by decide +kernel
theorem dX0_becomeAll_10 : decode cX0_becomeAll 10 = .ok (.getfield 15, 3) := by decide +kernel
theorem dX0_becomeAll_13 : decode cX0_becomeAll 13 = .ok (.putfield 15, 3) := by decide +kernel
theorem dX0_becomeAll_16 : decode cX0_becomeAll 16 = .ok (.iconst 0, 1) := by decide +kernel
theorem dX0_becomeAll_17 : decode cX0_becomeAll 17 = .ok (.istore_n 2, 1) := by decide +kernel
theorem dX0_becomeAll_18 : decode cX0_becomeAll 18 = .ok (.iload_n 2, 1) := by decide +kernel
theorem dX0_becomeAll_19 : decode cX0_becomeAll 19 = .ok (.iconst 3, 1) := by decide +kernel
theorem dX0_becomeAll_20 : decode cX0_becomeAll 20 = .ok (.if_icmp .ge 21, 3) := by decide +kernel
theorem dX0_becomeAll_23 : decode cX0_becomeAll 23 = .ok (.aload_n 0, 1) := by decide +kernel
theorem dX0_becomeAll_24 : decode cX0_becomeAll 24 = .ok (.getfield 18, 3) := by decide +kernel
theorem dX0_becomeAll_27 : decode cX0_becomeAll 27 = .ok (.iload_n 2, 1) := by decide +kernel
theorem dX0_becomeAll_28 : decode cX0_becomeAll 28 = .ok (.aload_n 1, 1) := by decide +kernel
theorem dX0_becomeAll_29 : decode cX0_becomeAll 29 = .ok (.getfield 18, 3) := by decide +kernel
theorem dX0_becomeAll_32 : decode cX0_becomeAll 32 = .ok (.iload_n 2, 1) := by decide +kernel
theorem dX0_becomeAll_33 : decode cX0_becomeAll 33 = .ok (.iaload, 1) := by decide +kernel
theorem dX0_becomeAll_34 : decode cX0_becomeAll 34 = .ok (.iastore, 1) := by decide +kernel
theorem dX0_becomeAll_35 : decode cX0_becomeAll 35 = .ok (.iinc 2 1, 3) := by decide +kernel
theorem dX0_becomeAll_38 : decode cX0_becomeAll 38 = .ok (.goto (-20), 3) := by decide +kernel
theorem dX0_becomeAll_41 : decode cX0_becomeAll 41 = .ok (.iconst 0, 1) := by decide +kernel
theorem dX0_becomeAll_42 : decode cX0_becomeAll 42 = .ok (.istore_n 2, 1) := by decide +kernel
theorem dX0_becomeAll_43 : decode cX0_becomeAll 43 = .ok (.iload_n 2, 1) := by decide +kernel
theorem dX0_becomeAll_44 : decode cX0_becomeAll 44 = .ok (.iconst 5, 1) := by decide +kernel
theorem dX0_becomeAll_45 : decode cX0_becomeAll 45 = .ok (.if_icmp .ge 21, 3) := by decide +kernel
theorem dX0_becomeAll_48 : decode cX0_becomeAll 48 = .ok (.aload_n 0, 1) := by decide +kernel
theorem dX0_becomeAll_49 : decode cX0_becomeAll 49 = .ok (.getfield 22, 3) := by decide +kernel
theorem dX0_becomeAll_52 : decode cX0_becomeAll 52 = .ok (.iload_n 2, 1) := by decide +kernel
theorem dX0_becomeAll_53 : decode cX0_becomeAll 53 = .ok (.aload_n 1, 1) := by decide +kernel
theorem dX0_becomeAll_54 : decode cX0_becomeAll 54 = .ok (.getfield 22, 3) := by decide +kernel
theorem dX0_becomeAll_57 : decode cX0_becomeAll 57 = .ok (.iload_n 2, 1) := by decide +kernel
theorem dX0_becomeAll_58 : decode cX0_becomeAll 58 = .ok (.iaload, 1) := by decide +kernel
theorem dX0_becomeAll_59 : decode cX0_becomeAll 59 = .ok (.iastore, 1) := by decide +kernel
theorem dX0_becomeAll_60 : decode cX0_becomeAll 60 = .ok (.iinc 2 1, 3) := by decide +kernel
theorem dX0_becomeAll_63 : decode cX0_becomeAll 63 = .ok (.goto (-20), 3) := by decide +kernel
theorem dX0_becomeAll_66 : decode cX0_becomeAll 66 = .ok (.iconst 0, 1) := by decide +kernel
theorem dX0_becomeAll_67 : decode cX0_becomeAll 67 = .ok (.istore_n 2, 1) := by decide +kernel
theorem dX0_becomeAll_68 : decode cX0_becomeAll 68 = .ok (.iload_n 2, 1) := by decide +kernel
theorem dX0_becomeAll_69 : decode cX0_becomeAll 69 = .ok (.bipush 23, 2) := by decide +kernel
theorem dX0_becomeAll_71 : decode cX0_becomeAll 71 = .ok (.if_icmp .ge 21, 3) := by decide +kernel
theorem dX0_becomeAll_74 : decode cX0_becomeAll 74 = .ok (.aload_n 0, 1) := by decide +kernel
theorem dX0_becomeAll_75 : decode cX0_becomeAll 75 = .ok (.getfield 25, 3) := by decide +kernel
theorem dX0_becomeAll_78 : decode cX0_becomeAll 78 = .ok (.iload_n 2, 1) := by decide +kernel
theorem dX0_becomeAll_79 : decode cX0_becomeAll 79 = .ok (.aload_n 1, 1) := by decide +kernel
theorem dX0_becomeAll_80 : decode cX0_becomeAll 80 = .ok (.getfield 25, 3) := by decide +kernel
theorem dX0_becomeAll_83 : decode cX0_becomeAll 83 = .ok (.iload_n 2, 1) := by decide +kernel
theorem dX0_becomeAll_84 : decode cX0_becomeAll 84 = .ok (.iaload, 1) := by decide +kernel
theorem dX0_becomeAll_85 : decode cX0_becomeAll 85 = .ok (.iastore, 1) := by decide +kernel
theorem dX0_becomeAll_86 : decode cX0_becomeAll 86 = .ok (.iinc 2 1, 3) := by decide +kernel
theorem dX0_becomeAll_89 : decode cX0_becomeAll 89 = .ok (.goto (-21), 3) := by decide +kernel
theorem dX0_becomeAll_92 : decode cX0_becomeAll 92 = .ok (.return_, 1) := by decide +kernel
theorem dX0_copyTo_0 : decode cX0_copyTo 0 = .ok (.iconst 0, 1) := by decide +kernel
theorem dX0_copyTo_1 : decode cX0_copyTo 1 = .ok (.istore_n 3, 1) := by decide +kernel
theorem dX0_copyTo_2 : decode cX0_copyTo 2 = .ok (.iload_n 3, 1) := by decide +kernel
theorem dX0_copyTo_3 : decode cX0_copyTo 3 = .ok (.bipush 23, 2) := by decide +kernel
theorem dX0_copyTo_5 : decode cX0_copyTo 5 = .ok (.if_icmp .ge 39, 3) := by decide +kernel
theorem dX0_copyTo_8 : decode cX0_copyTo 8 = .ok (.iload_n 2, 1) := by decide +kernel
theorem dX0_copyTo_9 : decode cX0_copyTo 9 = .ok (.bipush 23, 2) := by decide +kernel
theorem dX0_copyTo_11 : decode cX0_copyTo 11 = .ok (.imul, 1) := by decide +kernel
theorem dX0_copyTo_12 : decode cX0_copyTo 12 = .ok (.iload_n 3, 1) := by decide +kernel
theorem dX0_copyTo_13 : decode cX0_copyTo 13 = .ok (.iadd, 1) := by decide +kernel
theorem dX0_copyTo_14 : decode cX0_copyTo 14 = .ok (.istore 4, 2) := by decide +kernel
theorem dX0_copyTo_16 : decode cX0_copyTo 16 = .ok (.iload 4, 2) := by decide +kernel
theorem dX0_copyTo_18 : decode cX0_copyTo 18 = .ok (.ifCond .lt 20, 3) := by decide +kernel
theorem dX0_copyTo_21 : decode cX0_copyTo 21 = .ok (.iload 4, 2) := by decide +kernel
theorem dX0_copyTo_23 : decode cX0_copyTo 23 = .ok (.aload_n 1, 1) := by decide +kernel
theorem dX0_copyTo_24 : decode cX0_copyTo 24 = .ok (.arraylength, 1) := by decide +kernel
theorem dX0_copyTo_25 : decode cX0_copyTo 25 = .ok (.if_icmp .ge 13, 3) := by decide +kernel
theorem dX0_copyTo_28 : decode cX0_copyTo 28 = .ok (.aload_n 1, 1) := by decide +kernel
theorem dX0_copyTo_29 : decode cX0_copyTo 29 = .ok (.iload 4, 2) := by decide +kernel
theorem dX0_copyTo_31 : decode cX0_copyTo 31 = .ok (.aload_n 0, 1) := by decide +kernel
theorem dX0_copyTo_32 : decode cX0_copyTo 32 = .ok (.getfield 25, 3) := by decide +kernel
theorem dX0_copyTo_35 : decode cX0_copyTo 35 = .ok (.iload_n 3, 1) := by decide +kernel
theorem dX0_copyTo_36 : decode cX0_copyTo 36 = .ok (.iaload, 1) := by decide +kernel
theorem dX0_copyTo_37 : decode cX0_copyTo 37 = .ok (.iastore, 1) := by decide +kernel
theorem dX0_copyTo_38 : decode cX0_copyTo 38 = .ok (.iinc 3 1, 3) := by decide +kernel
theorem dX0_copyTo_41 : decode cX0_copyTo 41 = .ok (.goto (-39), 3) := by decide +kernel
theorem dX0_copyTo_44 : decode cX0_copyTo 44 = .ok (.return_, 1) := by decide +kernel
theorem dX0_copyFrom_0 : decode cX0_copyFrom 0 = .ok (.iconst 0, 1) := by decide +kernel
theorem dX0_copyFrom_1 : decode cX0_copyFrom 1 = .ok (.istore_n 3, 1) := by decide +kernel
theorem dX0_copyFrom_2 : decode cX0_copyFrom 2 = .ok (.iload_n 3, 1) := by decide +kernel
theorem dX0_copyFrom_3 : decode cX0_copyFrom 3 = .ok (.bipush 23, 2) := by decide +kernel
theorem dX0_copyFrom_5 : decode cX0_copyFrom 5 = .ok (.if_icmp .ge 39, 3) := by decide +kernel
theorem dX0_copyFrom_8 : decode cX0_copyFrom 8 = .ok (.iload_n 2, 1) := by decide +kernel
theorem dX0_copyFrom_9 : decode cX0_copyFrom 9 = .ok (.bipush 23, 2) := by decide +kernel
theorem dX0_copyFrom_11 : decode cX0_copyFrom 11 = .ok (.imul, 1) := by decide +kernel
theorem dX0_copyFrom_12 : decode cX0_copyFrom 12 = .ok (.iload_n 3, 1) := by decide +kernel
theorem dX0_copyFrom_13 : decode cX0_copyFrom 13 = .ok (.iadd, 1) := by decide +kernel
theorem dX0_copyFrom_14 : decode cX0_copyFrom 14 = .ok (.istore 4, 2) := by decide +kernel
theorem dX0_copyFrom_16 : decode cX0_copyFrom 16 = .ok (.iload 4, 2) := by decide +kernel
theorem dX0_copyFrom_18 : decode cX0_copyFrom 18 = .ok (.ifCond .lt 20, 3) := by decide +kernel
theorem dX0_copyFrom_21 : decode cX0_copyFrom 21 = .ok (.iload 4, 2) := by decide +kernel
theorem dX0_copyFrom_23 : decode cX0_copyFrom 23 = .ok (.aload_n 1, 1) := by decide +kernel
theorem dX0_copyFrom_24 : decode cX0_copyFrom 24 = .ok (.arraylength, 1) := by decide +kernel
theorem dX0_copyFrom_25 : decode cX0_copyFrom 25 = .ok (.if_icmp .ge 13, 3) := by decide +kernel
theorem dX0_copyFrom_28 : decode cX0_copyFrom 28 = .ok (.aload_n 0, 1) := by decide +kernel
theorem dX0_copyFrom_29 : decode cX0_copyFrom 29 = .ok (.getfield 25, 3) := by decide +kernel
theorem dX0_copyFrom_32 : decode cX0_copyFrom 32 = .ok (.iload_n 3, 1) := by decide +kernel
theorem dX0_copyFrom_33 : decode cX0_copyFrom 33 = .ok (.aload_n 1, 1) := by decide +kernel
theorem dX0_copyFrom_34 : decode cX0_copyFrom 34 = .ok (.iload 4, 2) := by decide +kernel
theorem dX0_copyFrom_36 : decode cX0_copyFrom 36 = .ok (.iaload, 1) := by decide +kernel
theorem dX0_copyFrom_37 : decode cX0_copyFrom 37 = .ok (.iastore, 1) := by decide +kernel
theorem dX0_copyFrom_38 : decode cX0_copyFrom 38 = .ok (.iinc 3 1, 3) := by decide +kernel
theorem dX0_copyFrom_41 : decode cX0_copyFrom 41 = .ok (.goto (-39), 3) := by decide +kernel
theorem dX0_copyFrom_44 : decode cX0_copyFrom 44 = .ok (.return_, 1) := by decide +kernel
theorem dX0_addBag_0 : decode cX0_addBag 0 = .ok (.aload_n 0, 1) := by decide +kernel
theorem dX0_addBag_1 : decode cX0_addBag 1 = .ok (.getfield 11, 3) := by decide +kernel
theorem dX0_addBag_4 : decode cX0_addBag 4 = .ok (.ifCond .lt 35, 3) := by decide +kernel
theorem dX0_addBag_7 : decode cX0_addBag 7 = .ok (.aload_n 0, 1) := by decide +kernel
theorem dX0_addBag_8 : decode cX0_addBag 8 = .ok (.getfield 11, 3) := by decide +kernel
theorem dX0_addBag_11 : decode cX0_addBag 11 = .ok (.aload_n 0, 1) := by decide +kernel
theorem dX0_addBag_12 : decode cX0_addBag 12 = .ok (.getfield 18, 3) := by decide +kernel
theorem dX0_addBag_15 : decode cX0_addBag 15 = .ok (.arraylength, 1) := by decide +kernel
theorem dX0_addBag_16 : decode cX0_addBag 16 = .ok (.if_icmp .ge 23, 3) := by decide +kernel
theorem dX0_addBag_19 : decode cX0_addBag 19 = .ok (.aload_n 0, 1) := by decide +kernel
theorem dX0_addBag_20 : decode cX0_addBag 20 = .ok (.getfield 18, 3) := by decide +kernel
theorem dX0_addBag_23 : decode cX0_addBag 23 = .ok (.aload_n 0, 1) := by decide +kernel
theorem dX0_addBag_24 : decode cX0_addBag 24 = .ok (.getfield 11, 3) := by decide +kernel
theorem dX0_addBag_27 : decode cX0_addBag 27 = .ok (.iload_n 1, 1) := by decide +kernel
theorem dX0_addBag_28 : decode cX0_addBag 28 = .ok (.iastore, 1) := by decide +kernel
theorem dX0_addBag_29 : decode cX0_addBag 29 = .ok (.aload_n 0, 1) := by decide +kernel
theorem dX0_addBag_30 : decode cX0_addBag 30 = .ok (.dup, 1) := by decide +kernel
theorem dX0_addBag_31 : decode cX0_addBag 31 = .ok (.getfield 11, 3) := by decide +kernel
theorem dX0_addBag_34 : decode cX0_addBag 34 = .ok (.iconst 1, 1) := by decide +kernel
theorem dX0_addBag_35 : decode cX0_addBag 35 = .ok (.iadd, 1) := by decide +kernel
theorem dX0_addBag_36 : decode cX0_addBag 36 = .ok (.putfield 11, 3) := by decide +kernel
theorem dX0_addBag_39 : decode cX0_addBag 39 = .ok (.return_, 1) := by decide +kernel
set_option maxRecDepth 20000 in
theorem ggX0_addMan_X0_addTo : GoodIn wsX0_addMan wsX0_addTo := goodIn_r _ [7, 8, 9, 10, 6, 11, 12, 13, 14, 15, 16, 17, 18, 19, 20, 21] (by decide +kernel) (by decide +kernel)
set_option maxRecDepth 20000 in
theorem gX0_addMan_X0_addTo : GoodIn wsX0_addMan (wsV RX0 28 RX0 yX0_addTo wsX0_addTo) := goodIn_app (goodIn_of _ (by decide +kernel)) ggX0_addMan_X0_addTo
theorem dX0_addMan_0 : decode cX0_addMan 0 = .ok (.aload_n 0, 1) := by decide +kernel
theorem dX0_addMan_1 : decode cX0_addMan 1 = .ok (.getfield 15, 3) := by decide +kernel
theorem dX0_addMan_4 : decode cX0_addMan 4 = .ok (.ifCond .lt 48, 3) := by decide +kernel
theorem dX0_addMan_7 : decode cX0_addMan 7 = .ok (.aload_n 0, 1) := by decide +kernel
theorem dX0_addMan_8 : decode cX0_addMan 8 = .ok (.getfield 15, 3) := by decide +kernel
theorem dX0_addMan_11 : decode cX0_addMan 11 = .ok (.aload_n 0, 1) := by decide +kernel
theorem dX0_addMan_12 : decode cX0_addMan 12 = .ok (.getfield 22, 3) := by decide +kernel
theorem dX0_addMan_15 : decode cX0_addMan 15 = .ok (.arraylength, 1) := by decide +kernel
theorem dX0_addMan_16 : decode cX0_addMan 16 = .ok (.if_icmp .ge 36, 3) := by decide +kernel
theorem dX0_addMan_19 : decode cX0_addMan 19 = .ok (.aload_n 0, 1) := by decide +kernel
theorem dX0_addMan_20 : decode cX0_addMan 20 = .ok (.getfield 22, 3) := by decide +kernel
theorem dX0_addMan_23 : decode cX0_addMan 23 = .ok (.aload_n 0, 1) := by decide +kernel
theorem dX0_addMan_24 : decode cX0_addMan 24 = .ok (.getfield 15, 3) := by decide +kernel
theorem dX0_addMan_27 : decode cX0_addMan 27 = .ok (.iload_n 2, 1) := by decide +kernel
theorem dX0_addMan_28 : decode cX0_addMan 28 = .ok (.iastore, 1) := by decide +kernel
theorem dX0_addMan_29 : decode cX0_addMan 29 = .ok (.aload_n 0, 1) := by decide +kernel
theorem dX0_addMan_30 : decode cX0_addMan 30 = .ok (.dup, 1) := by decide +kernel
theorem dX0_addMan_31 : decode cX0_addMan 31 = .ok (.getfield 15, 3) := by decide +kernel
theorem dX0_addMan_34 : decode cX0_addMan 34 = .ok (.iconst 1, 1) := by decide +kernel
theorem dX0_addMan_35 : decode cX0_addMan 35 = .ok (.iadd, 1) := by decide +kernel
theorem dX0_addMan_36 : decode cX0_addMan 36 = .ok (.putfield 15, 3) := by decide +kernel
theorem dX0_addMan_39 : decode cX0_addMan 39 = .ok (.aload_n 0, 1) := by decide +kernel
theorem dX0_addMan_40 : decode cX0_addMan 40 = .ok (.iconst 2, 1) := by decide +kernel
theorem dX0_addMan_41 : decode cX0_addMan 41 = .ok (.aload_n 0, 1) := by decide +kernel
theorem dX0_addMan_42 : decode cX0_addMan 42 = .ok (.getfield 15, 3) := by decide +kernel
theorem dX0_addMan_45 : decode cX0_addMan 45 = .ok (.iadd, 1) := by decide +kernel
theorem dX0_addMan_46 : decode cX0_addMan 46 = .ok (.iconst 1, 1) := by decide +kernel
theorem dX0_addMan_47 : decode cX0_addMan 47 = .ok (.isub, 1) := by decide +kernel
theorem dX0_addMan_48 : decode cX0_addMan 48 = .ok (.iload_n 1, 1) := by decide +kernel
theorem dX0_addMan_49 : decode cX0_addMan 49 = .ok (.invokevirtual 28, 3) := by decide +kernel
theorem dX0_addMan_52 : decode cX0_addMan 52 = .ok (.return_, 1) := by decide +kernel
theorem dX0_cell_0 : decode cX0_cell 0 = .ok (.iload_n 1, 1) := by decide +kernel
theorem dX0_cell_1 : decode cX0_cell 1 = .ok (.ifCond .lt 21, 3) := by decide +kernel
theorem dX0_cell_4 : decode cX0_cell 4 = .ok (.iload_n 1, 1) := by decide +kernel
theorem dX0_cell_5 : decode cX0_cell 5 = .ok (.aload_n 0, 1) := by decide +kernel
theorem dX0_cell_6 : decode cX0_cell 6 = .ok (.getfield 25, 3) := by decide +kernel
theorem dX0_cell_9 : decode cX0_cell 9 = .ok (.arraylength, 1) := by decide +kernel
theorem dX0_cell_10 : decode cX0_cell 10 = .ok (.if_icmp .ge 12, 3) := by decide +kernel
theorem dX0_cell_13 : decode cX0_cell 13 = .ok (.aload_n 0, 1) := by decide +kernel
theorem dX0_cell_14 : decode cX0_cell 14 = .ok (.getfield 25, 3) := by decide +kernel
theorem dX0_cell_17 : decode cX0_cell 17 = .ok (.iload_n 1, 1) := by decide +kernel
theorem dX0_cell_18 : decode cX0_cell 18 = .ok (.iaload, 1) := by decide +kernel
theorem dX0_cell_19 : decode cX0_cell 19 = .ok (.goto 4, 3) := by decide +kernel
theorem dX0_cell_22 : decode cX0_cell 22 = .ok (.iconst 0, 1) := by decide +kernel
theorem dX0_cell_23 : decode cX0_cell 23 = .ok (.ireturn, 1) := by decide +kernel
theorem dX0_setCell_0 : decode cX0_setCell 0 = .ok (.iload_n 1, 1) := by decide +kernel
theorem dX0_setCell_1 : decode cX0_setCell 1 = .ok (.ifCond .lt 19, 3) := by decide +kernel
theorem dX0_setCell_4 : decode cX0_setCell 4 = .ok (.iload_n 1, 1) := by decide +kernel
theorem dX0_setCell_5 : decode cX0_setCell 5 = .ok (.aload_n 0, 1) := by decide +kernel
theorem dX0_setCell_6 : decode cX0_setCell 6 = .ok (.getfield 25, 3) := by decide +kernel
theorem dX0_setCell_9 : decode cX0_setCell 9 = .ok (.arraylength, 1) := by decide +kernel
theorem dX0_setCell_10 : decode cX0_setCell 10 = .ok (.if_icmp .ge 10, 3) := by decide +kernel
theorem dX0_setCell_13 : decode cX0_setCell 13 = .ok (.aload_n 0, 1) := by decide +kernel
theorem dX0_setCell_14 : decode cX0_setCell 14 = .ok (.getfield 25, 3) := by decide +kernel
theorem dX0_setCell_17 : decode cX0_setCell 17 = .ok (.iload_n 1, 1) := by decide +kernel
theorem dX0_setCell_18 : decode cX0_setCell 18 = .ok (.iload_n 2, 1) := by decide +kernel
theorem dX0_setCell_19 : decode cX0_setCell 19 = .ok (.iastore, 1) := by decide +kernel
theorem dX0_setCell_20 : decode cX0_setCell 20 = .ok (.return_, 1) := by decide +kernel
set_option maxRecDepth 20000 in
theorem ggX0_addTo_X0_cell : GoodIn wsX0_addTo wsX0_cell := goodIn_r _ [5, 6, 11, 12, 13, 14, 15] (by decide +kernel) (by decide +kernel)
set_option maxRecDepth 20000 in
theorem gX0_addTo_X0_cell : GoodIn wsX0_addTo (wsV RX0 32 RX0 yX0_cell wsX0_cell) := goodIn_app (goodIn_of _ (by decide +kernel)) ggX0_addTo_X0_cell
set_option maxRecDepth 20000 in
theorem ggX0_addTo_X0_setCell : GoodIn wsX0_addTo wsX0_setCell := goodIn_r _ [10, 6, 11, 12, 13, 14, 15] (by decide +kernel) (by decide +kernel)
set_option maxRecDepth 20000 in
theorem gX0_addTo_X0_setCell : GoodIn wsX0_addTo (wsV RX0 36 RX0 yX0_setCell wsX0_setCell) := goodIn_app (goodIn_of _ (by decide +kernel)) ggX0_addTo_X0_setCell
theorem dX0_addTo_0 : decode cX0_addTo 0 = .ok (.aload_n 0, 1) := by decide +kernel
theorem dX0_addTo_1 : decode cX0_addTo 1 = .ok (.iload_n 1, 1) := by decide +kernel
theorem dX0_addTo_2 : decode cX0_addTo 2 = .ok (.aload_n 0, 1) := by decide +kernel
theorem dX0_addTo_3 : decode cX0_addTo 3 = .ok (.iload_n 1, 1) := by decide +kernel
theorem dX0_addTo_4 : decode cX0_addTo 4 = .ok (.invokevirtual 32, 3) := by decide +kernel
theorem dX0_addTo_7 : decode cX0_addTo 7 = .ok (.iload_n 2, 1) := by decide +kernel
theorem dX0_addTo_8 : decode cX0_addTo 8 = .ok (.iadd, 1) := by decide +kernel
theorem dX0_addTo_9 : decode cX0_addTo 9 = .ok (.invokevirtual 36, 3) := by decide +kernel
theorem dX0_addTo_12 : decode cX0_addTo 12 = .ok (.return_, 1) := by decide +kernel
theorem dX0_isBag_0 : decode cX0_isBag 0 = .ok (.iload_n 1, 1) := by decide +kernel
theorem dX0_isBag_1 : decode cX0_isBag 1 = .ok (.ifCond .lt 15, 3) := by decide +kernel
theorem dX0_isBag_4 : decode cX0_isBag 4 = .ok (.iload_n 1, 1) := by decide +kernel
theorem dX0_isBag_5 : decode cX0_isBag 5 = .ok (.aload_n 0, 1) := by decide +kernel
theorem dX0_isBag_6 : decode cX0_isBag 6 = .ok (.getfield 11, 3) := by decide +kernel
theorem dX0_isBag_9 : decode cX0_isBag 9 = .ok (.if_icmp .ge 7, 3) := by decide +kernel
theorem dX0_isBag_12 : decode cX0_isBag 12 = .ok (.iconst 1, 1) := by decide +kernel
theorem dX0_isBag_13 : decode cX0_isBag 13 = .ok (.goto 4, 3) := by decide +kernel
theorem dX0_isBag_16 : decode cX0_isBag 16 = .ok (.iconst 0, 1) := by decide +kernel
theorem dX0_isBag_17 : decode cX0_isBag 17 = .ok (.ireturn, 1) := by decide +kernel
theorem dX0_isMan_0 : decode cX0_isMan 0 = .ok (.iload_n 1, 1) := by decide +kernel
theorem dX0_isMan_1 : decode cX0_isMan 1 = .ok (.ifCond .lt 15, 3) := by decide +kernel
theorem dX0_isMan_4 : decode cX0_isMan 4 = .ok (.iload_n 1, 1) := by decide +kernel
theorem dX0_isMan_5 : decode cX0_isMan 5 = .ok (.aload_n 0, 1) := by decide +kernel
theorem dX0_isMan_6 : decode cX0_isMan 6 = .ok (.getfield 15, 3) := by decide +kernel
theorem dX0_isMan_9 : decode cX0_isMan 9 = .ok (.if_icmp .ge 7, 3) := by decide +kernel
theorem dX0_isMan_12 : decode cX0_isMan 12 = .ok (.iconst 1, 1) := by decide +kernel
theorem dX0_isMan_13 : decode cX0_isMan 13 = .ok (.goto 4, 3) := by decide +kernel
theorem dX0_isMan_16 : decode cX0_isMan 16 = .ok (.iconst 0, 1) := by decide +kernel
theorem dX0_isMan_17 : decode cX0_isMan 17 = .ok (.ireturn, 1) := by decide +kernel
theorem dX0_kindOfBag_0 : decode cX0_kindOfBag 0 = .ok (.iload_n 1, 1) := by decide +kernel
theorem dX0_kindOfBag_1 : decode cX0_kindOfBag 1 = .ok (.ifCond .lt 29, 3) := by decide +kernel
theorem dX0_kindOfBag_4 : decode cX0_kindOfBag 4 = .ok (.iload_n 1, 1) := by decide +kernel
theorem dX0_kindOfBag_5 : decode cX0_kindOfBag 5 = .ok (.aload_n 0, 1) := by decide +kernel
theorem dX0_kindOfBag_6 : decode cX0_kindOfBag 6 = .ok (.getfield 11, 3) := by decide +kernel
theorem dX0_kindOfBag_9 : decode cX0_kindOfBag 9 = .ok (.if_icmp .ge 21, 3) := by decide +kernel
theorem dX0_kindOfBag_12 : decode cX0_kindOfBag 12 = .ok (.iload_n 1, 1) := by decide +kernel
theorem dX0_kindOfBag_13 : decode cX0_kindOfBag 13 = .ok (.aload_n 0, 1) := by decide +kernel
theorem dX0_kindOfBag_14 : decode cX0_kindOfBag 14 = .ok (.getfield 18, 3) := by decide +kernel
theorem dX0_kindOfBag_17 : decode cX0_kindOfBag 17 = .ok (.arraylength, 1) := by decide +kernel
theorem dX0_kindOfBag_18 : decode cX0_kindOfBag 18 = .ok (.if_icmp .ge 12, 3) := by decide +kernel
theorem dX0_kindOfBag_21 : decode cX0_kindOfBag 21 = .ok (.aload_n 0, 1) := by decide +kernel
theorem dX0_kindOfBag_22 : decode cX0_kindOfBag 22 = .ok (.getfield 18, 3) := by decide +kernel
theorem dX0_kindOfBag_25 : decode cX0_kindOfBag 25 = .ok (.iload_n 1, 1) := by decide +kernel
theorem dX0_kindOfBag_26 : decode cX0_kindOfBag 26 = .ok (.iaload, 1) := by decide +kernel
theorem dX0_kindOfBag_27 : decode cX0_kindOfBag 27 = .ok (.goto 5, 3) := by decide +kernel
theorem dX0_kindOfBag_30 : decode cX0_kindOfBag 30 = .ok (.bipush (-9), 2) := by decide +kernel
theorem dX0_kindOfBag_32 : decode cX0_kindOfBag 32 = .ok (.ireturn, 1) := by decide +kernel
theorem dX0_kindOfMan_0 : decode cX0_kindOfMan 0 = .ok (.iload_n 1, 1) := by decide +kernel
theorem dX0_kindOfMan_1 : decode cX0_kindOfMan 1 = .ok (.ifCond .lt 29, 3) := by decide +kernel
theorem dX0_kindOfMan_4 : decode cX0_kindOfMan 4 = .ok (.iload_n 1, 1) := by decide +kernel
theorem dX0_kindOfMan_5 : decode cX0_kindOfMan 5 = .ok (.aload_n 0, 1) := by decide +kernel
theorem dX0_kindOfMan_6 : decode cX0_kindOfMan 6 = .ok (.getfield 15, 3) := by decide +kernel
theorem dX0_kindOfMan_9 : decode cX0_kindOfMan 9 = .ok (.if_icmp .ge 21, 3) := by decide +kernel
theorem dX0_kindOfMan_12 : decode cX0_kindOfMan 12 = .ok (.iload_n 1, 1) := by decide +kernel
theorem dX0_kindOfMan_13 : decode cX0_kindOfMan 13 = .ok (.aload_n 0, 1) := by decide +kernel
theorem dX0_kindOfMan_14 : decode cX0_kindOfMan 14 = .ok (.getfield 22, 3) := by decide +kernel
theorem dX0_kindOfMan_17 : decode cX0_kindOfMan 17 = .ok (.arraylength, 1) := by decide +kernel
theorem dX0_kindOfMan_18 : decode cX0_kindOfMan 18 = .ok (.if_icmp .ge 12, 3) := by decide +kernel
theorem dX0_kindOfMan_21 : decode cX0_kindOfMan 21 = .ok (.aload_n 0, 1) := by decide +kernel
theorem dX0_kindOfMan_22 : decode cX0_kindOfMan 22 = .ok (.getfield 22, 3) := by decide +kernel
theorem dX0_kindOfMan_25 : decode cX0_kindOfMan 25 = .ok (.iload_n 1, 1) := by decide +kernel
theorem dX0_kindOfMan_26 : decode cX0_kindOfMan 26 = .ok (.iaload, 1) := by decide +kernel
theorem dX0_kindOfMan_27 : decode cX0_kindOfMan 27 = .ok (.goto 5, 3) := by decide +kernel
theorem dX0_kindOfMan_30 : decode cX0_kindOfMan 30 = .ok (.bipush (-9), 2) := by decide +kernel
theorem dX0_kindOfMan_32 : decode cX0_kindOfMan 32 = .ok (.ireturn, 1) := by decide +kernel
set_option maxRecDepth 20000 in
theorem ggX0_today_X0_cell : GoodIn wsX0_today wsX0_cell := goodIn_r _ [5, 6, 7, 8, 9, 10, 11] (by decide +kernel) (by decide +kernel)
set_option maxRecDepth 20000 in
theorem gX0_today_X0_cell : GoodIn wsX0_today (wsV RX0 32 RX0 yX0_cell wsX0_cell) := goodIn_app (goodIn_of _ (by decide +kernel)) ggX0_today_X0_cell
theorem dX0_today_0 : decode cX0_today 0 = .ok (.aload_n 0, 1) := by decide +kernel
theorem dX0_today_1 : decode cX0_today 1 = .ok (.iconst 0, 1) := by decide +kernel
theorem dX0_today_2 : decode cX0_today 2 = .ok (.invokevirtual 32, 3) := by decide +kernel
theorem dX0_today_5 : decode cX0_today 5 = .ok (.ireturn, 1) := by decide +kernel
set_option maxRecDepth 20000 in
theorem ggX0_fallenBits_X0_cell : GoodIn wsX0_fallenBits wsX0_cell := goodIn_r _ [5, 6, 7, 8, 9, 10, 11] (by decide +kernel) (by decide +kernel)
set_option maxRecDepth 20000 in
theorem gX0_fallenBits_X0_cell : GoodIn wsX0_fallenBits (wsV RX0 32 RX0 yX0_cell wsX0_cell) := goodIn_app (goodIn_of _ (by decide +kernel)) ggX0_fallenBits_X0_cell
theorem dX0_fallenBits_0 : decode cX0_fallenBits 0 = .ok (.aload_n 0, 1) := by decide +kernel
theorem dX0_fallenBits_1 : decode cX0_fallenBits 1 = .ok (.iconst 1, 1) := by decide +kernel
theorem dX0_fallenBits_2 : decode cX0_fallenBits 2 = .ok (.invokevirtual 32, 3) := by decide +kernel
theorem dX0_fallenBits_5 : decode cX0_fallenBits 5 = .ok (.ireturn, 1) := by decide +kernel
set_option maxRecDepth 20000 in
theorem ggX0_hasFallen_X0_fallenBits : GoodIn wsX0_hasFallen wsX0_fallenBits := goodIn_r _ [5, 6, 7, 8, 4, 9, 10, 11, 12, 13, 14, 15] (by decide +kernel) (by decide +kernel)
set_option maxRecDepth 20000 in
theorem gX0_hasFallen_X0_fallenBits : GoodIn wsX0_hasFallen (wsV RX0 39 RX0 yX0_fallenBits wsX0_fallenBits) := goodIn_app (goodIn_of _ (by decide +kernel)) ggX0_hasFallen_X0_fallenBits
theorem dX0_hasFallen_0 : decode cX0_hasFallen 0 = .ok (.aload_n 0, 1) := by decide +kernel
theorem dX0_hasFallen_1 : decode cX0_hasFallen 1 = .ok (.invokevirtual 39, 3) := by decide +kernel
theorem dX0_hasFallen_4 : decode cX0_hasFallen 4 = .ok (.iload_n 1, 1) := by decide +kernel
theorem dX0_hasFallen_5 : decode cX0_hasFallen 5 = .ok (.ishr, 1) := by decide +kernel
theorem dX0_hasFallen_6 : decode cX0_hasFallen 6 = .ok (.iconst 1, 1) := by decide +kernel
theorem dX0_hasFallen_7 : decode cX0_hasFallen 7 = .ok (.iand, 1) := by decide +kernel
theorem dX0_hasFallen_8 : decode cX0_hasFallen 8 = .ok (.iconst 1, 1) := by decide +kernel
theorem dX0_hasFallen_9 : decode cX0_hasFallen 9 = .ok (.if_icmp .ne 7, 3) := by decide +kernel
theorem dX0_hasFallen_12 : decode cX0_hasFallen 12 = .ok (.iconst 1, 1) := by decide +kernel
theorem dX0_hasFallen_13 : decode cX0_hasFallen 13 = .ok (.goto 4, 3) := by decide +kernel
theorem dX0_hasFallen_16 : decode cX0_hasFallen 16 = .ok (.iconst 0, 1) := by decide +kernel
theorem dX0_hasFallen_17 : decode cX0_hasFallen 17 = .ok (.ireturn, 1) := by decide +kernel
set_option maxRecDepth 20000 in
theorem ggX0_ofMan_X0_isMan : GoodIn wsX0_ofMan wsX0_isMan := goodIn_r _ [5, 6, 12, 13, 14, 15, 16] (by decide +kernel) (by decide +kernel)
set_option maxRecDepth 20000 in
theorem gX0_ofMan_X0_isMan : GoodIn wsX0_ofMan (wsV RX0 43 RX0 yX0_isMan wsX0_isMan) := goodIn_app (goodIn_of _ (by decide +kernel)) ggX0_ofMan_X0_isMan
set_option maxRecDepth 20000 in
theorem ggX0_ofMan_X0_cell : GoodIn wsX0_ofMan wsX0_cell := goodIn_r _ [10, 11, 12, 13, 14, 15, 16] (by decide +kernel) (by decide +kernel)
set_option maxRecDepth 20000 in
theorem gX0_ofMan_X0_cell : GoodIn wsX0_ofMan (wsV RX0 32 RX0 yX0_cell wsX0_cell) := goodIn_app (goodIn_of _ (by decide +kernel)) ggX0_ofMan_X0_cell
theorem dX0_ofMan_0 : decode cX0_ofMan 0 = .ok (.aload_n 0, 1) := by decide +kernel
theorem dX0_ofMan_1 : decode cX0_ofMan 1 = .ok (.iload_n 2, 1) := by decide +kernel
theorem dX0_ofMan_2 : decode cX0_ofMan 2 = .ok (.invokevirtual 43, 3) := by decide +kernel
theorem dX0_ofMan_5 : decode cX0_ofMan 5 = .ok (.ifCond .eq 13, 3) := by decide +kernel
theorem dX0_ofMan_8 : decode cX0_ofMan 8 = .ok (.aload_n 0, 1) := by decide +kernel
theorem dX0_ofMan_9 : decode cX0_ofMan 9 = .ok (.iload_n 1, 1) := by decide +kernel
theorem dX0_ofMan_10 : decode cX0_ofMan 10 = .ok (.iload_n 2, 1) := by decide +kernel
theorem dX0_ofMan_11 : decode cX0_ofMan 11 = .ok (.iadd, 1) := by decide +kernel
theorem dX0_ofMan_12 : decode cX0_ofMan 12 = .ok (.invokevirtual 32, 3) := by decide +kernel
theorem dX0_ofMan_15 : decode cX0_ofMan 15 = .ok (.goto 4, 3) := by decide +kernel
theorem dX0_ofMan_18 : decode cX0_ofMan 18 = .ok (.iconst 0, 1) := by decide +kernel
theorem dX0_ofMan_19 : decode cX0_ofMan 19 = .ok (.ireturn, 1) := by decide +kernel
set_option maxRecDepth 20000 in
theorem ggX0_sumOfMen_X0_ofMan : GoodIn wsX0_sumOfMen wsX0_ofMan := goodIn_r _ [6, 7, 8, 9, 5, 10, 1, 11, 12, 13, 14, 15, 16, 17, 18, 19, 20] (by decide +kernel) (by decide +kernel)
set_option maxRecDepth 20000 in
theorem gX0_sumOfMen_X0_ofMan : GoodIn wsX0_sumOfMen (wsV RX0 47 RX0 yX0_ofMan wsX0_ofMan) := goodIn_app (goodIn_of _ (by decide +kernel)) ggX0_sumOfMen_X0_ofMan
theorem dX0_sumOfMen_0 : decode cX0_sumOfMen 0 = .ok (.iconst 0, 1) := by decide +kernel
theorem dX0_sumOfMen_1 : decode cX0_sumOfMen 1 = .ok (.istore_n 2, 1) := by decide +kernel
theorem dX0_sumOfMen_2 : decode cX0_sumOfMen 2 = .ok (.iconst 0, 1) := by decide +kernel
theorem dX0_sumOfMen_3 : decode cX0_sumOfMen 3 = .ok (.istore_n 3, 1) := by decide +kernel
theorem dX0_sumOfMen_4 : decode cX0_sumOfMen 4 = .ok (.iload_n 3, 1) := by decide +kernel
theorem dX0_sumOfMen_5 : decode cX0_sumOfMen 5 = .ok (.aload_n 0, 1) := by decide +kernel
theorem dX0_sumOfMen_6 : decode cX0_sumOfMen 6 = .ok (.getfield 15, 3) := by decide +kernel
theorem dX0_sumOfMen_9 : decode cX0_sumOfMen 9 = .ok (.if_icmp .ge 18, 3) := by decide +kernel
theorem dX0_sumOfMen_12 : decode cX0_sumOfMen 12 = .ok (.iload_n 2, 1) := by decide +kernel
theorem dX0_sumOfMen_13 : decode cX0_sumOfMen 13 = .ok (.aload_n 0, 1) := by decide +kernel
theorem dX0_sumOfMen_14 : decode cX0_sumOfMen 14 = .ok (.iload_n 1, 1) := by decide +kernel
theorem dX0_sumOfMen_15 : decode cX0_sumOfMen 15 = .ok (.iload_n 3, 1) := by decide +kernel
theorem dX0_sumOfMen_16 : decode cX0_sumOfMen 16 = .ok (.invokevirtual 47, 3) := by decide +kernel
theorem dX0_sumOfMen_19 : decode cX0_sumOfMen 19 = .ok (.iadd, 1) := by decide +kernel
theorem dX0_sumOfMen_20 : decode cX0_sumOfMen 20 = .ok (.istore_n 2, 1) := by decide +kernel
theorem dX0_sumOfMen_21 : decode cX0_sumOfMen 21 = .ok (.iinc 3 1, 3) := by decide +kernel
theorem dX0_sumOfMen_24 : decode cX0_sumOfMen 24 = .ok (.goto (-20), 3) := by decide +kernel
theorem dX0_sumOfMen_27 : decode cX0_sumOfMen 27 = .ok (.iload_n 2, 1) := by decide +kernel
theorem dX0_sumOfMen_28 : decode cX0_sumOfMen 28 = .ok (.ireturn, 1) := by decide +kernel
set_option maxRecDepth 20000 in
theorem ggX0_breathsIn_X0_isBag : GoodIn wsX0_breathsIn wsX0_isBag := goodIn_r _ [5, 6, 12, 13, 14, 15, 16] (by decide +kernel) (by decide +kernel)
set_option maxRecDepth 20000 in
theorem gX0_breathsIn_X0_isBag : GoodIn wsX0_breathsIn (wsV RX0 51 RX0 yX0_isBag wsX0_isBag) := goodIn_app (goodIn_of _ (by decide +kernel)) ggX0_breathsIn_X0_isBag
set_option maxRecDepth 20000 in
theorem ggX0_breathsIn_X0_cell : GoodIn wsX0_breathsIn wsX0_cell := goodIn_r _ [10, 11, 12, 13, 14, 15, 16] (by decide +kernel) (by decide +kernel)
set_option maxRecDepth 20000 in
theorem gX0_breathsIn_X0_cell : GoodIn wsX0_breathsIn (wsV RX0 32 RX0 yX0_cell wsX0_cell) := goodIn_app (goodIn_of _ (by decide +kernel)) ggX0_breathsIn_X0_cell
theorem dX0_breathsIn_0 : decode cX0_breathsIn 0 = .ok (.aload_n 0, 1) := by decide +kernel
theorem dX0_breathsIn_1 : decode cX0_breathsIn 1 = .ok (.iload_n 1, 1) := by decide +kernel
theorem dX0_breathsIn_2 : decode cX0_breathsIn 2 = .ok (.invokevirtual 51, 3) := by decide +kernel
theorem dX0_breathsIn_5 : decode cX0_breathsIn 5 = .ok (.ifCond .eq 14, 3) := by decide +kernel
theorem dX0_breathsIn_8 : decode cX0_breathsIn 8 = .ok (.aload_n 0, 1) := by decide +kernel
theorem dX0_breathsIn_9 : decode cX0_breathsIn 9 = .ok (.bipush 17, 2) := by decide +kernel
theorem dX0_breathsIn_11 : decode cX0_breathsIn 11 = .ok (.iload_n 1, 1) := by decide +kernel
theorem dX0_breathsIn_12 : decode cX0_breathsIn 12 = .ok (.iadd, 1) := by decide +kernel
theorem dX0_breathsIn_13 : decode cX0_breathsIn 13 = .ok (.invokevirtual 32, 3) := by decide +kernel
theorem dX0_breathsIn_16 : decode cX0_breathsIn 16 = .ok (.goto 4, 3) := by decide +kernel
theorem dX0_breathsIn_19 : decode cX0_breathsIn 19 = .ok (.iconst 0, 1) := by decide +kernel
theorem dX0_breathsIn_20 : decode cX0_breathsIn 20 = .ok (.ireturn, 1) := by decide +kernel
set_option maxRecDepth 20000 in
theorem ggX0_breathsInAll_X0_cell : GoodIn wsX0_breathsInAll wsX0_cell := goodIn_r _ [6, 7, 8, 9, 10, 11, 12] (by decide +kernel) (by decide +kernel)
set_option maxRecDepth 20000 in
theorem gX0_breathsInAll_X0_cell : GoodIn wsX0_breathsInAll (wsV RX0 32 RX0 yX0_cell wsX0_cell) := goodIn_app (goodIn_of _ (by decide +kernel)) ggX0_breathsInAll_X0_cell
theorem dX0_breathsInAll_0 : decode cX0_breathsInAll 0 = .ok (.iconst 0, 1) := by decide +kernel
theorem dX0_breathsInAll_1 : decode cX0_breathsInAll 1 = .ok (.istore_n 1, 1) := by decide +kernel
theorem dX0_breathsInAll_2 : decode cX0_breathsInAll 2 = .ok (.iconst 0, 1) := by decide +kernel
theorem dX0_breathsInAll_3 : decode cX0_breathsInAll 3 = .ok (.istore_n 2, 1) := by decide +kernel
theorem dX0_breathsInAll_4 : decode cX0_breathsInAll 4 = .ok (.iload_n 2, 1) := by decide +kernel
theorem dX0_breathsInAll_5 : decode cX0_breathsInAll 5 = .ok (.aload_n 0, 1) := by decide +kernel
theorem dX0_breathsInAll_6 : decode cX0_breathsInAll 6 = .ok (.getfield 11, 3) := by decide +kernel
theorem dX0_breathsInAll_9 : decode cX0_breathsInAll 9 = .ok (.if_icmp .ge 20, 3) := by decide +kernel
theorem dX0_breathsInAll_12 : decode cX0_breathsInAll 12 = .ok (.iload_n 1, 1) := by decide +kernel
theorem dX0_breathsInAll_13 : decode cX0_breathsInAll 13 = .ok (.aload_n 0, 1) := by decide +kernel
theorem dX0_breathsInAll_14 : decode cX0_breathsInAll 14 = .ok (.bipush 17, 2) := by decide +kernel
theorem dX0_breathsInAll_16 : decode cX0_breathsInAll 16 = .ok (.iload_n 2, 1) := by decide +kernel
theorem dX0_breathsInAll_17 : decode cX0_breathsInAll 17 = .ok (.iadd, 1) := by decide +kernel
theorem dX0_breathsInAll_18 : decode cX0_breathsInAll 18 = .ok (.invokevirtual 32, 3) := by decide +kernel
theorem dX0_breathsInAll_21 : decode cX0_breathsInAll 21 = .ok (.iadd, 1) := by decide +kernel
theorem dX0_breathsInAll_22 : decode cX0_breathsInAll 22 = .ok (.istore_n 1, 1) := by decide +kernel
theorem dX0_breathsInAll_23 : decode cX0_breathsInAll 23 = .ok (.iinc 2 1, 3) := by decide +kernel
theorem dX0_breathsInAll_26 : decode cX0_breathsInAll 26 = .ok (.goto (-22), 3) := by decide +kernel
theorem dX0_breathsInAll_29 : decode cX0_breathsInAll 29 = .ok (.iload_n 1, 1) := by decide +kernel
theorem dX0_breathsInAll_30 : decode cX0_breathsInAll 30 = .ok (.ireturn, 1) := by decide +kernel
set_option maxRecDepth 20000 in
theorem ggX0_hasRoom_X0_breathsInAll : GoodIn wsX0_hasRoom wsX0_breathsInAll := goodIn_r _ [6, 1, 7, 8, 9, 5, 10, 11, 12, 13, 14, 15, 16] (by decide +kernel) (by decide +kernel)
set_option maxRecDepth 20000 in
theorem gX0_hasRoom_X0_breathsInAll : GoodIn wsX0_hasRoom (wsV RX0 54 RX0 yX0_breathsInAll wsX0_breathsInAll) := goodIn_app (goodIn_of _ (by decide +kernel)) ggX0_hasRoom_X0_breathsInAll
theorem dX0_hasRoom_0 : decode cX0_hasRoom 0 = .ok (.aload_n 0, 1) := by decide +kernel
theorem dX0_hasRoom_1 : decode cX0_hasRoom 1 = .ok (.invokevirtual 54, 3) := by decide +kernel
theorem dX0_hasRoom_4 : decode cX0_hasRoom 4 = .ok (.bipush 9, 2) := by decide +kernel
theorem dX0_hasRoom_6 : decode cX0_hasRoom 6 = .ok (.aload_n 0, 1) := by decide +kernel
theorem dX0_hasRoom_7 : decode cX0_hasRoom 7 = .ok (.getfield 11, 3) := by decide +kernel
theorem dX0_hasRoom_10 : decode cX0_hasRoom 10 = .ok (.imul, 1) := by decide +kernel
theorem dX0_hasRoom_11 : decode cX0_hasRoom 11 = .ok (.if_icmp .ge 7, 3) := by decide +kernel
theorem dX0_hasRoom_14 : decode cX0_hasRoom 14 = .ok (.iconst 1, 1) := by decide +kernel
theorem dX0_hasRoom_15 : decode cX0_hasRoom 15 = .ok (.goto 4, 3) := by decide +kernel
theorem dX0_hasRoom_18 : decode cX0_hasRoom 18 = .ok (.iconst 0, 1) := by decide +kernel
theorem dX0_hasRoom_19 : decode cX0_hasRoom 19 = .ok (.ireturn, 1) := by decide +kernel
set_option maxRecDepth 20000 in
theorem ggX0_owner_X0_cell : GoodIn wsX0_owner wsX0_cell := goodIn_r _ [5, 6, 7, 8, 9, 10, 11] (by decide +kernel) (by decide +kernel)
set_option maxRecDepth 20000 in
theorem gX0_owner_X0_cell : GoodIn wsX0_owner (wsV RX0 32 RX0 yX0_cell wsX0_cell) := goodIn_app (goodIn_of _ (by decide +kernel)) ggX0_owner_X0_cell
theorem dX0_owner_0 : decode cX0_owner 0 = .ok (.aload_n 0, 1) := by decide +kernel
theorem dX0_owner_1 : decode cX0_owner 1 = .ok (.bipush 20, 2) := by decide +kernel
theorem dX0_owner_3 : decode cX0_owner 3 = .ok (.iload_n 1, 1) := by decide +kernel
theorem dX0_owner_4 : decode cX0_owner 4 = .ok (.iadd, 1) := by decide +kernel
theorem dX0_owner_5 : decode cX0_owner 5 = .ok (.invokevirtual 32, 3) := by decide +kernel
theorem dX0_owner_8 : decode cX0_owner 8 = .ok (.iconst 3, 1) := by decide +kernel
theorem dX0_owner_9 : decode cX0_owner 9 = .ok (.iload_n 2, 1) := by decide +kernel
theorem dX0_owner_10 : decode cX0_owner 10 = .ok (.imul, 1) := by decide +kernel
theorem dX0_owner_11 : decode cX0_owner 11 = .ok (.ishr, 1) := by decide +kernel
theorem dX0_owner_12 : decode cX0_owner 12 = .ok (.bipush 7, 2) := by decide +kernel
theorem dX0_owner_14 : decode cX0_owner 14 = .ok (.iand, 1) := by decide +kernel
theorem dX0_owner_15 : decode cX0_owner 15 = .ok (.ireturn, 1) := by decide +kernel
set_option maxRecDepth 20000 in
theorem ggX0_breathsOfIn_X0_breathsIn : GoodIn wsX0_breathsOfIn wsX0_breathsIn := goodIn_r _ [5, 6, 7, 8, 4, 9, 10, 11, 12, 13, 14, 15, 20, 21, 22, 23, 24] (by decide +kernel) (by decide +kernel)
set_option maxRecDepth 20000 in
theorem gX0_breathsOfIn_X0_breathsIn : GoodIn wsX0_breathsOfIn (wsV RX0 57 RX0 yX0_breathsIn wsX0_breathsIn) := goodIn_app (goodIn_of _ (by decide +kernel)) ggX0_breathsOfIn_X0_breathsIn
set_option maxRecDepth 20000 in
theorem ggX0_breathsOfIn_X0_owner : GoodIn wsX0_breathsOfIn wsX0_owner := goodIn_r _ [19, 11, 12, 13, 4, 14, 15, 20, 21, 22, 23, 24] (by decide +kernel) (by decide +kernel)
set_option maxRecDepth 20000 in
theorem gX0_breathsOfIn_X0_owner : GoodIn wsX0_breathsOfIn (wsV RX0 60 RX0 yX0_owner wsX0_owner) := goodIn_app (goodIn_of _ (by decide +kernel)) ggX0_breathsOfIn_X0_owner
theorem dX0_breathsOfIn_0 : decode cX0_breathsOfIn 0 = .ok (.iconst 0, 1) := by decide +kernel
theorem dX0_breathsOfIn_1 : decode cX0_breathsOfIn 1 = .ok (.istore_n 3, 1) := by decide +kernel
theorem dX0_breathsOfIn_2 : decode cX0_breathsOfIn 2 = .ok (.iconst 0, 1) := by decide +kernel
theorem dX0_breathsOfIn_3 : decode cX0_breathsOfIn 3 = .ok (.istore 4, 2) := by decide +kernel
theorem dX0_breathsOfIn_5 : decode cX0_breathsOfIn 5 = .ok (.iload 4, 2) := by decide +kernel
theorem dX0_breathsOfIn_7 : decode cX0_breathsOfIn 7 = .ok (.aload_n 0, 1) := by decide +kernel
theorem dX0_breathsOfIn_8 : decode cX0_breathsOfIn 8 = .ok (.iload_n 2, 1) := by decide +kernel
theorem dX0_breathsOfIn_9 : decode cX0_breathsOfIn 9 = .ok (.invokevirtual 57, 3) := by decide +kernel
theorem dX0_breathsOfIn_12 : decode cX0_breathsOfIn 12 = .ok (.if_icmp .ge 28, 3) := by decide +kernel
theorem dX0_breathsOfIn_15 : decode cX0_breathsOfIn 15 = .ok (.iload_n 3, 1) := by decide +kernel
theorem dX0_breathsOfIn_16 : decode cX0_breathsOfIn 16 = .ok (.aload_n 0, 1) := by decide +kernel
theorem dX0_breathsOfIn_17 : decode cX0_breathsOfIn 17 = .ok (.iload_n 2, 1) := by decide +kernel
theorem dX0_breathsOfIn_18 : decode cX0_breathsOfIn 18 = .ok (.iload 4, 2) := by decide +kernel
theorem dX0_breathsOfIn_20 : decode cX0_breathsOfIn 20 = .ok (.invokevirtual 60, 3) := by decide +kernel
theorem dX0_breathsOfIn_23 : decode cX0_breathsOfIn 23 = .ok (.iload_n 1, 1) := by decide +kernel
theorem dX0_breathsOfIn_24 : decode cX0_breathsOfIn 24 = .ok (.if_icmp .ne 7, 3) := by decide +kernel
theorem dX0_breathsOfIn_27 : decode cX0_breathsOfIn 27 = .ok (.iconst 1, 1) := by decide +kernel
theorem dX0_breathsOfIn_28 : decode cX0_breathsOfIn 28 = .ok (.goto 4, 3) := by decide +kernel
theorem dX0_breathsOfIn_31 : decode cX0_breathsOfIn 31 = .ok (.iconst 0, 1) := by decide +kernel
theorem dX0_breathsOfIn_32 : decode cX0_breathsOfIn 32 = .ok (.iadd, 1) := by decide +kernel
theorem dX0_breathsOfIn_33 : decode cX0_breathsOfIn 33 = .ok (.istore_n 3, 1) := by decide +kernel
theorem dX0_breathsOfIn_34 : decode cX0_breathsOfIn 34 = .ok (.iinc 4 1, 3) := by decide +kernel
theorem dX0_breathsOfIn_37 : decode cX0_breathsOfIn 37 = .ok (.goto (-32), 3) := by decide +kernel
theorem dX0_breathsOfIn_40 : decode cX0_breathsOfIn 40 = .ok (.iload_n 3, 1) := by decide +kernel
theorem dX0_breathsOfIn_41 : decode cX0_breathsOfIn 41 = .ok (.ireturn, 1) := by decide +kernel
set_option maxRecDepth 20000 in
theorem ggX0_breathsOf_X0_breathsOfThese : GoodIn wsX0_breathsOf wsX0_breathsOfThese := goodIn_r _ [5, 6, 7, 8, 9, 4, 10, 11, 12, 13, 14, 15, 16, 17, 18, 19, 20, 21, 22, 23, 24, 25, 26, 27, 28] (by decide +kernel) (by decide +kernel)
set_option maxRecDepth 20000 in
theorem gX0_breathsOf_X0_breathsOfThese : GoodIn wsX0_breathsOf (wsV RX0 63 RX0 yX0_breathsOfThese wsX0_breathsOfThese) := goodIn_app (goodIn_of _ (by decide +kernel)) ggX0_breathsOf_X0_breathsOfThese
theorem dX0_breathsOf_0 : decode cX0_breathsOf 0 = .ok (.aload_n 0, 1) := by decide +kernel
theorem dX0_breathsOf_1 : decode cX0_breathsOf 1 = .ok (.iconst 1, 1) := by decide +kernel
theorem dX0_breathsOf_2 : decode cX0_breathsOf 2 = .ok (.iload_n 1, 1) := by decide +kernel
theorem dX0_breathsOf_3 : decode cX0_breathsOf 3 = .ok (.ishl, 1) := by decide +kernel
theorem dX0_breathsOf_4 : decode cX0_breathsOf 4 = .ok (.invokevirtual 63, 3) := by decide +kernel
theorem dX0_breathsOf_7 : decode cX0_breathsOf 7 = .ok (.ireturn, 1) := by decide +kernel
set_option maxRecDepth 20000 in
theorem ggX0_breathsOfThese_X0_breathsIn : GoodIn wsX0_breathsOfThese wsX0_breathsIn := goodIn_r _ [6, 7, 8, 9, 5, 10, 1, 11, 12, 13, 14, 15, 20, 21, 22, 23, 24] (by decide +kernel) (by decide +kernel)
set_option maxRecDepth 20000 in
theorem gX0_breathsOfThese_X0_breathsIn : GoodIn wsX0_breathsOfThese (wsV RX0 57 RX0 yX0_breathsIn wsX0_breathsIn) := goodIn_app (goodIn_of _ (by decide +kernel)) ggX0_breathsOfThese_X0_breathsIn
set_option maxRecDepth 20000 in
theorem ggX0_breathsOfThese_X0_owner : GoodIn wsX0_breathsOfThese wsX0_owner := goodIn_r _ [19, 11, 12, 13, 5, 14, 15, 20, 21, 22, 23, 24] (by decide +kernel) (by decide +kernel)
set_option maxRecDepth 20000 in
theorem gX0_breathsOfThese_X0_owner : GoodIn wsX0_breathsOfThese (wsV RX0 60 RX0 yX0_owner wsX0_owner) := goodIn_app (goodIn_of _ (by decide +kernel)) ggX0_breathsOfThese_X0_owner
theorem dX0_breathsOfThese_0 : decode cX0_breathsOfThese 0 = .ok (.iconst 0, 1) := by decide +kernel
theorem dX0_breathsOfThese_1 : decode cX0_breathsOfThese 1 = .ok (.istore_n 2, 1) := by decide +kernel
theorem dX0_breathsOfThese_2 : decode cX0_breathsOfThese 2 = .ok (.iconst 0, 1) := by decide +kernel
theorem dX0_breathsOfThese_3 : decode cX0_breathsOfThese 3 = .ok (.istore_n 3, 1) := by decide +kernel
theorem dX0_breathsOfThese_4 : decode cX0_breathsOfThese 4 = .ok (.iload_n 3, 1) := by decide +kernel
theorem dX0_breathsOfThese_5 : decode cX0_breathsOfThese 5 = .ok (.aload_n 0, 1) := by decide +kernel
theorem dX0_breathsOfThese_6 : decode cX0_breathsOfThese 6 = .ok (.getfield 11, 3) := by decide +kernel
theorem dX0_breathsOfThese_9 : decode cX0_breathsOfThese 9 = .ok (.if_icmp .ge 42, 3) := by decide +kernel
theorem dX0_breathsOfThese_12 : decode cX0_breathsOfThese 12 = .ok (.iconst 0, 1) := by decide +kernel
theorem dX0_breathsOfThese_13 : decode cX0_breathsOfThese 13 = .ok (.istore 4, 2) := by decide +kernel
theorem dX0_breathsOfThese_15 : decode cX0_breathsOfThese 15 = .ok (.iload 4, 2) := by decide +kernel
theorem dX0_breathsOfThese_17 : decode cX0_breathsOfThese 17 = .ok (.aload_n 0, 1) := by decide +kernel
theorem dX0_breathsOfThese_18 : decode cX0_breathsOfThese 18 = .ok (.iload_n 3, 1) := by decide +kernel
theorem dX0_breathsOfThese_19 : decode cX0_breathsOfThese 19 = .ok (.invokevirtual 57, 3) := by decide +kernel
theorem dX0_breathsOfThese_22 : decode cX0_breathsOfThese 22 = .ok (.if_icmp .ge 23, 3) := by decide +kernel
theorem dX0_breathsOfThese_25 : decode cX0_breathsOfThese 25 = .ok (.iload_n 2, 1) := by decide +kernel
theorem dX0_breathsOfThese_26 : decode cX0_breathsOfThese 26 = .ok (.iload_n 1, 1) := by decide +kernel
theorem dX0_breathsOfThese_27 : decode cX0_breathsOfThese 27 = .ok (.aload_n 0, 1) := by decide +kernel
theorem dX0_breathsOfThese_28 : decode cX0_breathsOfThese 28 = .ok (.iload_n 3, 1) := by decide +kernel
theorem dX0_breathsOfThese_29 : decode cX0_breathsOfThese 29 = .ok (.iload 4, 2) := by decide +kernel
theorem dX0_breathsOfThese_31 : decode cX0_breathsOfThese 31 = .ok (.invokevirtual 60, 3) := by decide +kernel
theorem dX0_breathsOfThese_34 : decode cX0_breathsOfThese 34 = .ok (.ishr, 1) := by decide +kernel
theorem dX0_breathsOfThese_35 : decode cX0_breathsOfThese 35 = .ok (.iconst 1, 1) := by decide +kernel
theorem dX0_breathsOfThese_36 : decode cX0_breathsOfThese 36 = .ok (.iand, 1) := by decide +kernel
theorem dX0_breathsOfThese_37 : decode cX0_breathsOfThese 37 = .ok (.iadd, 1) := by decide +kernel
theorem dX0_breathsOfThese_38 : decode cX0_breathsOfThese 38 = .ok (.istore_n 2, 1) := by decide +kernel
theorem dX0_breathsOfThese_39 : decode cX0_breathsOfThese 39 = .ok (.iinc 4 1, 3) := by decide +kernel
theorem dX0_breathsOfThese_42 : decode cX0_breathsOfThese 42 = .ok (.goto (-27), 3) := by decide +kernel
theorem dX0_breathsOfThese_45 : decode cX0_breathsOfThese 45 = .ok (.iinc 3 1, 3) := by decide +kernel
theorem dX0_breathsOfThese_48 : decode cX0_breathsOfThese 48 = .ok (.goto (-44), 3) := by decide +kernel
theorem dX0_breathsOfThese_51 : decode cX0_breathsOfThese 51 = .ok (.iload_n 2, 1) := by decide +kernel
theorem dX0_breathsOfThese_52 : decode cX0_breathsOfThese 52 = .ok (.ireturn, 1) := by decide +kernel
set_option maxRecDepth 20000 in
theorem ggX0_left_X0_fallenBits : GoodIn wsX0_left wsX0_fallenBits := goodIn_r _ [5, 6, 7, 8, 4, 9, 10, 28, 29, 30, 31, 32] (by decide +kernel) (by decide +kernel)
set_option maxRecDepth 20000 in
theorem gX0_left_X0_fallenBits : GoodIn wsX0_left (wsV RX0 39 RX0 yX0_fallenBits wsX0_fallenBits) := goodIn_app (goodIn_of _ (by decide +kernel)) ggX0_left_X0_fallenBits
set_option maxRecDepth 20000 in
theorem ggX0_left_X0_breathsOfThese : GoodIn wsX0_left wsX0_breathsOfThese := goodIn_r _ [14, 15, 16, 17, 18, 4, 19, 20, 21, 22, 23, 6, 7, 8, 9, 10, 24, 25, 26, 27, 28, 29, 30, 31, 32] (by decide +kernel) (by decide +kernel)
set_option maxRecDepth 20000 in
theorem gX0_left_X0_breathsOfThese : GoodIn wsX0_left (wsV RX0 63 RX0 yX0_breathsOfThese wsX0_breathsOfThese) := goodIn_app (goodIn_of _ (by decide +kernel)) ggX0_left_X0_breathsOfThese
theorem dX0_left_0 : decode cX0_left 0 = .ok (.aload_n 0, 1) := by decide +kernel
theorem dX0_left_1 : decode cX0_left 1 = .ok (.aload_n 0, 1) := by decide +kernel
theorem dX0_left_2 : decode cX0_left 2 = .ok (.invokevirtual 39, 3) := by decide +kernel
theorem dX0_left_5 : decode cX0_left 5 = .ok (.invokevirtual 63, 3) := by decide +kernel
theorem dX0_left_8 : decode cX0_left 8 = .ok (.ireturn, 1) := by decide +kernel
set_option maxRecDepth 20000 in
theorem ggX0_placePlayed_X0_kindOfBag : GoodIn wsX0_placePlayed wsX0_kindOfBag := goodIn_r _ [5, 6, 7, 21, 22, 23, 24, 25] (by decide +kernel) (by decide +kernel)
set_option maxRecDepth 20000 in
theorem gX0_placePlayed_X0_kindOfBag : GoodIn wsX0_placePlayed (wsV RX0 66 RX0 yX0_kindOfBag wsX0_kindOfBag) := goodIn_app (goodIn_of _ (by decide +kernel)) ggX0_placePlayed_X0_kindOfBag
set_option maxRecDepth 20000 in
theorem ggX0_placePlayed_X0_breathsIn : GoodIn wsX0_placePlayed wsX0_breathsIn := goodIn_r _ [11, 12, 13, 14, 4, 15, 6, 16, 17, 18, 19, 20, 21, 22, 23, 24, 25] (by decide +kernel) (by decide +kernel)
set_option maxRecDepth 20000 in
theorem gX0_placePlayed_X0_breathsIn : GoodIn wsX0_placePlayed (wsV RX0 57 RX0 yX0_breathsIn wsX0_breathsIn) := goodIn_app (goodIn_of _ (by decide +kernel)) ggX0_placePlayed_X0_breathsIn
theorem dX0_placePlayed_0 : decode cX0_placePlayed 0 = .ok (.aload_n 0, 1) := by decide +kernel
theorem dX0_placePlayed_1 : decode cX0_placePlayed 1 = .ok (.iload_n 1, 1) := by decide +kernel
theorem dX0_placePlayed_2 : decode cX0_placePlayed 2 = .ok (.invokevirtual 66, 3) := by decide +kernel
theorem dX0_placePlayed_5 : decode cX0_placePlayed 5 = .ok (.iconst 1, 1) := by decide +kernel
theorem dX0_placePlayed_6 : decode cX0_placePlayed 6 = .ok (.if_icmp .ne 7, 3) := by decide +kernel
theorem dX0_placePlayed_9 : decode cX0_placePlayed 9 = .ok (.iload_n 2, 1) := by decide +kernel
theorem dX0_placePlayed_10 : decode cX0_placePlayed 10 = .ok (.goto 12, 3) := by decide +kernel
theorem dX0_placePlayed_13 : decode cX0_placePlayed 13 = .ok (.aload_n 0, 1) := by decide +kernel
theorem dX0_placePlayed_14 : decode cX0_placePlayed 14 = .ok (.iload_n 1, 1) := by decide +kernel
theorem dX0_placePlayed_15 : decode cX0_placePlayed 15 = .ok (.invokevirtual 57, 3) := by decide +kernel
theorem dX0_placePlayed_18 : decode cX0_placePlayed 18 = .ok (.iconst 1, 1) := by decide +kernel
theorem dX0_placePlayed_19 : decode cX0_placePlayed 19 = .ok (.isub, 1) := by decide +kernel
theorem dX0_placePlayed_20 : decode cX0_placePlayed 20 = .ok (.iload_n 2, 1) := by decide +kernel
theorem dX0_placePlayed_21 : decode cX0_placePlayed 21 = .ok (.isub, 1) := by decide +kernel
theorem dX0_placePlayed_22 : decode cX0_placePlayed 22 = .ok (.ireturn, 1) := by decide +kernel
set_option maxRecDepth 20000 in
theorem ggX0_playedBits_X0_kindOfBag : GoodIn wsX0_playedBits wsX0_kindOfBag := goodIn_r _ [5, 6, 7, 29, 30, 31, 32, 33] (by decide +kernel) (by decide +kernel)
set_option maxRecDepth 20000 in
theorem gX0_playedBits_X0_kindOfBag : GoodIn wsX0_playedBits (wsV RX0 66 RX0 yX0_kindOfBag wsX0_kindOfBag) := goodIn_app (goodIn_of _ (by decide +kernel)) ggX0_playedBits_X0_kindOfBag
set_option maxRecDepth 20000 in
theorem ggX0_playedBits_X0_playedBitsAs : GoodIn wsX0_playedBits wsX0_playedBitsAs := goodIn_r _ [11, 12, 13, 14, 4, 15, 16, 17, 18, 19, 6, 20, 21, 22, 23, 24, 25, 26, 27, 28, 29, 30, 31, 32, 33] (by decide +kernel) (by decide +kernel)
set_option maxRecDepth 20000 in
theorem gX0_playedBits_X0_playedBitsAs : GoodIn wsX0_playedBits (wsV RX0 69 RX0 yX0_playedBitsAs wsX0_playedBitsAs) := goodIn_app (goodIn_of _ (by decide +kernel)) ggX0_playedBits_X0_playedBitsAs
theorem dX0_playedBits_0 : decode cX0_playedBits 0 = .ok (.aload_n 0, 1) := by decide +kernel
theorem dX0_playedBits_1 : decode cX0_playedBits 1 = .ok (.iload_n 1, 1) := by decide +kernel
theorem dX0_playedBits_2 : decode cX0_playedBits 2 = .ok (.iload_n 2, 1) := by decide +kernel
theorem dX0_playedBits_3 : decode cX0_playedBits 3 = .ok (.aload_n 0, 1) := by decide +kernel
theorem dX0_playedBits_4 : decode cX0_playedBits 4 = .ok (.iload_n 1, 1) := by decide +kernel
theorem dX0_playedBits_5 : decode cX0_playedBits 5 = .ok (.invokevirtual 66, 3) := by decide +kernel
theorem dX0_playedBits_8 : decode cX0_playedBits 8 = .ok (.iconst 0, 1) := by decide +kernel
theorem dX0_playedBits_9 : decode cX0_playedBits 9 = .ok (.invokevirtual 69, 3) := by decide +kernel
theorem dX0_playedBits_12 : decode cX0_playedBits 12 = .ok (.ireturn, 1) := by decide +kernel
set_option maxRecDepth 20000 in
theorem ggX0_playedBitsAs_X0_breathsIn : GoodIn wsX0_playedBitsAs wsX0_breathsIn := goodIn_r _ [5, 6, 7, 8, 4, 9, 10, 11, 12, 13, 14, 15, 20, 21, 22, 23, 24] (by decide +kernel) (by decide +kernel)
set_option maxRecDepth 20000 in
theorem gX0_playedBitsAs_X0_breathsIn : GoodIn wsX0_playedBitsAs (wsV RX0 57 RX0 yX0_breathsIn wsX0_breathsIn) := goodIn_app (goodIn_of _ (by decide +kernel)) ggX0_playedBitsAs_X0_breathsIn
set_option maxRecDepth 20000 in
theorem ggX0_playedBitsAs_X0_owner : GoodIn wsX0_playedBitsAs wsX0_owner := goodIn_r _ [19, 11, 12, 13, 4, 14, 15, 20, 21, 22, 23, 24] (by decide +kernel) (by decide +kernel)
set_option maxRecDepth 20000 in
theorem gX0_playedBitsAs_X0_owner : GoodIn wsX0_playedBitsAs (wsV RX0 60 RX0 yX0_owner wsX0_owner) := goodIn_app (goodIn_of _ (by decide +kernel)) ggX0_playedBitsAs_X0_owner
theorem dX0_playedBitsAs_0 : decode cX0_playedBitsAs 0 = .ok (.aload_n 0, 1) := by decide +kernel
theorem dX0_playedBitsAs_1 : decode cX0_playedBitsAs 1 = .ok (.iload_n 1, 1) := by decide +kernel
theorem dX0_playedBitsAs_2 : decode cX0_playedBitsAs 2 = .ok (.invokevirtual 57, 3) := by decide +kernel
theorem dX0_playedBitsAs_5 : decode cX0_playedBitsAs 5 = .ok (.istore 5, 2) := by decide +kernel
theorem dX0_playedBitsAs_7 : decode cX0_playedBitsAs 7 = .ok (.iconst 0, 1) := by decide +kernel
theorem dX0_playedBitsAs_8 : decode cX0_playedBitsAs 8 = .ok (.istore 6, 2) := by decide +kernel
theorem dX0_playedBitsAs_10 : decode cX0_playedBitsAs 10 = .ok (.iconst 0, 1) := by decide +kernel
theorem dX0_playedBitsAs_11 : decode cX0_playedBitsAs 11 = .ok (.istore 7, 2) := by decide +kernel
theorem dX0_playedBitsAs_13 : decode cX0_playedBitsAs 13 = .ok (.iload 7, 2) := by decide +kernel
theorem dX0_playedBitsAs_15 : decode cX0_playedBitsAs 15 = .ok (.iload_n 2, 1) := by decide +kernel
theorem dX0_playedBitsAs_16 : decode cX0_playedBitsAs 16 = .ok (.if_icmp .ge 51, 3) := by decide +kernel
theorem dX0_playedBitsAs_19 : decode cX0_playedBitsAs 19 = .ok (.iload 7, 2) := by decide +kernel
theorem dX0_playedBitsAs_21 : decode cX0_playedBitsAs 21 = .ok (.iload 5, 2) := by decide +kernel
theorem dX0_playedBitsAs_23 : decode cX0_playedBitsAs 23 = .ok (.iload 4, 2) := by decide +kernel
theorem dX0_playedBitsAs_25 : decode cX0_playedBitsAs 25 = .ok (.isub, 1) := by decide +kernel
theorem dX0_playedBitsAs_26 : decode cX0_playedBitsAs 26 = .ok (.if_icmp .ge 41, 3) := by decide +kernel
theorem dX0_playedBitsAs_29 : decode cX0_playedBitsAs 29 = .ok (.iload 6, 2) := by decide +kernel
theorem dX0_playedBitsAs_31 : decode cX0_playedBitsAs 31 = .ok (.iconst 1, 1) := by decide +kernel
theorem dX0_playedBitsAs_32 : decode cX0_playedBitsAs 32 = .ok (.aload_n 0, 1) := by decide +kernel
theorem dX0_playedBitsAs_33 : decode cX0_playedBitsAs 33 = .ok (.iload_n 1, 1) := by decide +kernel
theorem dX0_playedBitsAs_34 : decode cX0_playedBitsAs 34 = .ok (.iload_n 3, 1) := by decide +kernel
theorem dX0_playedBitsAs_35 : decode cX0_playedBitsAs 35 = .ok (.iconst 1, 1) := by decide +kernel
theorem dX0_playedBitsAs_36 : decode cX0_playedBitsAs 36 = .ok (.if_icmp .ne 11, 3) := by decide +kernel
theorem dX0_playedBitsAs_39 : decode cX0_playedBitsAs 39 = .ok (.iload 4, 2) := by decide +kernel
theorem dX0_playedBitsAs_41 : decode cX0_playedBitsAs 41 = .ok (.iload 7, 2) := by decide +kernel
theorem dX0_playedBitsAs_43 : decode cX0_playedBitsAs 43 = .ok (.iadd, 1) := by decide +kernel
theorem dX0_playedBitsAs_44 : decode cX0_playedBitsAs 44 = .ok (.goto 10, 3) := by decide +kernel
theorem dX0_playedBitsAs_47 : decode cX0_playedBitsAs 47 = .ok (.iload 5, 2) := by decide +kernel
theorem dX0_playedBitsAs_49 : decode cX0_playedBitsAs 49 = .ok (.iconst 1, 1) := by decide +kernel
theorem dX0_playedBitsAs_50 : decode cX0_playedBitsAs 50 = .ok (.isub, 1) := by decide +kernel
theorem dX0_playedBitsAs_51 : decode cX0_playedBitsAs 51 = .ok (.iload 7, 2) := by decide +kernel
theorem dX0_playedBitsAs_53 : decode cX0_playedBitsAs 53 = .ok (.isub, 1) := by decide +kernel
theorem dX0_playedBitsAs_54 : decode cX0_playedBitsAs 54 = .ok (.invokevirtual 60, 3) := by decide +kernel
theorem dX0_playedBitsAs_57 : decode cX0_playedBitsAs 57 = .ok (.ishl, 1) := by decide +kernel
theorem dX0_playedBitsAs_58 : decode cX0_playedBitsAs 58 = .ok (.ior, 1) := by decide +kernel
theorem dX0_playedBitsAs_59 : decode cX0_playedBitsAs 59 = .ok (.istore 6, 2) := by decide +kernel
theorem dX0_playedBitsAs_61 : decode cX0_playedBitsAs 61 = .ok (.iinc 7 1, 3) := by decide +kernel
theorem dX0_playedBitsAs_64 : decode cX0_playedBitsAs 64 = .ok (.goto (-51), 3) := by decide +kernel
theorem dX0_playedBitsAs_67 : decode cX0_playedBitsAs 67 = .ok (.iload 6, 2) := by decide +kernel
theorem dX0_playedBitsAs_69 : decode cX0_playedBitsAs 69 = .ok (.ireturn, 1) := by decide +kernel
set_option maxRecDepth 20000 in
theorem ggX0_lay_X0_breathsIn : GoodIn wsX0_lay wsX0_breathsIn := goodIn_r _ [5, 6, 7, 8, 4, 9, 10, 11, 12, 13, 14, 15, 20, 21, 22, 23, 24] (by decide +kernel) (by decide +kernel)
set_option maxRecDepth 20000 in
theorem gX0_lay_X0_breathsIn : GoodIn wsX0_lay (wsV RX0 57 RX0 yX0_breathsIn wsX0_breathsIn) := goodIn_app (goodIn_of _ (by decide +kernel)) ggX0_lay_X0_breathsIn
set_option maxRecDepth 20000 in
theorem ggX0_lay_X0_cell : GoodIn wsX0_lay wsX0_cell := goodIn_r _ [14, 15, 20, 21, 22, 23, 24] (by decide +kernel) (by decide +kernel)
set_option maxRecDepth 20000 in
theorem gX0_lay_X0_cell : GoodIn wsX0_lay (wsV RX0 32 RX0 yX0_cell wsX0_cell) := goodIn_app (goodIn_of _ (by decide +kernel)) ggX0_lay_X0_cell
set_option maxRecDepth 20000 in
theorem ggX0_lay_X0_setCell : GoodIn wsX0_lay wsX0_setCell := goodIn_r _ [19, 15, 20, 21, 22, 23, 24] (by decide +kernel) (by decide +kernel)
set_option maxRecDepth 20000 in
theorem gX0_lay_X0_setCell : GoodIn wsX0_lay (wsV RX0 36 RX0 yX0_setCell wsX0_setCell) := goodIn_app (goodIn_of _ (by decide +kernel)) ggX0_lay_X0_setCell
theorem dX0_lay_0 : decode cX0_lay 0 = .ok (.aload_n 0, 1) := by decide +kernel
theorem dX0_lay_1 : decode cX0_lay 1 = .ok (.iload_n 2, 1) := by decide +kernel
theorem dX0_lay_2 : decode cX0_lay 2 = .ok (.invokevirtual 57, 3) := by decide +kernel
theorem dX0_lay_5 : decode cX0_lay 5 = .ok (.istore_n 3, 1) := by decide +kernel
theorem dX0_lay_6 : decode cX0_lay 6 = .ok (.iload_n 3, 1) := by decide +kernel
theorem dX0_lay_7 : decode cX0_lay 7 = .ok (.bipush 9, 2) := by decide +kernel
theorem dX0_lay_9 : decode cX0_lay 9 = .ok (.if_icmp .ge 36, 3) := by decide +kernel
theorem dX0_lay_12 : decode cX0_lay 12 = .ok (.aload_n 0, 1) := by decide +kernel
theorem dX0_lay_13 : decode cX0_lay 13 = .ok (.bipush 20, 2) := by decide +kernel
theorem dX0_lay_15 : decode cX0_lay 15 = .ok (.iload_n 2, 1) := by decide +kernel
theorem dX0_lay_16 : decode cX0_lay 16 = .ok (.iadd, 1) := by decide +kernel
theorem dX0_lay_17 : decode cX0_lay 17 = .ok (.aload_n 0, 1) := by decide +kernel
theorem dX0_lay_18 : decode cX0_lay 18 = .ok (.bipush 20, 2) := by decide +kernel
theorem dX0_lay_20 : decode cX0_lay 20 = .ok (.iload_n 2, 1) := by decide +kernel
theorem dX0_lay_21 : decode cX0_lay 21 = .ok (.iadd, 1) := by decide +kernel
theorem dX0_lay_22 : decode cX0_lay 22 = .ok (.invokevirtual 32, 3) := by decide +kernel
theorem dX0_lay_25 : decode cX0_lay 25 = .ok (.iload_n 1, 1) := by decide +kernel
theorem dX0_lay_26 : decode cX0_lay 26 = .ok (.iconst 3, 1) := by decide +kernel
theorem dX0_lay_27 : decode cX0_lay 27 = .ok (.iload_n 3, 1) := by decide +kernel
theorem dX0_lay_28 : decode cX0_lay 28 = .ok (.imul, 1) := by decide +kernel
theorem dX0_lay_29 : decode cX0_lay 29 = .ok (.ishl, 1) := by decide +kernel
theorem dX0_lay_30 : decode cX0_lay 30 = .ok (.ior, 1) := by decide +kernel
theorem dX0_lay_31 : decode cX0_lay 31 = .ok (.invokevirtual 36, 3) := by decide +kernel
theorem dX0_lay_34 : decode cX0_lay 34 = .ok (.aload_n 0, 1) := by decide +kernel
theorem dX0_lay_35 : decode cX0_lay 35 = .ok (.bipush 17, 2) := by decide +kernel
theorem dX0_lay_37 : decode cX0_lay 37 = .ok (.iload_n 2, 1) := by decide +kernel
theorem dX0_lay_38 : decode cX0_lay 38 = .ok (.iadd, 1) := by decide +kernel
theorem dX0_lay_39 : decode cX0_lay 39 = .ok (.iload_n 3, 1) := by decide +kernel
theorem dX0_lay_40 : decode cX0_lay 40 = .ok (.iconst 1, 1) := by decide +kernel
theorem dX0_lay_41 : decode cX0_lay 41 = .ok (.iadd, 1) := by decide +kernel
theorem dX0_lay_42 : decode cX0_lay 42 = .ok (.invokevirtual 36, 3) := by decide +kernel
theorem dX0_lay_45 : decode cX0_lay 45 = .ok (.return_, 1) := by decide +kernel
set_option maxRecDepth 20000 in
theorem ggX0_lift_X0_cell : GoodIn wsX0_lift wsX0_cell := goodIn_r _ [5, 6, 15, 16, 17, 18, 19] (by decide +kernel) (by decide +kernel)
set_option maxRecDepth 20000 in
theorem gX0_lift_X0_cell : GoodIn wsX0_lift (wsV RX0 32 RX0 yX0_cell wsX0_cell) := goodIn_app (goodIn_of _ (by decide +kernel)) ggX0_lift_X0_cell
set_option maxRecDepth 20000 in
theorem ggX0_lift_X0_setCell : GoodIn wsX0_lift wsX0_setCell := goodIn_r _ [10, 6, 15, 16, 17, 18, 19] (by decide +kernel) (by decide +kernel)
set_option maxRecDepth 20000 in
theorem gX0_lift_X0_setCell : GoodIn wsX0_lift (wsV RX0 36 RX0 yX0_setCell wsX0_setCell) := goodIn_app (goodIn_of _ (by decide +kernel)) ggX0_lift_X0_setCell
set_option maxRecDepth 20000 in
theorem ggX0_lift_X0_addTo : GoodIn wsX0_lift wsX0_addTo := goodIn_r _ [14, 1, 2, 3, 4, 5, 6, 7, 8, 9, 10, 15, 16, 17, 18, 19] (by decide +kernel) (by decide +kernel)
set_option maxRecDepth 20000 in
theorem gX0_lift_X0_addTo : GoodIn wsX0_lift (wsV RX0 28 RX0 yX0_addTo wsX0_addTo) := goodIn_app (goodIn_of _ (by decide +kernel)) ggX0_lift_X0_addTo
theorem dX0_lift_0 : decode cX0_lift 0 = .ok (.aload_n 0, 1) := by decide +kernel
theorem dX0_lift_1 : decode cX0_lift 1 = .ok (.bipush 20, 2) := by decide +kernel
theorem dX0_lift_3 : decode cX0_lift 3 = .ok (.iload_n 1, 1) := by decide +kernel
theorem dX0_lift_4 : decode cX0_lift 4 = .ok (.iadd, 1) := by decide +kernel
theorem dX0_lift_5 : decode cX0_lift 5 = .ok (.invokevirtual 32, 3) := by decide +kernel
theorem dX0_lift_8 : decode cX0_lift 8 = .ok (.istore_n 3, 1) := by decide +kernel
theorem dX0_lift_9 : decode cX0_lift 9 = .ok (.iload_n 3, 1) := by decide +kernel
theorem dX0_lift_10 : decode cX0_lift 10 = .ok (.iconst 1, 1) := by decide +kernel
theorem dX0_lift_11 : decode cX0_lift 11 = .ok (.iconst 3, 1) := by decide +kernel
theorem dX0_lift_12 : decode cX0_lift 12 = .ok (.iload_n 2, 1) := by decide +kernel
theorem dX0_lift_13 : decode cX0_lift 13 = .ok (.imul, 1) := by decide +kernel
theorem dX0_lift_14 : decode cX0_lift 14 = .ok (.ishl, 1) := by decide +kernel
theorem dX0_lift_15 : decode cX0_lift 15 = .ok (.iconst 1, 1) := by decide +kernel
theorem dX0_lift_16 : decode cX0_lift 16 = .ok (.isub, 1) := by decide +kernel
theorem dX0_lift_17 : decode cX0_lift 17 = .ok (.iand, 1) := by decide +kernel
theorem dX0_lift_18 : decode cX0_lift 18 = .ok (.istore 4, 2) := by decide +kernel
theorem dX0_lift_20 : decode cX0_lift 20 = .ok (.iload_n 3, 1) := by decide +kernel
theorem dX0_lift_21 : decode cX0_lift 21 = .ok (.iconst 3, 1) := by decide +kernel
theorem dX0_lift_22 : decode cX0_lift 22 = .ok (.iload_n 2, 1) := by decide +kernel
theorem dX0_lift_23 : decode cX0_lift 23 = .ok (.iconst 1, 1) := by decide +kernel
theorem dX0_lift_24 : decode cX0_lift 24 = .ok (.iadd, 1) := by decide +kernel
theorem dX0_lift_25 : decode cX0_lift 25 = .ok (.imul, 1) := by decide +kernel
theorem dX0_lift_26 : decode cX0_lift 26 = .ok (.ishr, 1) := by decide +kernel
theorem dX0_lift_27 : decode cX0_lift 27 = .ok (.iconst 3, 1) := by decide +kernel
theorem dX0_lift_28 : decode cX0_lift 28 = .ok (.iload_n 2, 1) := by decide +kernel
theorem dX0_lift_29 : decode cX0_lift 29 = .ok (.imul, 1) := by decide +kernel
theorem dX0_lift_30 : decode cX0_lift 30 = .ok (.ishl, 1) := by decide +kernel
theorem dX0_lift_31 : decode cX0_lift 31 = .ok (.istore 5, 2) := by decide +kernel
theorem dX0_lift_33 : decode cX0_lift 33 = .ok (.aload_n 0, 1) := by decide +kernel
theorem dX0_lift_34 : decode cX0_lift 34 = .ok (.bipush 20, 2) := by decide +kernel
theorem dX0_lift_36 : decode cX0_lift 36 = .ok (.iload_n 1, 1) := by decide +kernel
theorem dX0_lift_37 : decode cX0_lift 37 = .ok (.iadd, 1) := by decide +kernel
theorem dX0_lift_38 : decode cX0_lift 38 = .ok (.iload 5, 2) := by decide +kernel
theorem dX0_lift_40 : decode cX0_lift 40 = .ok (.iload 4, 2) := by decide +kernel
theorem dX0_lift_42 : decode cX0_lift 42 = .ok (.ior, 1) := by decide +kernel
theorem dX0_lift_43 : decode cX0_lift 43 = .ok (.invokevirtual 36, 3) := by decide +kernel
theorem dX0_lift_46 : decode cX0_lift 46 = .ok (.aload_n 0, 1) := by decide +kernel
theorem dX0_lift_47 : decode cX0_lift 47 = .ok (.bipush 17, 2) := by decide +kernel
theorem dX0_lift_49 : decode cX0_lift 49 = .ok (.iload_n 1, 1) := by decide +kernel
theorem dX0_lift_50 : decode cX0_lift 50 = .ok (.iadd, 1) := by decide +kernel
theorem dX0_lift_51 : decode cX0_lift 51 = .ok (.iconst (-1), 1) := by decide +kernel
theorem dX0_lift_52 : decode cX0_lift 52 = .ok (.invokevirtual 28, 3) := by decide +kernel
theorem dX0_lift_55 : decode cX0_lift 55 = .ok (.return_, 1) := by decide +kernel
set_option maxRecDepth 20000 in
theorem ggX0_lose_X0_owner : GoodIn wsX0_lose wsX0_owner := goodIn_r _ [5, 6, 7, 8, 4, 9, 10, 23, 24, 25, 26, 27] (by decide +kernel) (by decide +kernel)
set_option maxRecDepth 20000 in
theorem gX0_lose_X0_owner : GoodIn wsX0_lose (wsV RX0 60 RX0 yX0_owner wsX0_owner) := goodIn_app (goodIn_of _ (by decide +kernel)) ggX0_lose_X0_owner
set_option maxRecDepth 20000 in
theorem ggX0_lose_X0_addTo : GoodIn wsX0_lose wsX0_addTo := goodIn_r _ [14, 6, 7, 8, 4, 9, 10, 15, 16, 17, 18, 23, 24, 25, 26, 27] (by decide +kernel) (by decide +kernel)
set_option maxRecDepth 20000 in
theorem gX0_lose_X0_addTo : GoodIn wsX0_lose (wsV RX0 28 RX0 yX0_addTo wsX0_addTo) := goodIn_app (goodIn_of _ (by decide +kernel)) ggX0_lose_X0_addTo
set_option maxRecDepth 20000 in
theorem ggX0_lose_X0_lift : GoodIn wsX0_lose wsX0_lift := goodIn_r _ [22, 6, 7, 8, 4, 9, 10, 15, 16, 17, 18, 11, 12, 13, 14, 23, 24, 25, 26, 27] (by decide +kernel) (by decide +kernel)
set_option maxRecDepth 20000 in
theorem gX0_lose_X0_lift : GoodIn wsX0_lose (wsV RX0 73 RX0 yX0_lift wsX0_lift) := goodIn_app (goodIn_of _ (by decide +kernel)) ggX0_lose_X0_lift
theorem dX0_lose_0 : decode cX0_lose 0 = .ok (.aload_n 0, 1) := by decide +kernel
theorem dX0_lose_1 : decode cX0_lose 1 = .ok (.bipush 12, 2) := by decide +kernel
theorem dX0_lose_3 : decode cX0_lose 3 = .ok (.aload_n 0, 1) := by decide +kernel
theorem dX0_lose_4 : decode cX0_lose 4 = .ok (.iload_n 1, 1) := by decide +kernel
theorem dX0_lose_5 : decode cX0_lose 5 = .ok (.iload_n 2, 1) := by decide +kernel
theorem dX0_lose_6 : decode cX0_lose 6 = .ok (.invokevirtual 60, 3) := by decide +kernel
theorem dX0_lose_9 : decode cX0_lose 9 = .ok (.iadd, 1) := by decide +kernel
theorem dX0_lose_10 : decode cX0_lose 10 = .ok (.iconst 1, 1) := by decide +kernel
theorem dX0_lose_11 : decode cX0_lose 11 = .ok (.invokevirtual 28, 3) := by decide +kernel
theorem dX0_lose_14 : decode cX0_lose 14 = .ok (.aload_n 0, 1) := by decide +kernel
theorem dX0_lose_15 : decode cX0_lose 15 = .ok (.iload_n 1, 1) := by decide +kernel
theorem dX0_lose_16 : decode cX0_lose 16 = .ok (.iload_n 2, 1) := by decide +kernel
theorem dX0_lose_17 : decode cX0_lose 17 = .ok (.invokevirtual 73, 3) := by decide +kernel
theorem dX0_lose_20 : decode cX0_lose 20 = .ok (.return_, 1) := by decide +kernel
set_option maxRecDepth 20000 in
theorem ggX0_giveBreath_X0_isMan : GoodIn wsX0_giveBreath wsX0_isMan := goodIn_r _ [5, 6, 45, 46, 47, 48, 49] (by decide +kernel) (by decide +kernel)
set_option maxRecDepth 20000 in
theorem gX0_giveBreath_X0_isMan : GoodIn wsX0_giveBreath (wsV RX0 43 RX0 yX0_isMan wsX0_isMan) := goodIn_app (goodIn_of _ (by decide +kernel)) ggX0_giveBreath_X0_isMan
set_option maxRecDepth 20000 in
theorem ggX0_giveBreath_X0_isBag : GoodIn wsX0_giveBreath wsX0_isBag := goodIn_r _ [10, 11, 45, 46, 47, 48, 49] (by decide +kernel) (by decide +kernel)
set_option maxRecDepth 20000 in
theorem gX0_giveBreath_X0_isBag : GoodIn wsX0_giveBreath (wsV RX0 51 RX0 yX0_isBag wsX0_isBag) := goodIn_app (goodIn_of _ (by decide +kernel)) ggX0_giveBreath_X0_isBag
set_option maxRecDepth 20000 in
theorem ggX0_giveBreath_X0_hasFallen : GoodIn wsX0_giveBreath wsX0_hasFallen := goodIn_r _ [15, 16, 17, 18, 4, 19, 20, 21, 22, 23, 24, 45, 46, 47, 48, 49] (by decide +kernel) (by decide +kernel)
set_option maxRecDepth 20000 in
theorem gX0_giveBreath_X0_hasFallen : GoodIn wsX0_giveBreath (wsV RX0 76 RX0 yX0_hasFallen wsX0_hasFallen) := goodIn_app (goodIn_of _ (by decide +kernel)) ggX0_giveBreath_X0_hasFallen
set_option maxRecDepth 20000 in
theorem ggX0_giveBreath_X0_ofMan : GoodIn wsX0_giveBreath wsX0_ofMan := goodIn_r _ [28, 1, 2, 3, 4, 5, 6, 20, 21, 22, 23, 24, 45, 46, 47, 48, 49] (by decide +kernel) (by decide +kernel)
set_option maxRecDepth 20000 in
theorem gX0_giveBreath_X0_ofMan : GoodIn wsX0_giveBreath (wsV RX0 47 RX0 yX0_ofMan wsX0_ofMan) := goodIn_app (goodIn_of _ (by decide +kernel)) ggX0_giveBreath_X0_ofMan
set_option maxRecDepth 20000 in
theorem ggX0_giveBreath_X0_breathsIn : GoodIn wsX0_giveBreath wsX0_breathsIn := goodIn_r _ [32, 7, 8, 9, 4, 10, 11, 20, 21, 22, 23, 24, 45, 46, 47, 48, 49] (by decide +kernel) (by decide +kernel)
set_option maxRecDepth 20000 in
theorem gX0_giveBreath_X0_breathsIn : GoodIn wsX0_giveBreath (wsV RX0 57 RX0 yX0_breathsIn wsX0_breathsIn) := goodIn_app (goodIn_of _ (by decide +kernel)) ggX0_giveBreath_X0_breathsIn
set_option maxRecDepth 20000 in
theorem ggX0_giveBreath_X0_addTo : GoodIn wsX0_giveBreath wsX0_addTo := goodIn_r _ [36, 20, 21, 22, 4, 23, 24, 37, 38, 39, 40, 45, 46, 47, 48, 49] (by decide +kernel) (by decide +kernel)
set_option maxRecDepth 20000 in
theorem gX0_giveBreath_X0_addTo : GoodIn wsX0_giveBreath (wsV RX0 28 RX0 yX0_addTo wsX0_addTo) := goodIn_app (goodIn_of _ (by decide +kernel)) ggX0_giveBreath_X0_addTo
set_option maxRecDepth 20000 in
theorem ggX0_giveBreath_X0_lay : GoodIn wsX0_giveBreath wsX0_lay := goodIn_r _ [44, 29, 30, 31, 4, 32, 7, 8, 9, 10, 11, 20, 21, 22, 23, 24, 37, 38, 39, 40, 45, 46, 47, 48, 49] (by decide +kernel) (by decide +kernel)
set_option maxRecDepth 20000 in
theorem gX0_giveBreath_X0_lay : GoodIn wsX0_giveBreath (wsV RX0 79 RX0 yX0_lay wsX0_lay) := goodIn_app (goodIn_of _ (by decide +kernel)) ggX0_giveBreath_X0_lay
theorem dX0_giveBreath_0 : decode cX0_giveBreath 0 = .ok (.aload_n 0, 1) := by decide +kernel
theorem dX0_giveBreath_1 : decode cX0_giveBreath 1 = .ok (.iload_n 1, 1) := by decide +kernel
theorem dX0_giveBreath_2 : decode cX0_giveBreath 2 = .ok (.invokevirtual 43, 3) := by decide +kernel
theorem dX0_giveBreath_5 : decode cX0_giveBreath 5 = .ok (.ifCond .eq 11, 3) := by decide +kernel
theorem dX0_giveBreath_8 : decode cX0_giveBreath 8 = .ok (.aload_n 0, 1) := by decide +kernel
theorem dX0_giveBreath_9 : decode cX0_giveBreath 9 = .ok (.iload_n 2, 1) := by decide +kernel
theorem dX0_giveBreath_10 : decode cX0_giveBreath 10 = .ok (.invokevirtual 51, 3) := by decide +kernel
theorem dX0_giveBreath_13 : decode cX0_giveBreath 13 = .ok (.ifCond .ne 5, 3) := by decide +kernel
theorem dX0_giveBreath_16 : decode cX0_giveBreath 16 = .ok (.iconst (-1), 1) := by decide +kernel
theorem dX0_giveBreath_17 : decode cX0_giveBreath 17 = .ok (.ireturn, 1) := by decide +kernel
theorem dX0_giveBreath_18 : decode cX0_giveBreath 18 = .ok (.aload_n 0, 1) := by decide +kernel
theorem dX0_giveBreath_19 : decode cX0_giveBreath 19 = .ok (.iload_n 1, 1) := by decide +kernel
theorem dX0_giveBreath_20 : decode cX0_giveBreath 20 = .ok (.invokevirtual 76, 3) := by decide +kernel
theorem dX0_giveBreath_23 : decode cX0_giveBreath 23 = .ok (.ifCond .ne 12, 3) := by decide +kernel
theorem dX0_giveBreath_26 : decode cX0_giveBreath 26 = .ok (.aload_n 0, 1) := by decide +kernel
theorem dX0_giveBreath_27 : decode cX0_giveBreath 27 = .ok (.iconst 2, 1) := by decide +kernel
theorem dX0_giveBreath_28 : decode cX0_giveBreath 28 = .ok (.iload_n 1, 1) := by decide +kernel
theorem dX0_giveBreath_29 : decode cX0_giveBreath 29 = .ok (.invokevirtual 47, 3) := by decide +kernel
theorem dX0_giveBreath_32 : decode cX0_giveBreath 32 = .ok (.ifCond .ne 6, 3) := by decide +kernel
theorem dX0_giveBreath_35 : decode cX0_giveBreath 35 = .ok (.bipush (-3), 2) := by decide +kernel
theorem dX0_giveBreath_37 : decode cX0_giveBreath 37 = .ok (.ireturn, 1) := by decide +kernel
theorem dX0_giveBreath_38 : decode cX0_giveBreath 38 = .ok (.aload_n 0, 1) := by decide +kernel
theorem dX0_giveBreath_39 : decode cX0_giveBreath 39 = .ok (.iload_n 2, 1) := by decide +kernel
theorem dX0_giveBreath_40 : decode cX0_giveBreath 40 = .ok (.invokevirtual 57, 3) := by decide +kernel
theorem dX0_giveBreath_43 : decode cX0_giveBreath 43 = .ok (.bipush 9, 2) := by decide +kernel
theorem dX0_giveBreath_45 : decode cX0_giveBreath 45 = .ok (.if_icmp .lt 6, 3) := by decide +kernel
theorem dX0_giveBreath_48 : decode cX0_giveBreath 48 = .ok (.bipush (-4), 2) := by decide +kernel
theorem dX0_giveBreath_50 : decode cX0_giveBreath 50 = .ok (.ireturn, 1) := by decide +kernel
theorem dX0_giveBreath_51 : decode cX0_giveBreath 51 = .ok (.aload_n 0, 1) := by decide +kernel
theorem dX0_giveBreath_52 : decode cX0_giveBreath 52 = .ok (.iconst 2, 1) := by decide +kernel
theorem dX0_giveBreath_53 : decode cX0_giveBreath 53 = .ok (.iload_n 1, 1) := by decide +kernel
theorem dX0_giveBreath_54 : decode cX0_giveBreath 54 = .ok (.iadd, 1) := by decide +kernel
theorem dX0_giveBreath_55 : decode cX0_giveBreath 55 = .ok (.iconst (-1), 1) := by decide +kernel
theorem dX0_giveBreath_56 : decode cX0_giveBreath 56 = .ok (.invokevirtual 28, 3) := by decide +kernel
theorem dX0_giveBreath_59 : decode cX0_giveBreath 59 = .ok (.aload_n 0, 1) := by decide +kernel
theorem dX0_giveBreath_60 : decode cX0_giveBreath 60 = .ok (.iload_n 1, 1) := by decide +kernel
theorem dX0_giveBreath_61 : decode cX0_giveBreath 61 = .ok (.iload_n 2, 1) := by decide +kernel
theorem dX0_giveBreath_62 : decode cX0_giveBreath 62 = .ok (.invokevirtual 79, 3) := by decide +kernel
theorem dX0_giveBreath_65 : decode cX0_giveBreath 65 = .ok (.aload_n 0, 1) := by decide +kernel
theorem dX0_giveBreath_66 : decode cX0_giveBreath 66 = .ok (.iload_n 2, 1) := by decide +kernel
theorem dX0_giveBreath_67 : decode cX0_giveBreath 67 = .ok (.invokevirtual 57, 3) := by decide +kernel
theorem dX0_giveBreath_70 : decode cX0_giveBreath 70 = .ok (.ireturn, 1) := by decide +kernel
set_option maxRecDepth 20000 in
theorem ggX0_playBreaths_X0_isBag : GoodIn wsX0_playBreaths wsX0_isBag := goodIn_r _ [5, 6, 45, 46, 47, 48, 49] (by decide +kernel) (by decide +kernel)
set_option maxRecDepth 20000 in
theorem gX0_playBreaths_X0_isBag : GoodIn wsX0_playBreaths (wsV RX0 51 RX0 yX0_isBag wsX0_isBag) := goodIn_app (goodIn_of _ (by decide +kernel)) ggX0_playBreaths_X0_isBag
set_option maxRecDepth 20000 in
theorem ggX0_playBreaths_X0_breathsIn : GoodIn wsX0_playBreaths wsX0_breathsIn := goodIn_r _ [10, 1, 2, 3, 4, 5, 6, 11, 12, 13, 14, 15, 45, 46, 47, 48, 49] (by decide +kernel) (by decide +kernel)
set_option maxRecDepth 20000 in
theorem gX0_playBreaths_X0_breathsIn : GoodIn wsX0_playBreaths (wsV RX0 57 RX0 yX0_breathsIn wsX0_breathsIn) := goodIn_app (goodIn_of _ (by decide +kernel)) ggX0_playBreaths_X0_breathsIn
set_option maxRecDepth 20000 in
theorem ggX0_playBreaths_X0_placePlayed : GoodIn wsX0_playBreaths wsX0_placePlayed := goodIn_r _ [19, 20, 21, 22, 4, 23, 6, 24, 7, 8, 9, 10, 1, 2, 3, 5, 11, 12, 13, 14, 15, 45, 46, 47, 48, 49] (by decide +kernel) (by decide +kernel)
set_option maxRecDepth 20000 in
theorem gX0_playBreaths_X0_placePlayed : GoodIn wsX0_playBreaths (wsV RX0 82 RX0 yX0_placePlayed wsX0_placePlayed) := goodIn_app (goodIn_of _ (by decide +kernel)) ggX0_playBreaths_X0_placePlayed
set_option maxRecDepth 20000 in
theorem ggX0_playBreaths_X0_lose : GoodIn wsX0_playBreaths wsX0_lose := goodIn_r _ [28, 29, 30, 31, 4, 32, 11, 12, 13, 14, 15, 33, 34, 35, 36, 37, 38, 39, 40, 41, 42, 43, 44, 45, 46, 47, 48, 49] (by decide +kernel) (by decide +kernel)
set_option maxRecDepth 20000 in
theorem gX0_playBreaths_X0_lose : GoodIn wsX0_playBreaths (wsV RX0 85 RX0 yX0_lose wsX0_lose) := goodIn_app (goodIn_of _ (by decide +kernel)) ggX0_playBreaths_X0_lose
theorem dX0_playBreaths_0 : decode cX0_playBreaths 0 = .ok (.aload_n 0, 1) := by decide +kernel
theorem dX0_playBreaths_1 : decode cX0_playBreaths 1 = .ok (.iload_n 1, 1) := by decide +kernel
theorem dX0_playBreaths_2 : decode cX0_playBreaths 2 = .ok (.invokevirtual 51, 3) := by decide +kernel
theorem dX0_playBreaths_5 : decode cX0_playBreaths 5 = .ok (.ifCond .ne 5, 3) := by decide +kernel
theorem dX0_playBreaths_8 : decode cX0_playBreaths 8 = .ok (.iconst (-1), 1) := by decide +kernel
theorem dX0_playBreaths_9 : decode cX0_playBreaths 9 = .ok (.ireturn, 1) := by decide +kernel
theorem dX0_playBreaths_10 : decode cX0_playBreaths 10 = .ok (.iload_n 2, 1) := by decide +kernel
theorem dX0_playBreaths_11 : decode cX0_playBreaths 11 = .ok (.iconst 1, 1) := by decide +kernel
theorem dX0_playBreaths_12 : decode cX0_playBreaths 12 = .ok (.if_icmp .lt 9, 3) := by decide +kernel
theorem dX0_playBreaths_15 : decode cX0_playBreaths 15 = .ok (.iload_n 2, 1) := by decide +kernel
theorem dX0_playBreaths_16 : decode cX0_playBreaths 16 = .ok (.bipush 9, 2) := by decide +kernel
theorem dX0_playBreaths_18 : decode cX0_playBreaths 18 = .ok (.if_icmp .le 6, 3) := by decide +kernel
theorem dX0_playBreaths_21 : decode cX0_playBreaths 21 = .ok (.bipush (-2), 2) := by decide +kernel
theorem dX0_playBreaths_23 : decode cX0_playBreaths 23 = .ok (.ireturn, 1) := by decide +kernel
theorem dX0_playBreaths_24 : decode cX0_playBreaths 24 = .ok (.aload_n 0, 1) := by decide +kernel
theorem dX0_playBreaths_25 : decode cX0_playBreaths 25 = .ok (.iload_n 1, 1) := by decide +kernel
theorem dX0_playBreaths_26 : decode cX0_playBreaths 26 = .ok (.invokevirtual 57, 3) := by decide +kernel
theorem dX0_playBreaths_29 : decode cX0_playBreaths 29 = .ok (.iload_n 2, 1) := by decide +kernel
theorem dX0_playBreaths_30 : decode cX0_playBreaths 30 = .ok (.if_icmp .ge 6, 3) := by decide +kernel
theorem dX0_playBreaths_33 : decode cX0_playBreaths 33 = .ok (.bipush (-3), 2) := by decide +kernel
theorem dX0_playBreaths_35 : decode cX0_playBreaths 35 = .ok (.ireturn, 1) := by decide +kernel
theorem dX0_playBreaths_36 : decode cX0_playBreaths 36 = .ok (.iconst 0, 1) := by decide +kernel
theorem dX0_playBreaths_37 : decode cX0_playBreaths 37 = .ok (.istore_n 3, 1) := by decide +kernel
theorem dX0_playBreaths_38 : decode cX0_playBreaths 38 = .ok (.iload_n 3, 1) := by decide +kernel
theorem dX0_playBreaths_39 : decode cX0_playBreaths 39 = .ok (.iload_n 2, 1) := by decide +kernel
theorem dX0_playBreaths_40 : decode cX0_playBreaths 40 = .ok (.if_icmp .ge 20, 3) := by decide +kernel
theorem dX0_playBreaths_43 : decode cX0_playBreaths 43 = .ok (.aload_n 0, 1) := by decide +kernel
theorem dX0_playBreaths_44 : decode cX0_playBreaths 44 = .ok (.iload_n 1, 1) := by decide +kernel
theorem dX0_playBreaths_45 : decode cX0_playBreaths 45 = .ok (.aload_n 0, 1) := by decide +kernel
theorem dX0_playBreaths_46 : decode cX0_playBreaths 46 = .ok (.iload_n 1, 1) := by decide +kernel
theorem dX0_playBreaths_47 : decode cX0_playBreaths 47 = .ok (.iconst 0, 1) := by decide +kernel
theorem dX0_playBreaths_48 : decode cX0_playBreaths 48 = .ok (.invokevirtual 82, 3) := by decide +kernel
theorem dX0_playBreaths_51 : decode cX0_playBreaths 51 = .ok (.invokevirtual 85, 3) := by decide +kernel
theorem dX0_playBreaths_54 : decode cX0_playBreaths 54 = .ok (.iinc 3 1, 3) := by decide +kernel
theorem dX0_playBreaths_57 : decode cX0_playBreaths 57 = .ok (.goto (-19), 3) := by decide +kernel
theorem dX0_playBreaths_60 : decode cX0_playBreaths 60 = .ok (.aload_n 0, 1) := by decide +kernel
theorem dX0_playBreaths_61 : decode cX0_playBreaths 61 = .ok (.iload_n 1, 1) := by decide +kernel
theorem dX0_playBreaths_62 : decode cX0_playBreaths 62 = .ok (.invokevirtual 57, 3) := by decide +kernel
theorem dX0_playBreaths_65 : decode cX0_playBreaths 65 = .ok (.ireturn, 1) := by decide +kernel
set_option maxRecDepth 20000 in
theorem ggX0_takeBack_X0_isMan : GoodIn wsX0_takeBack wsX0_isMan := goodIn_r _ [9, 10, 62, 63, 64, 65, 66] (by decide +kernel) (by decide +kernel)
set_option maxRecDepth 20000 in
theorem gX0_takeBack_X0_isMan : GoodIn wsX0_takeBack (wsV RX0 43 RX0 yX0_isMan wsX0_isMan) := goodIn_app (goodIn_of _ (by decide +kernel)) ggX0_takeBack_X0_isMan
set_option maxRecDepth 20000 in
theorem ggX0_takeBack_X0_isBag : GoodIn wsX0_takeBack wsX0_isBag := goodIn_r _ [14, 15, 62, 63, 64, 65, 66] (by decide +kernel) (by decide +kernel)
set_option maxRecDepth 20000 in
theorem gX0_takeBack_X0_isBag : GoodIn wsX0_takeBack (wsV RX0 51 RX0 yX0_isBag wsX0_isBag) := goodIn_app (goodIn_of _ (by decide +kernel)) ggX0_takeBack_X0_isBag
set_option maxRecDepth 20000 in
theorem ggX0_takeBack_X0_hasFallen : GoodIn wsX0_takeBack wsX0_hasFallen := goodIn_r _ [19, 20, 21, 22, 8, 23, 24, 25, 26, 27, 28, 62, 63, 64, 65, 66] (by decide +kernel) (by decide +kernel)
set_option maxRecDepth 20000 in
theorem gX0_takeBack_X0_hasFallen : GoodIn wsX0_takeBack (wsV RX0 76 RX0 yX0_hasFallen wsX0_hasFallen) := goodIn_app (goodIn_of _ (by decide +kernel)) ggX0_takeBack_X0_hasFallen
set_option maxRecDepth 20000 in
theorem ggX0_takeBack_X0_kindOfBag : GoodIn wsX0_takeBack wsX0_kindOfBag := goodIn_r _ [32, 15, 33, 62, 63, 64, 65, 66] (by decide +kernel) (by decide +kernel)
set_option maxRecDepth 20000 in
theorem gX0_takeBack_X0_kindOfBag : GoodIn wsX0_takeBack (wsV RX0 66 RX0 yX0_kindOfBag wsX0_kindOfBag) := goodIn_app (goodIn_of _ (by decide +kernel)) ggX0_takeBack_X0_kindOfBag
set_option maxRecDepth 20000 in
theorem ggX0_takeBack_X0_breathsIn : GoodIn wsX0_takeBack wsX0_breathsIn := goodIn_r _ [37, 11, 12, 13, 8, 14, 15, 24, 25, 26, 27, 28, 62, 63, 64, 65, 66] (by decide +kernel) (by decide +kernel)
set_option maxRecDepth 20000 in
theorem gX0_takeBack_X0_breathsIn : GoodIn wsX0_takeBack (wsV RX0 57 RX0 yX0_breathsIn wsX0_breathsIn) := goodIn_app (goodIn_of _ (by decide +kernel)) ggX0_takeBack_X0_breathsIn
set_option maxRecDepth 20000 in
theorem ggX0_takeBack_X0_placePlayed : GoodIn wsX0_takeBack wsX0_placePlayed := goodIn_r _ [41, 29, 30, 31, 8, 32, 15, 33, 34, 35, 36, 37, 11, 12, 13, 14, 24, 25, 26, 27, 28, 62, 63, 64, 65, 66] (by decide +kernel) (by decide +kernel)
set_option maxRecDepth 20000 in
theorem gX0_takeBack_X0_placePlayed : GoodIn wsX0_takeBack (wsV RX0 82 RX0 yX0_placePlayed wsX0_placePlayed) := goodIn_app (goodIn_of _ (by decide +kernel)) ggX0_takeBack_X0_placePlayed
set_option maxRecDepth 20000 in
theorem ggX0_takeBack_X0_owner : GoodIn wsX0_takeBack wsX0_owner := goodIn_r _ [45, 24, 25, 26, 8, 27, 28, 62, 63, 64, 65, 66] (by decide +kernel) (by decide +kernel)
set_option maxRecDepth 20000 in
theorem gX0_takeBack_X0_owner : GoodIn wsX0_takeBack (wsV RX0 60 RX0 yX0_owner wsX0_owner) := goodIn_app (goodIn_of _ (by decide +kernel)) ggX0_takeBack_X0_owner
set_option maxRecDepth 20000 in
theorem ggX0_takeBack_X0_lift : GoodIn wsX0_takeBack wsX0_lift := goodIn_r _ [49, 24, 25, 26, 8, 27, 28, 50, 51, 52, 53, 54, 55, 56, 57, 62, 63, 64, 65, 66] (by decide +kernel) (by decide +kernel)
set_option maxRecDepth 20000 in
theorem gX0_takeBack_X0_lift : GoodIn wsX0_takeBack (wsV RX0 73 RX0 yX0_lift wsX0_lift) := goodIn_app (goodIn_of _ (by decide +kernel)) ggX0_takeBack_X0_lift
set_option maxRecDepth 20000 in
theorem ggX0_takeBack_X0_ofMan : GoodIn wsX0_takeBack wsX0_ofMan := goodIn_r _ [61, 5, 6, 7, 8, 9, 10, 24, 25, 26, 27, 28, 62, 63, 64, 65, 66] (by decide +kernel) (by decide +kernel)
set_option maxRecDepth 20000 in
theorem gX0_takeBack_X0_ofMan : GoodIn wsX0_takeBack (wsV RX0 47 RX0 yX0_ofMan wsX0_ofMan) := goodIn_app (goodIn_of _ (by decide +kernel)) ggX0_takeBack_X0_ofMan
set_option maxRecDepth 20000 in
theorem ggX0_takeBack_X0_setCell : GoodIn wsX0_takeBack wsX0_setCell := goodIn_r _ [53, 28, 62, 63, 64, 65, 66] (by decide +kernel) (by decide +kernel)
set_option maxRecDepth 20000 in
theorem gX0_takeBack_X0_setCell : GoodIn wsX0_takeBack (wsV RX0 36 RX0 yX0_setCell wsX0_setCell) := goodIn_app (goodIn_of _ (by decide +kernel)) ggX0_takeBack_X0_setCell
theorem dX0_takeBack_0 : decode cX0_takeBack 0 = .ok (.aload_n 0, 1) := by decide +kernel
theorem dX0_takeBack_1 : decode cX0_takeBack 1 = .ok (.iload_n 1, 1) := by decide +kernel
theorem dX0_takeBack_2 : decode cX0_takeBack 2 = .ok (.invokevirtual 43, 3) := by decide +kernel
theorem dX0_takeBack_5 : decode cX0_takeBack 5 = .ok (.ifCond .eq 11, 3) := by decide +kernel
theorem dX0_takeBack_8 : decode cX0_takeBack 8 = .ok (.aload_n 0, 1) := by decide +kernel
theorem dX0_takeBack_9 : decode cX0_takeBack 9 = .ok (.iload_n 2, 1) := by decide +kernel
theorem dX0_takeBack_10 : decode cX0_takeBack 10 = .ok (.invokevirtual 51, 3) := by decide +kernel
theorem dX0_takeBack_13 : decode cX0_takeBack 13 = .ok (.ifCond .ne 5, 3) := by decide +kernel
theorem dX0_takeBack_16 : decode cX0_takeBack 16 = .ok (.iconst (-1), 1) := by decide +kernel
theorem dX0_takeBack_17 : decode cX0_takeBack 17 = .ok (.ireturn, 1) := by decide +kernel
theorem dX0_takeBack_18 : decode cX0_takeBack 18 = .ok (.aload_n 0, 1) := by decide +kernel
theorem dX0_takeBack_19 : decode cX0_takeBack 19 = .ok (.iload_n 1, 1) := by decide +kernel
theorem dX0_takeBack_20 : decode cX0_takeBack 20 = .ok (.invokevirtual 76, 3) := by decide +kernel
theorem dX0_takeBack_23 : decode cX0_takeBack 23 = .ok (.ifCond .ne 12, 3) := by decide +kernel
theorem dX0_takeBack_26 : decode cX0_takeBack 26 = .ok (.aload_n 0, 1) := by decide +kernel
theorem dX0_takeBack_27 : decode cX0_takeBack 27 = .ok (.iload_n 2, 1) := by decide +kernel
theorem dX0_takeBack_28 : decode cX0_takeBack 28 = .ok (.invokevirtual 66, 3) := by decide +kernel
theorem dX0_takeBack_31 : decode cX0_takeBack 31 = .ok (.iconst 3, 1) := by decide +kernel
theorem dX0_takeBack_32 : decode cX0_takeBack 32 = .ok (.if_icmp .ne 6, 3) := by decide +kernel
theorem dX0_takeBack_35 : decode cX0_takeBack 35 = .ok (.bipush (-3), 2) := by decide +kernel
theorem dX0_takeBack_37 : decode cX0_takeBack 37 = .ok (.ireturn, 1) := by decide +kernel
theorem dX0_takeBack_38 : decode cX0_takeBack 38 = .ok (.iconst 0, 1) := by decide +kernel
theorem dX0_takeBack_39 : decode cX0_takeBack 39 = .ok (.istore_n 3, 1) := by decide +kernel
theorem dX0_takeBack_40 : decode cX0_takeBack 40 = .ok (.iload_n 3, 1) := by decide +kernel
theorem dX0_takeBack_41 : decode cX0_takeBack 41 = .ok (.aload_n 0, 1) := by decide +kernel
theorem dX0_takeBack_42 : decode cX0_takeBack 42 = .ok (.iload_n 2, 1) := by decide +kernel
theorem dX0_takeBack_43 : decode cX0_takeBack 43 = .ok (.invokevirtual 57, 3) := by decide +kernel
theorem dX0_takeBack_46 : decode cX0_takeBack 46 = .ok (.if_icmp .ge 62, 3) := by decide +kernel
theorem dX0_takeBack_49 : decode cX0_takeBack 49 = .ok (.aload_n 0, 1) := by decide +kernel
theorem dX0_takeBack_50 : decode cX0_takeBack 50 = .ok (.iload_n 2, 1) := by decide +kernel
theorem dX0_takeBack_51 : decode cX0_takeBack 51 = .ok (.iload_n 3, 1) := by decide +kernel
theorem dX0_takeBack_52 : decode cX0_takeBack 52 = .ok (.invokevirtual 82, 3) := by decide +kernel
theorem dX0_takeBack_55 : decode cX0_takeBack 55 = .ok (.istore 4, 2) := by decide +kernel
theorem dX0_takeBack_57 : decode cX0_takeBack 57 = .ok (.aload_n 0, 1) := by decide +kernel
theorem dX0_takeBack_58 : decode cX0_takeBack 58 = .ok (.iload_n 2, 1) := by decide +kernel
theorem dX0_takeBack_59 : decode cX0_takeBack 59 = .ok (.iload 4, 2) := by decide +kernel
theorem dX0_takeBack_61 : decode cX0_takeBack 61 = .ok (.invokevirtual 60, 3) := by decide +kernel
theorem dX0_takeBack_64 : decode cX0_takeBack 64 = .ok (.iload_n 1, 1) := by decide +kernel
theorem dX0_takeBack_65 : decode cX0_takeBack 65 = .ok (.if_icmp .ne 37, 3) := by decide +kernel
theorem dX0_takeBack_68 : decode cX0_takeBack 68 = .ok (.aload_n 0, 1) := by decide +kernel
theorem dX0_takeBack_69 : decode cX0_takeBack 69 = .ok (.iload_n 2, 1) := by decide +kernel
theorem dX0_takeBack_70 : decode cX0_takeBack 70 = .ok (.iload 4, 2) := by decide +kernel
theorem dX0_takeBack_72 : decode cX0_takeBack 72 = .ok (.invokevirtual 73, 3) := by decide +kernel
theorem dX0_takeBack_75 : decode cX0_takeBack 75 = .ok (.aload_n 0, 1) := by decide +kernel
theorem dX0_takeBack_76 : decode cX0_takeBack 76 = .ok (.iconst 2, 1) := by decide +kernel
theorem dX0_takeBack_77 : decode cX0_takeBack 77 = .ok (.iload_n 1, 1) := by decide +kernel
theorem dX0_takeBack_78 : decode cX0_takeBack 78 = .ok (.iadd, 1) := by decide +kernel
theorem dX0_takeBack_79 : decode cX0_takeBack 79 = .ok (.bipush 99, 2) := by decide +kernel
theorem dX0_takeBack_81 : decode cX0_takeBack 81 = .ok (.aload_n 0, 1) := by decide +kernel
theorem dX0_takeBack_82 : decode cX0_takeBack 82 = .ok (.iconst 2, 1) := by decide +kernel
theorem dX0_takeBack_83 : decode cX0_takeBack 83 = .ok (.iload_n 1, 1) := by decide +kernel
theorem dX0_takeBack_84 : decode cX0_takeBack 84 = .ok (.invokevirtual 47, 3) := by decide +kernel
theorem dX0_takeBack_87 : decode cX0_takeBack 87 = .ok (.iconst 1, 1) := by decide +kernel
theorem dX0_takeBack_88 : decode cX0_takeBack 88 = .ok (.iadd, 1) := by decide +kernel
theorem dX0_takeBack_89 : decode cX0_takeBack 89 = .ok (.invokestatic 88, 3) := by decide +kernel
theorem dX0_takeBack_92 : decode cX0_takeBack 92 = .ok (.invokevirtual 36, 3) := by decide +kernel
theorem dX0_takeBack_95 : decode cX0_takeBack 95 = .ok (.aload_n 0, 1) := by decide +kernel
theorem dX0_takeBack_96 : decode cX0_takeBack 96 = .ok (.iconst 2, 1) := by decide +kernel
theorem dX0_takeBack_97 : decode cX0_takeBack 97 = .ok (.iload_n 1, 1) := by decide +kernel
theorem dX0_takeBack_98 : decode cX0_takeBack 98 = .ok (.invokevirtual 47, 3) := by decide +kernel
theorem dX0_takeBack_101 : decode cX0_takeBack 101 = .ok (.ireturn, 1) := by decide +kernel
theorem dX0_takeBack_102 : decode cX0_takeBack 102 = .ok (.iinc 3 1, 3) := by decide +kernel
theorem dX0_takeBack_105 : decode cX0_takeBack 105 = .ok (.goto (-65), 3) := by decide +kernel
theorem dX0_takeBack_108 : decode cX0_takeBack 108 = .ok (.bipush (-3), 2) := by decide +kernel
theorem dX0_takeBack_110 : decode cX0_takeBack 110 = .ok (.ireturn, 1) := by decide +kernel
set_option maxRecDepth 20000 in
theorem ggX0_cutOpen_X0_isBag : GoodIn wsX0_cutOpen wsX0_isBag := goodIn_r _ [5, 6, 36, 37, 38, 39, 40] (by decide +kernel) (by decide +kernel)
set_option maxRecDepth 20000 in
theorem gX0_cutOpen_X0_isBag : GoodIn wsX0_cutOpen (wsV RX0 51 RX0 yX0_isBag wsX0_isBag) := goodIn_app (goodIn_of _ (by decide +kernel)) ggX0_cutOpen_X0_isBag
set_option maxRecDepth 20000 in
theorem ggX0_cutOpen_X0_breathsIn : GoodIn wsX0_cutOpen wsX0_breathsIn := goodIn_r _ [10, 1, 2, 3, 4, 5, 6, 11, 12, 13, 14, 15, 36, 37, 38, 39, 40] (by decide +kernel) (by decide +kernel)
set_option maxRecDepth 20000 in
theorem gX0_cutOpen_X0_breathsIn : GoodIn wsX0_cutOpen (wsV RX0 57 RX0 yX0_breathsIn wsX0_breathsIn) := goodIn_app (goodIn_of _ (by decide +kernel)) ggX0_cutOpen_X0_breathsIn
set_option maxRecDepth 20000 in
theorem ggX0_cutOpen_X0_lose : GoodIn wsX0_cutOpen wsX0_lose := goodIn_r _ [19, 20, 21, 22, 4, 23, 11, 12, 13, 14, 15, 24, 25, 26, 27, 28, 29, 30, 31, 32, 33, 34, 35, 36, 37, 38, 39, 40] (by decide +kernel) (by decide +kernel)
set_option maxRecDepth 20000 in
theorem gX0_cutOpen_X0_lose : GoodIn wsX0_cutOpen (wsV RX0 85 RX0 yX0_lose wsX0_lose) := goodIn_app (goodIn_of _ (by decide +kernel)) ggX0_cutOpen_X0_lose
theorem dX0_cutOpen_0 : decode cX0_cutOpen 0 = .ok (.aload_n 0, 1) := by decide +kernel
theorem dX0_cutOpen_1 : decode cX0_cutOpen 1 = .ok (.iload_n 1, 1) := by decide +kernel
theorem dX0_cutOpen_2 : decode cX0_cutOpen 2 = .ok (.invokevirtual 51, 3) := by decide +kernel
theorem dX0_cutOpen_5 : decode cX0_cutOpen 5 = .ok (.ifCond .ne 5, 3) := by decide +kernel
theorem dX0_cutOpen_8 : decode cX0_cutOpen 8 = .ok (.iconst (-1), 1) := by decide +kernel
theorem dX0_cutOpen_9 : decode cX0_cutOpen 9 = .ok (.ireturn, 1) := by decide +kernel
theorem dX0_cutOpen_10 : decode cX0_cutOpen 10 = .ok (.aload_n 0, 1) := by decide +kernel
theorem dX0_cutOpen_11 : decode cX0_cutOpen 11 = .ok (.iload_n 1, 1) := by decide +kernel
theorem dX0_cutOpen_12 : decode cX0_cutOpen 12 = .ok (.invokevirtual 57, 3) := by decide +kernel
theorem dX0_cutOpen_15 : decode cX0_cutOpen 15 = .ok (.istore_n 2, 1) := by decide +kernel
theorem dX0_cutOpen_16 : decode cX0_cutOpen 16 = .ok (.iload_n 2, 1) := by decide +kernel
theorem dX0_cutOpen_17 : decode cX0_cutOpen 17 = .ok (.ifCond .ne 6, 3) := by decide +kernel
theorem dX0_cutOpen_20 : decode cX0_cutOpen 20 = .ok (.bipush (-3), 2) := by decide +kernel
theorem dX0_cutOpen_22 : decode cX0_cutOpen 22 = .ok (.ireturn, 1) := by decide +kernel
theorem dX0_cutOpen_23 : decode cX0_cutOpen 23 = .ok (.iconst 0, 1) := by decide +kernel
theorem dX0_cutOpen_24 : decode cX0_cutOpen 24 = .ok (.istore_n 3, 1) := by decide +kernel
theorem dX0_cutOpen_25 : decode cX0_cutOpen 25 = .ok (.iload_n 3, 1) := by decide +kernel
theorem dX0_cutOpen_26 : decode cX0_cutOpen 26 = .ok (.iload_n 2, 1) := by decide +kernel
theorem dX0_cutOpen_27 : decode cX0_cutOpen 27 = .ok (.if_icmp .ge 15, 3) := by decide +kernel
theorem dX0_cutOpen_30 : decode cX0_cutOpen 30 = .ok (.aload_n 0, 1) := by decide +kernel
theorem dX0_cutOpen_31 : decode cX0_cutOpen 31 = .ok (.iload_n 1, 1) := by decide +kernel
theorem dX0_cutOpen_32 : decode cX0_cutOpen 32 = .ok (.iconst 0, 1) := by decide +kernel
theorem dX0_cutOpen_33 : decode cX0_cutOpen 33 = .ok (.invokevirtual 85, 3) := by decide +kernel
theorem dX0_cutOpen_36 : decode cX0_cutOpen 36 = .ok (.iinc 3 1, 3) := by decide +kernel
theorem dX0_cutOpen_39 : decode cX0_cutOpen 39 = .ok (.goto (-14), 3) := by decide +kernel
theorem dX0_cutOpen_42 : decode cX0_cutOpen 42 = .ok (.iload_n 2, 1) := by decide +kernel
theorem dX0_cutOpen_43 : decode cX0_cutOpen 43 = .ok (.ireturn, 1) := by decide +kernel
set_option maxRecDepth 20000 in
theorem ggX0_loseMan_X0_isMan : GoodIn wsX0_loseMan wsX0_isMan := goodIn_r _ [5, 6, 45, 46, 47, 48, 49] (by decide +kernel) (by decide +kernel)
set_option maxRecDepth 20000 in
theorem gX0_loseMan_X0_isMan : GoodIn wsX0_loseMan (wsV RX0 43 RX0 yX0_isMan wsX0_isMan) := goodIn_app (goodIn_of _ (by decide +kernel)) ggX0_loseMan_X0_isMan
set_option maxRecDepth 20000 in
theorem ggX0_loseMan_X0_hasFallen : GoodIn wsX0_loseMan wsX0_hasFallen := goodIn_r _ [10, 11, 12, 13, 4, 14, 15, 16, 17, 18, 19, 45, 46, 47, 48, 49] (by decide +kernel) (by decide +kernel)
set_option maxRecDepth 20000 in
theorem gX0_loseMan_X0_hasFallen : GoodIn wsX0_loseMan (wsV RX0 76 RX0 yX0_hasFallen wsX0_hasFallen) := goodIn_app (goodIn_of _ (by decide +kernel)) ggX0_loseMan_X0_hasFallen
set_option maxRecDepth 20000 in
theorem ggX0_loseMan_X0_fallenBits : GoodIn wsX0_loseMan wsX0_fallenBits := goodIn_r _ [14, 15, 16, 17, 4, 18, 19, 45, 46, 47, 48, 49] (by decide +kernel) (by decide +kernel)
set_option maxRecDepth 20000 in
theorem gX0_loseMan_X0_fallenBits : GoodIn wsX0_loseMan (wsV RX0 39 RX0 yX0_fallenBits wsX0_fallenBits) := goodIn_app (goodIn_of _ (by decide +kernel)) ggX0_loseMan_X0_fallenBits
set_option maxRecDepth 20000 in
theorem ggX0_loseMan_X0_setCell : GoodIn wsX0_loseMan wsX0_setCell := goodIn_r _ [23, 19, 45, 46, 47, 48, 49] (by decide +kernel) (by decide +kernel)
set_option maxRecDepth 20000 in
theorem gX0_loseMan_X0_setCell : GoodIn wsX0_loseMan (wsV RX0 36 RX0 yX0_setCell wsX0_setCell) := goodIn_app (goodIn_of _ (by decide +kernel)) ggX0_loseMan_X0_setCell
set_option maxRecDepth 20000 in
theorem ggX0_loseMan_X0_left : GoodIn wsX0_loseMan wsX0_left := goodIn_r _ [27, 11, 12, 13, 4, 14, 15, 16, 17, 18, 19, 28, 29, 30, 31, 32, 33, 34, 35, 36, 37, 38, 39, 40, 41, 42, 43, 44, 45, 46, 47, 48, 49] (by decide +kernel) (by decide +kernel)
set_option maxRecDepth 20000 in
theorem gX0_loseMan_X0_left : GoodIn wsX0_loseMan (wsV RX0 93 RX0 yX0_left wsX0_left) := goodIn_app (goodIn_of _ (by decide +kernel)) ggX0_loseMan_X0_left
theorem dX0_loseMan_0 : decode cX0_loseMan 0 = .ok (.aload_n 0, 1) := by decide +kernel
theorem dX0_loseMan_1 : decode cX0_loseMan 1 = .ok (.iload_n 1, 1) := by decide +kernel
theorem dX0_loseMan_2 : decode cX0_loseMan 2 = .ok (.invokevirtual 43, 3) := by decide +kernel
theorem dX0_loseMan_5 : decode cX0_loseMan 5 = .ok (.ifCond .ne 5, 3) := by decide +kernel
theorem dX0_loseMan_8 : decode cX0_loseMan 8 = .ok (.iconst (-1), 1) := by decide +kernel
theorem dX0_loseMan_9 : decode cX0_loseMan 9 = .ok (.ireturn, 1) := by decide +kernel
theorem dX0_loseMan_10 : decode cX0_loseMan 10 = .ok (.aload_n 0, 1) := by decide +kernel
theorem dX0_loseMan_11 : decode cX0_loseMan 11 = .ok (.iload_n 1, 1) := by decide +kernel
theorem dX0_loseMan_12 : decode cX0_loseMan 12 = .ok (.invokevirtual 76, 3) := by decide +kernel
theorem dX0_loseMan_15 : decode cX0_loseMan 15 = .ok (.ifCond .eq 6, 3) := by decide +kernel
theorem dX0_loseMan_18 : decode cX0_loseMan 18 = .ok (.bipush (-3), 2) := by decide +kernel
theorem dX0_loseMan_20 : decode cX0_loseMan 20 = .ok (.ireturn, 1) := by decide +kernel
theorem dX0_loseMan_21 : decode cX0_loseMan 21 = .ok (.aload_n 0, 1) := by decide +kernel
theorem dX0_loseMan_22 : decode cX0_loseMan 22 = .ok (.iconst 1, 1) := by decide +kernel
theorem dX0_loseMan_23 : decode cX0_loseMan 23 = .ok (.aload_n 0, 1) := by decide +kernel
theorem dX0_loseMan_24 : decode cX0_loseMan 24 = .ok (.invokevirtual 39, 3) := by decide +kernel
theorem dX0_loseMan_27 : decode cX0_loseMan 27 = .ok (.iconst 1, 1) := by decide +kernel
theorem dX0_loseMan_28 : decode cX0_loseMan 28 = .ok (.iload_n 1, 1) := by decide +kernel
theorem dX0_loseMan_29 : decode cX0_loseMan 29 = .ok (.ishl, 1) := by decide +kernel
theorem dX0_loseMan_30 : decode cX0_loseMan 30 = .ok (.ior, 1) := by decide +kernel
theorem dX0_loseMan_31 : decode cX0_loseMan 31 = .ok (.invokevirtual 36, 3) := by decide +kernel
theorem dX0_loseMan_34 : decode cX0_loseMan 34 = .ok (.aload_n 0, 1) := by decide +kernel
theorem dX0_loseMan_35 : decode cX0_loseMan 35 = .ok (.invokevirtual 93, 3) := by decide +kernel
theorem dX0_loseMan_38 : decode cX0_loseMan 38 = .ok (.ireturn, 1) := by decide +kernel
set_option maxRecDepth 20000 in
theorem ggX0_passDay_X0_kindOfBag : GoodIn wsX0_passDay wsX0_kindOfBag := goodIn_r _ [6, 1, 7, 71, 72, 73, 74, 75] (by decide +kernel) (by decide +kernel)
set_option maxRecDepth 20000 in
theorem gX0_passDay_X0_kindOfBag : GoodIn wsX0_passDay (wsV RX0 66 RX0 yX0_kindOfBag wsX0_kindOfBag) := goodIn_app (goodIn_of _ (by decide +kernel)) ggX0_passDay_X0_kindOfBag
set_option maxRecDepth 20000 in
theorem ggX0_passDay_X0_breathsIn : GoodIn wsX0_passDay wsX0_breathsIn := goodIn_r _ [11, 12, 13, 14, 5, 15, 1, 16, 17, 18, 19, 20, 71, 72, 73, 74, 75] (by decide +kernel) (by decide +kernel)
set_option maxRecDepth 20000 in
theorem gX0_passDay_X0_breathsIn : GoodIn wsX0_passDay (wsV RX0 57 RX0 yX0_breathsIn wsX0_breathsIn) := goodIn_app (goodIn_of _ (by decide +kernel)) ggX0_passDay_X0_breathsIn
set_option maxRecDepth 20000 in
theorem ggX0_passDay_X0_lose : GoodIn wsX0_passDay wsX0_lose := goodIn_r _ [24, 25, 26, 27, 5, 28, 16, 17, 18, 19, 20, 29, 30, 31, 32, 33, 34, 35, 36, 37, 38, 39, 40, 71, 72, 73, 74, 75] (by decide +kernel) (by decide +kernel)
set_option maxRecDepth 20000 in
theorem gX0_passDay_X0_lose : GoodIn wsX0_passDay (wsV RX0 85 RX0 yX0_lose wsX0_lose) := goodIn_app (goodIn_of _ (by decide +kernel)) ggX0_passDay_X0_lose
set_option maxRecDepth 20000 in
theorem ggX0_passDay_X0_today : GoodIn wsX0_passDay wsX0_today := goodIn_r _ [44, 16, 17, 18, 5, 19, 20, 71, 72, 73, 74, 75] (by decide +kernel) (by decide +kernel)
set_option maxRecDepth 20000 in
theorem gX0_passDay_X0_today : GoodIn wsX0_passDay (wsV RX0 96 RX0 yX0_today wsX0_today) := goodIn_app (goodIn_of _ (by decide +kernel)) ggX0_passDay_X0_today
set_option maxRecDepth 20000 in
theorem ggX0_passDay_X0_passSunday : GoodIn wsX0_passDay wsX0_passSunday := goodIn_r _ [48, 49, 50, 51, 52, 5, 53, 54, 55, 56, 57, 16, 17, 18, 19, 20, 58, 59, 60, 61, 62, 63, 64, 65, 66, 67, 68, 69, 70, 29, 30, 31, 32, 33, 34, 35, 36, 71, 72, 73, 74, 75] (by decide +kernel) (by decide +kernel)
set_option maxRecDepth 20000 in
theorem gX0_passDay_X0_passSunday : GoodIn wsX0_passDay (wsV RX0 99 RX0 yX0_passSunday wsX0_passSunday) := goodIn_app (goodIn_of _ (by decide +kernel)) ggX0_passDay_X0_passSunday
set_option maxRecDepth 20000 in
theorem ggX0_passDay_X0_addTo : GoodIn wsX0_passDay wsX0_addTo := goodIn_r _ [32, 16, 17, 18, 5, 19, 20, 33, 34, 35, 36, 71, 72, 73, 74, 75] (by decide +kernel) (by decide +kernel)
set_option maxRecDepth 20000 in
theorem gX0_passDay_X0_addTo : GoodIn wsX0_passDay (wsV RX0 28 RX0 yX0_addTo wsX0_addTo) := goodIn_app (goodIn_of _ (by decide +kernel)) ggX0_passDay_X0_addTo
theorem dX0_passDay_0 : decode cX0_passDay 0 = .ok (.iconst 0, 1) := by decide +kernel
theorem dX0_passDay_1 : decode cX0_passDay 1 = .ok (.istore_n 1, 1) := by decide +kernel
theorem dX0_passDay_2 : decode cX0_passDay 2 = .ok (.iconst 0, 1) := by decide +kernel
theorem dX0_passDay_3 : decode cX0_passDay 3 = .ok (.istore_n 2, 1) := by decide +kernel
theorem dX0_passDay_4 : decode cX0_passDay 4 = .ok (.iload_n 2, 1) := by decide +kernel
theorem dX0_passDay_5 : decode cX0_passDay 5 = .ok (.aload_n 0, 1) := by decide +kernel
theorem dX0_passDay_6 : decode cX0_passDay 6 = .ok (.getfield 11, 3) := by decide +kernel
theorem dX0_passDay_9 : decode cX0_passDay 9 = .ok (.if_icmp .ge 35, 3) := by decide +kernel
theorem dX0_passDay_12 : decode cX0_passDay 12 = .ok (.aload_n 0, 1) := by decide +kernel
theorem dX0_passDay_13 : decode cX0_passDay 13 = .ok (.iload_n 2, 1) := by decide +kernel
theorem dX0_passDay_14 : decode cX0_passDay 14 = .ok (.invokevirtual 66, 3) := by decide +kernel
theorem dX0_passDay_17 : decode cX0_passDay 17 = .ok (.iconst 2, 1) := by decide +kernel
theorem dX0_passDay_18 : decode cX0_passDay 18 = .ok (.if_icmp .ne 20, 3) := by decide +kernel
theorem dX0_passDay_21 : decode cX0_passDay 21 = .ok (.aload_n 0, 1) := by decide +kernel
theorem dX0_passDay_22 : decode cX0_passDay 22 = .ok (.iload_n 2, 1) := by decide +kernel
theorem dX0_passDay_23 : decode cX0_passDay 23 = .ok (.invokevirtual 57, 3) := by decide +kernel
theorem dX0_passDay_26 : decode cX0_passDay 26 = .ok (.ifCond .le 12, 3) := by decide +kernel
theorem dX0_passDay_29 : decode cX0_passDay 29 = .ok (.aload_n 0, 1) := by decide +kernel
theorem dX0_passDay_30 : decode cX0_passDay 30 = .ok (.iload_n 2, 1) := by decide +kernel
theorem dX0_passDay_31 : decode cX0_passDay 31 = .ok (.iconst 0, 1) := by decide +kernel
theorem dX0_passDay_32 : decode cX0_passDay 32 = .ok (.invokevirtual 85, 3) := by decide +kernel
theorem dX0_passDay_35 : decode cX0_passDay 35 = .ok (.iinc 1 1, 3) := by decide +kernel
theorem dX0_passDay_38 : decode cX0_passDay 38 = .ok (.iinc 2 1, 3) := by decide +kernel
theorem dX0_passDay_41 : decode cX0_passDay 41 = .ok (.goto (-37), 3) := by decide +kernel
theorem dX0_passDay_44 : decode cX0_passDay 44 = .ok (.aload_n 0, 1) := by decide +kernel
theorem dX0_passDay_45 : decode cX0_passDay 45 = .ok (.invokevirtual 96, 3) := by decide +kernel
theorem dX0_passDay_48 : decode cX0_passDay 48 = .ok (.bipush 7, 2) := by decide +kernel
theorem dX0_passDay_50 : decode cX0_passDay 50 = .ok (.irem, 1) := by decide +kernel
theorem dX0_passDay_51 : decode cX0_passDay 51 = .ok (.bipush 6, 2) := by decide +kernel
theorem dX0_passDay_53 : decode cX0_passDay 53 = .ok (.if_icmp .ne 7, 3) := by decide +kernel
theorem dX0_passDay_56 : decode cX0_passDay 56 = .ok (.aload_n 0, 1) := by decide +kernel
theorem dX0_passDay_57 : decode cX0_passDay 57 = .ok (.invokevirtual 99, 3) := by decide +kernel
theorem dX0_passDay_60 : decode cX0_passDay 60 = .ok (.aload_n 0, 1) := by decide +kernel
theorem dX0_passDay_61 : decode cX0_passDay 61 = .ok (.iconst 0, 1) := by decide +kernel
theorem dX0_passDay_62 : decode cX0_passDay 62 = .ok (.iconst 1, 1) := by decide +kernel
theorem dX0_passDay_63 : decode cX0_passDay 63 = .ok (.invokevirtual 28, 3) := by decide +kernel
theorem dX0_passDay_66 : decode cX0_passDay 66 = .ok (.iload_n 1, 1) := by decide +kernel
theorem dX0_passDay_67 : decode cX0_passDay 67 = .ok (.ireturn, 1) := by decide +kernel
set_option maxRecDepth 20000 in
theorem ggX0_passSunday_X0_hasFallen : GoodIn wsX0_passSunday wsX0_hasFallen := goodIn_r _ [6, 7, 8, 9, 5, 10, 11, 12, 13, 14, 15, 37, 38, 39, 40, 41] (by decide +kernel) (by decide +kernel)
set_option maxRecDepth 20000 in
theorem gX0_passSunday_X0_hasFallen : GoodIn wsX0_passSunday (wsV RX0 76 RX0 yX0_hasFallen wsX0_hasFallen) := goodIn_app (goodIn_of _ (by decide +kernel)) ggX0_passSunday_X0_hasFallen
set_option maxRecDepth 20000 in
theorem ggX0_passSunday_X0_kindOfMan : GoodIn wsX0_passSunday wsX0_kindOfMan := goodIn_r _ [19, 1, 20, 37, 38, 39, 40, 41] (by decide +kernel) (by decide +kernel)
set_option maxRecDepth 20000 in
theorem gX0_passSunday_X0_kindOfMan : GoodIn wsX0_passSunday (wsV RX0 102 RX0 yX0_kindOfMan wsX0_kindOfMan) := goodIn_app (goodIn_of _ (by decide +kernel)) ggX0_passSunday_X0_kindOfMan
set_option maxRecDepth 20000 in
theorem ggX0_passSunday_X0_ofMan : GoodIn wsX0_passSunday wsX0_ofMan := goodIn_r _ [24, 25, 26, 27, 5, 28, 1, 11, 12, 13, 14, 15, 37, 38, 39, 40, 41] (by decide +kernel) (by decide +kernel)
set_option maxRecDepth 20000 in
theorem gX0_passSunday_X0_ofMan : GoodIn wsX0_passSunday (wsV RX0 47 RX0 yX0_ofMan wsX0_ofMan) := goodIn_app (goodIn_of _ (by decide +kernel)) ggX0_passSunday_X0_ofMan
set_option maxRecDepth 20000 in
theorem ggX0_passSunday_X0_addTo : GoodIn wsX0_passSunday wsX0_addTo := goodIn_r _ [32, 11, 12, 13, 5, 14, 15, 33, 34, 35, 36, 37, 38, 39, 40, 41] (by decide +kernel) (by decide +kernel)
set_option maxRecDepth 20000 in
theorem gX0_passSunday_X0_addTo : GoodIn wsX0_passSunday (wsV RX0 28 RX0 yX0_addTo wsX0_addTo) := goodIn_app (goodIn_of _ (by decide +kernel)) ggX0_passSunday_X0_addTo
theorem dX0_passSunday_0 : decode cX0_passSunday 0 = .ok (.iconst 0, 1) := by decide +kernel
theorem dX0_passSunday_1 : decode cX0_passSunday 1 = .ok (.istore_n 1, 1) := by decide +kernel
theorem dX0_passSunday_2 : decode cX0_passSunday 2 = .ok (.iload_n 1, 1) := by decide +kernel
theorem dX0_passSunday_3 : decode cX0_passSunday 3 = .ok (.aload_n 0, 1) := by decide +kernel
theorem dX0_passSunday_4 : decode cX0_passSunday 4 = .ok (.getfield 15, 3) := by decide +kernel
theorem dX0_passSunday_7 : decode cX0_passSunday 7 = .ok (.if_icmp .ge 83, 3) := by decide +kernel
theorem dX0_passSunday_10 : decode cX0_passSunday 10 = .ok (.aload_n 0, 1) := by decide +kernel
theorem dX0_passSunday_11 : decode cX0_passSunday 11 = .ok (.iload_n 1, 1) := by decide +kernel
theorem dX0_passSunday_12 : decode cX0_passSunday 12 = .ok (.invokevirtual 76, 3) := by decide +kernel
theorem dX0_passSunday_15 : decode cX0_passSunday 15 = .ok (.ifCond .eq 6, 3) := by decide +kernel
theorem dX0_passSunday_18 : decode cX0_passSunday 18 = .ok (.goto 66, 3) := by decide +kernel
theorem dX0_passSunday_21 : decode cX0_passSunday 21 = .ok (.aload_n 0, 1) := by decide +kernel
theorem dX0_passSunday_22 : decode cX0_passSunday 22 = .ok (.iload_n 1, 1) := by decide +kernel
theorem dX0_passSunday_23 : decode cX0_passSunday 23 = .ok (.invokevirtual 102, 3) := by decide +kernel
theorem dX0_passSunday_26 : decode cX0_passSunday 26 = .ok (.istore_n 2, 1) := by decide +kernel
theorem dX0_passSunday_27 : decode cX0_passSunday 27 = .ok (.aload_n 0, 1) := by decide +kernel
theorem dX0_passSunday_28 : decode cX0_passSunday 28 = .ok (.iconst 2, 1) := by decide +kernel
theorem dX0_passSunday_29 : decode cX0_passSunday 29 = .ok (.iload_n 1, 1) := by decide +kernel
theorem dX0_passSunday_30 : decode cX0_passSunday 30 = .ok (.invokevirtual 47, 3) := by decide +kernel
theorem dX0_passSunday_33 : decode cX0_passSunday 33 = .ok (.iload_n 2, 1) := by decide +kernel
theorem dX0_passSunday_34 : decode cX0_passSunday 34 = .ok (.iconst 1, 1) := by decide +kernel
theorem dX0_passSunday_35 : decode cX0_passSunday 35 = .ok (.if_icmp .ne 7, 3) := by decide +kernel
theorem dX0_passSunday_38 : decode cX0_passSunday 38 = .ok (.iconst 1, 1) := by decide +kernel
theorem dX0_passSunday_39 : decode cX0_passSunday 39 = .ok (.goto 4, 3) := by decide +kernel
theorem dX0_passSunday_42 : decode cX0_passSunday 42 = .ok (.iconst 0, 1) := by decide +kernel
theorem dX0_passSunday_43 : decode cX0_passSunday 43 = .ok (.if_icmp .le 14, 3) := by decide +kernel
theorem dX0_passSunday_46 : decode cX0_passSunday 46 = .ok (.aload_n 0, 1) := by decide +kernel
theorem dX0_passSunday_47 : decode cX0_passSunday 47 = .ok (.iconst 2, 1) := by decide +kernel
theorem dX0_passSunday_48 : decode cX0_passSunday 48 = .ok (.iload_n 1, 1) := by decide +kernel
theorem dX0_passSunday_49 : decode cX0_passSunday 49 = .ok (.iadd, 1) := by decide +kernel
theorem dX0_passSunday_50 : decode cX0_passSunday 50 = .ok (.iconst (-1), 1) := by decide +kernel
theorem dX0_passSunday_51 : decode cX0_passSunday 51 = .ok (.invokevirtual 28, 3) := by decide +kernel
theorem dX0_passSunday_54 : decode cX0_passSunday 54 = .ok (.goto 30, 3) := by decide +kernel
theorem dX0_passSunday_57 : decode cX0_passSunday 57 = .ok (.aload_n 0, 1) := by decide +kernel
theorem dX0_passSunday_58 : decode cX0_passSunday 58 = .ok (.bipush 7, 2) := by decide +kernel
theorem dX0_passSunday_60 : decode cX0_passSunday 60 = .ok (.iload_n 1, 1) := by decide +kernel
theorem dX0_passSunday_61 : decode cX0_passSunday 61 = .ok (.iadd, 1) := by decide +kernel
theorem dX0_passSunday_62 : decode cX0_passSunday 62 = .ok (.iload_n 2, 1) := by decide +kernel
theorem dX0_passSunday_63 : decode cX0_passSunday 63 = .ok (.iconst 3, 1) := by decide +kernel
theorem dX0_passSunday_64 : decode cX0_passSunday 64 = .ok (.if_icmp .ne 7, 3) := by decide +kernel
theorem dX0_passSunday_67 : decode cX0_passSunday 67 = .ok (.iconst 0, 1) := by decide +kernel
theorem dX0_passSunday_68 : decode cX0_passSunday 68 = .ok (.goto 13, 3) := by decide +kernel
theorem dX0_passSunday_71 : decode cX0_passSunday 71 = .ok (.iload_n 2, 1) := by decide +kernel
theorem dX0_passSunday_72 : decode cX0_passSunday 72 = .ok (.iconst 2, 1) := by decide +kernel
theorem dX0_passSunday_73 : decode cX0_passSunday 73 = .ok (.if_icmp .ne 7, 3) := by decide +kernel
theorem dX0_passSunday_76 : decode cX0_passSunday 76 = .ok (.iconst 2, 1) := by decide +kernel
theorem dX0_passSunday_77 : decode cX0_passSunday 77 = .ok (.goto 4, 3) := by decide +kernel
theorem dX0_passSunday_80 : decode cX0_passSunday 80 = .ok (.iconst 1, 1) := by decide +kernel
theorem dX0_passSunday_81 : decode cX0_passSunday 81 = .ok (.invokevirtual 28, 3) := by decide +kernel
theorem dX0_passSunday_84 : decode cX0_passSunday 84 = .ok (.iinc 1 1, 3) := by decide +kernel
theorem dX0_passSunday_87 : decode cX0_passSunday 87 = .ok (.goto (-85), 3) := by decide +kernel
theorem dX0_passSunday_90 : decode cX0_passSunday 90 = .ok (.return_, 1) := by decide +kernel
set_option maxRecDepth 20000 in
theorem ggX0_canDo_X0_passDay : GoodIn wsX0_canDo wsX0_passDay := goodIn_r _ [5, 6, 7, 8, 9, 4, 10, 11, 12, 13, 14, 15, 16, 17, 18, 19, 20, 21, 22, 23, 24, 25, 26, 27, 28, 29, 30, 31, 32, 33, 34, 35, 36, 37, 38, 39, 40, 41, 42, 43, 44, 45, 46, 47, 48, 49, 50, 51, 52, 53, 54, 55, 56, 57, 58, 59, 60, 61, 62, 63, 64, 65, 66, 67, 68, 69, 70, 71, 72, 73, 74, 115, 116, 117, 118, 119] (by decide +kernel) (by decide +kernel)
set_option maxRecDepth 20000 in
theorem gX0_canDo_X0_passDay : GoodIn wsX0_canDo (wsV RX0 105 RX0 yX0_passDay wsX0_passDay) := goodIn_app (goodIn_of _ (by decide +kernel)) ggX0_canDo_X0_passDay
set_option maxRecDepth 20000 in
theorem ggX0_canDo_X0_giveBreath : GoodIn wsX0_canDo wsX0_giveBreath := goodIn_r _ [78, 71, 72, 73, 4, 74, 53, 16, 17, 18, 19, 6, 54, 55, 56, 57, 58, 59, 60, 61, 20, 21, 22, 23, 24, 67, 68, 69, 70, 12, 13, 14, 15, 33, 34, 35, 36, 37, 38, 39, 40, 79, 80, 81, 82, 115, 116, 117, 118, 119] (by decide +kernel) (by decide +kernel)
set_option maxRecDepth 20000 in
theorem gX0_canDo_X0_giveBreath : GoodIn wsX0_canDo (wsV RX0 108 RX0 yX0_giveBreath wsX0_giveBreath) := goodIn_app (goodIn_of _ (by decide +kernel)) ggX0_canDo_X0_giveBreath
set_option maxRecDepth 20000 in
theorem ggX0_canDo_X0_playBreaths : GoodIn wsX0_canDo wsX0_playBreaths := goodIn_r _ [86, 16, 17, 18, 4, 19, 6, 12, 13, 14, 15, 20, 21, 22, 23, 24, 87, 88, 89, 90, 7, 8, 9, 10, 11, 25, 26, 27, 28, 29, 30, 31, 32, 33, 34, 35, 36, 37, 38, 39, 40, 41, 42, 43, 44, 115, 116, 117, 118, 119] (by decide +kernel) (by decide +kernel)
set_option maxRecDepth 20000 in
theorem gX0_canDo_X0_playBreaths : GoodIn wsX0_canDo (wsV RX0 111 RX0 yX0_playBreaths wsX0_playBreaths) := goodIn_app (goodIn_of _ (by decide +kernel)) ggX0_canDo_X0_playBreaths
set_option maxRecDepth 20000 in
theorem ggX0_canDo_X0_takeBack : GoodIn wsX0_canDo wsX0_takeBack := goodIn_r _ [94, 95, 96, 97, 98, 71, 72, 73, 4, 74, 53, 16, 17, 18, 19, 6, 54, 55, 56, 57, 58, 59, 60, 61, 20, 21, 22, 23, 24, 7, 8, 9, 10, 11, 12, 13, 14, 15, 87, 88, 89, 90, 29, 30, 31, 32, 41, 42, 43, 44, 37, 38, 39, 40, 33, 34, 35, 36, 67, 68, 69, 70, 115, 116, 117, 118, 119] (by decide +kernel) (by decide +kernel)
set_option maxRecDepth 20000 in
theorem gX0_canDo_X0_takeBack : GoodIn wsX0_canDo (wsV RX0 114 RX0 yX0_takeBack wsX0_takeBack) := goodIn_app (goodIn_of _ (by decide +kernel)) ggX0_canDo_X0_takeBack
set_option maxRecDepth 20000 in
theorem ggX0_canDo_X0_cutOpen : GoodIn wsX0_canDo wsX0_cutOpen := goodIn_r _ [102, 16, 17, 18, 4, 19, 6, 12, 13, 14, 15, 20, 21, 22, 23, 24, 25, 26, 27, 28, 29, 30, 31, 32, 33, 34, 35, 36, 37, 38, 39, 40, 41, 42, 43, 44, 115, 116, 117, 118, 119] (by decide +kernel) (by decide +kernel)
set_option maxRecDepth 20000 in
theorem gX0_canDo_X0_cutOpen : GoodIn wsX0_canDo (wsV RX0 117 RX0 yX0_cutOpen wsX0_cutOpen) := goodIn_app (goodIn_of _ (by decide +kernel)) ggX0_canDo_X0_cutOpen
set_option maxRecDepth 20000 in
theorem ggX0_canDo_X0_loseMan : GoodIn wsX0_canDo wsX0_loseMan := goodIn_r _ [106, 71, 72, 73, 4, 74, 53, 54, 55, 56, 57, 58, 59, 60, 61, 20, 21, 22, 23, 24, 37, 38, 39, 40, 107, 108, 109, 110, 111, 112, 113, 114, 6, 12, 13, 14, 15, 16, 17, 18, 19, 29, 30, 31, 32, 115, 116, 117, 118, 119] (by decide +kernel) (by decide +kernel)
set_option maxRecDepth 20000 in
theorem gX0_canDo_X0_loseMan : GoodIn wsX0_canDo (wsV RX0 120 RX0 yX0_loseMan wsX0_loseMan) := goodIn_app (goodIn_of _ (by decide +kernel)) ggX0_canDo_X0_loseMan
set_option maxRecDepth 20000 in
theorem ggX0_canDo_X0_isMan : GoodIn wsX0_canDo wsX0_isMan := goodIn_r _ [74, 53, 115, 116, 117, 118, 119] (by decide +kernel) (by decide +kernel)
set_option maxRecDepth 20000 in
theorem gX0_canDo_X0_isMan : GoodIn wsX0_canDo (wsV RX0 43 RX0 yX0_isMan wsX0_isMan) := goodIn_app (goodIn_of _ (by decide +kernel)) ggX0_canDo_X0_isMan
set_option maxRecDepth 20000 in
theorem ggX0_canDo_X0_ofMan : GoodIn wsX0_canDo wsX0_ofMan := goodIn_r _ [70, 71, 72, 73, 4, 74, 53, 20, 21, 22, 23, 24, 115, 116, 117, 118, 119] (by decide +kernel) (by decide +kernel)
set_option maxRecDepth 20000 in
theorem gX0_canDo_X0_ofMan : GoodIn wsX0_canDo (wsV RX0 47 RX0 yX0_ofMan wsX0_ofMan) := goodIn_app (goodIn_of _ (by decide +kernel)) ggX0_canDo_X0_ofMan
theorem dX0_canDo_0 : decode cX0_canDo 0 = .ok (.iload_n 1, 1) := by decide +kernel
theorem dX0_canDo_1 : decode cX0_canDo 1 = .ok (.tableswitch 169 0 6 #[43, 64, 79, 94, 109, 127, 145], 43) := by decide +kernel
theorem dX0_canDo_44 : decode cX0_canDo 44 = .ok (.iload_n 2, 1) := by decide +kernel
theorem dX0_canDo_45 : decode cX0_canDo 45 = .ok (.ifCond .ne 18, 3) := by decide +kernel
theorem dX0_canDo_48 : decode cX0_canDo 48 = .ok (.iload_n 3, 1) := by decide +kernel
theorem dX0_canDo_49 : decode cX0_canDo 49 = .ok (.ifCond .ne 14, 3) := by decide +kernel
theorem dX0_canDo_52 : decode cX0_canDo 52 = .ok (.aload_n 0, 1) := by decide +kernel
theorem dX0_canDo_53 : decode cX0_canDo 53 = .ok (.invokevirtual 105, 3) := by decide +kernel
theorem dX0_canDo_56 : decode cX0_canDo 56 = .ok (.ifCond .lt 7, 3) := by decide +kernel
theorem dX0_canDo_59 : decode cX0_canDo 59 = .ok (.iconst 1, 1) := by decide +kernel
theorem dX0_canDo_60 : decode cX0_canDo 60 = .ok (.goto 4, 3) := by decide +kernel
theorem dX0_canDo_63 : decode cX0_canDo 63 = .ok (.iconst 0, 1) := by decide +kernel
theorem dX0_canDo_64 : decode cX0_canDo 64 = .ok (.ireturn, 1) := by decide +kernel
theorem dX0_canDo_65 : decode cX0_canDo 65 = .ok (.aload_n 0, 1) := by decide +kernel
theorem dX0_canDo_66 : decode cX0_canDo 66 = .ok (.iload_n 2, 1) := by decide +kernel
theorem dX0_canDo_67 : decode cX0_canDo 67 = .ok (.iload_n 3, 1) := by decide +kernel
theorem dX0_canDo_68 : decode cX0_canDo 68 = .ok (.invokevirtual 108, 3) := by decide +kernel
theorem dX0_canDo_71 : decode cX0_canDo 71 = .ok (.ifCond .lt 7, 3) := by decide +kernel
theorem dX0_canDo_74 : decode cX0_canDo 74 = .ok (.iconst 1, 1) := by decide +kernel
theorem dX0_canDo_75 : decode cX0_canDo 75 = .ok (.goto 4, 3) := by decide +kernel
theorem dX0_canDo_78 : decode cX0_canDo 78 = .ok (.iconst 0, 1) := by decide +kernel
theorem dX0_canDo_79 : decode cX0_canDo 79 = .ok (.ireturn, 1) := by decide +kernel
theorem dX0_canDo_80 : decode cX0_canDo 80 = .ok (.aload_n 0, 1) := by decide +kernel
theorem dX0_canDo_81 : decode cX0_canDo 81 = .ok (.iload_n 2, 1) := by decide +kernel
theorem dX0_canDo_82 : decode cX0_canDo 82 = .ok (.iload_n 3, 1) := by decide +kernel
theorem dX0_canDo_83 : decode cX0_canDo 83 = .ok (.invokevirtual 111, 3) := by decide +kernel
theorem dX0_canDo_86 : decode cX0_canDo 86 = .ok (.ifCond .lt 7, 3) := by decide +kernel
theorem dX0_canDo_89 : decode cX0_canDo 89 = .ok (.iconst 1, 1) := by decide +kernel
theorem dX0_canDo_90 : decode cX0_canDo 90 = .ok (.goto 4, 3) := by decide +kernel
theorem dX0_canDo_93 : decode cX0_canDo 93 = .ok (.iconst 0, 1) := by decide +kernel
theorem dX0_canDo_94 : decode cX0_canDo 94 = .ok (.ireturn, 1) := by decide +kernel
theorem dX0_canDo_95 : decode cX0_canDo 95 = .ok (.aload_n 0, 1) := by decide +kernel
theorem dX0_canDo_96 : decode cX0_canDo 96 = .ok (.iload_n 2, 1) := by decide +kernel
theorem dX0_canDo_97 : decode cX0_canDo 97 = .ok (.iload_n 3, 1) := by decide +kernel
theorem dX0_canDo_98 : decode cX0_canDo 98 = .ok (.invokevirtual 114, 3) := by decide +kernel
theorem dX0_canDo_101 : decode cX0_canDo 101 = .ok (.ifCond .lt 7, 3) := by decide +kernel
theorem dX0_canDo_104 : decode cX0_canDo 104 = .ok (.iconst 1, 1) := by decide +kernel
theorem dX0_canDo_105 : decode cX0_canDo 105 = .ok (.goto 4, 3) := by decide +kernel
theorem dX0_canDo_108 : decode cX0_canDo 108 = .ok (.iconst 0, 1) := by decide +kernel
theorem dX0_canDo_109 : decode cX0_canDo 109 = .ok (.ireturn, 1) := by decide +kernel
theorem dX0_canDo_110 : decode cX0_canDo 110 = .ok (.iload_n 2, 1) := by decide +kernel
theorem dX0_canDo_111 : decode cX0_canDo 111 = .ok (.ifCond .ne 15, 3) := by decide +kernel
theorem dX0_canDo_114 : decode cX0_canDo 114 = .ok (.aload_n 0, 1) := by decide +kernel
theorem dX0_canDo_115 : decode cX0_canDo 115 = .ok (.iload_n 3, 1) := by decide +kernel
theorem dX0_canDo_116 : decode cX0_canDo 116 = .ok (.invokevirtual 117, 3) := by decide +kernel
theorem dX0_canDo_119 : decode cX0_canDo 119 = .ok (.ifCond .lt 7, 3) := by decide +kernel
theorem dX0_canDo_122 : decode cX0_canDo 122 = .ok (.iconst 1, 1) := by decide +kernel
theorem dX0_canDo_123 : decode cX0_canDo 123 = .ok (.goto 4, 3) := by decide +kernel
theorem dX0_canDo_126 : decode cX0_canDo 126 = .ok (.iconst 0, 1) := by decide +kernel
theorem dX0_canDo_127 : decode cX0_canDo 127 = .ok (.ireturn, 1) := by decide +kernel
theorem dX0_canDo_128 : decode cX0_canDo 128 = .ok (.iload_n 2, 1) := by decide +kernel
theorem dX0_canDo_129 : decode cX0_canDo 129 = .ok (.ifCond .ne 15, 3) := by decide +kernel
theorem dX0_canDo_132 : decode cX0_canDo 132 = .ok (.aload_n 0, 1) := by decide +kernel
theorem dX0_canDo_133 : decode cX0_canDo 133 = .ok (.iload_n 3, 1) := by decide +kernel
theorem dX0_canDo_134 : decode cX0_canDo 134 = .ok (.invokevirtual 120, 3) := by decide +kernel
theorem dX0_canDo_137 : decode cX0_canDo 137 = .ok (.ifCond .lt 7, 3) := by decide +kernel
theorem dX0_canDo_140 : decode cX0_canDo 140 = .ok (.iconst 1, 1) := by decide +kernel
theorem dX0_canDo_141 : decode cX0_canDo 141 = .ok (.goto 4, 3) := by decide +kernel
theorem dX0_canDo_144 : decode cX0_canDo 144 = .ok (.iconst 0, 1) := by decide +kernel
theorem dX0_canDo_145 : decode cX0_canDo 145 = .ok (.ireturn, 1) := by decide +kernel
theorem dX0_canDo_146 : decode cX0_canDo 146 = .ok (.aload_n 0, 1) := by decide +kernel
theorem dX0_canDo_147 : decode cX0_canDo 147 = .ok (.iload_n 2, 1) := by decide +kernel
theorem dX0_canDo_148 : decode cX0_canDo 148 = .ok (.invokevirtual 43, 3) := by decide +kernel
theorem dX0_canDo_151 : decode cX0_canDo 151 = .ok (.ifCond .eq 17, 3) := by decide +kernel
theorem dX0_canDo_154 : decode cX0_canDo 154 = .ok (.aload_n 0, 1) := by decide +kernel
theorem dX0_canDo_155 : decode cX0_canDo 155 = .ok (.iconst 2, 1) := by decide +kernel
theorem dX0_canDo_156 : decode cX0_canDo 156 = .ok (.iload_n 2, 1) := by decide +kernel
theorem dX0_canDo_157 : decode cX0_canDo 157 = .ok (.invokevirtual 47, 3) := by decide +kernel
theorem dX0_canDo_160 : decode cX0_canDo 160 = .ok (.iload_n 3, 1) := by decide +kernel
theorem dX0_canDo_161 : decode cX0_canDo 161 = .ok (.if_icmp .lt 7, 3) := by decide +kernel
theorem dX0_canDo_164 : decode cX0_canDo 164 = .ok (.iconst 1, 1) := by decide +kernel
theorem dX0_canDo_165 : decode cX0_canDo 165 = .ok (.goto 4, 3) := by decide +kernel
theorem dX0_canDo_168 : decode cX0_canDo 168 = .ok (.iconst 0, 1) := by decide +kernel
theorem dX0_canDo_169 : decode cX0_canDo 169 = .ok (.ireturn, 1) := by decide +kernel
theorem dX0_canDo_170 : decode cX0_canDo 170 = .ok (.iconst 0, 1) := by decide +kernel
theorem dX0_canDo_171 : decode cX0_canDo 171 = .ok (.ireturn, 1) := by decide +kernel
theorem dX1_init_0 : decode cX1_init 0 = .ok (.aload_n 0, 1) := by decide +kernel
theorem dX1_init_1 : decode cX1_init 1 = .ok (.invokespecial 3, 3) := by decide +kernel
theorem dX1_init_4 : decode cX1_init 4 = .ok (.aload_n 0, 1) := by decide +kernel
theorem dX1_init_5 : decode cX1_init 5 = .ok (.bipush 6, 2) := by decide +kernel
theorem dX1_init_7 : decode cX1_init 7 = .ok (.newarray .int, 2) := by decide +kernel
theorem dX1_init_9 : decode cX1_init 9 = .ok (.putfield 11, 3) := by decide +kernel
theorem dX1_init_12 : decode cX1_init 12 = .ok (.aload_n 0, 1) := by decide +kernel
theorem dX1_init_13 : decode cX1_init 13 = .ok (.bipush 6, 2) := by decide +kernel
theorem dX1_init_15 : decode cX1_init 15 = .ok (.newarray .int, 2) := by decide +kernel
theorem dX1_init_17 : decode cX1_init 17 = .ok (.putfield 15, 3) := by decide +kernel
theorem dX1_init_20 : decode cX1_init 20 = .ok (.aload_n 0, 1) := by decide +kernel
theorem dX1_init_21 : decode cX1_init 21 = .ok (.bipush 6, 2) := by decide +kernel
theorem dX1_init_23 : decode cX1_init 23 = .ok (.newarray .int, 2) := by decide +kernel
theorem dX1_init_25 : decode cX1_init 25 = .ok (.putfield 18, 3) := by decide +kernel
theorem dX1_init_28 : decode cX1_init 28 = .ok (.aload_n 0, 1) := by decide +kernel
theorem dX1_init_29 : decode cX1_init 29 = .ok (.bipush 6, 2) := by decide +kernel
theorem dX1_init_31 : decode cX1_init 31 = .ok (.newarray .int, 2) := by decide +kernel
theorem dX1_init_33 : decode cX1_init 33 = .ok (.putfield 21, 3) := by decide +kernel
theorem dX1_init_36 : decode cX1_init 36 = .ok (.aload_n 0, 1) := by decide +kernel
theorem dX1_init_37 : decode cX1_init 37 = .ok (.iconst 0, 1) := by decide +kernel
theorem dX1_init_38 : decode cX1_init 38 = .ok (.putfield 24, 3) := by decide +kernel
theorem dX1_init_41 : decode cX1_init 41 = .ok (.return_, 1) := by decide +kernel
theorem dX1_add_0 : decode cX1_add 0 = .ok (.aload_n 0, 1) := by decide +kernel
theorem dX1_add_1 : decode cX1_add 1 = .ok (.getfield 24, 3) := by decide +kernel
theorem dX1_add_4 : decode cX1_add 4 = .ok (.ifCond .lt 12, 3) := by decide +kernel
theorem dX1_add_7 : decode cX1_add 7 = .ok (.aload_n 0, 1) := by decide +kernel
theorem dX1_add_8 : decode cX1_add 8 = .ok (.getfield 24, 3) := by decide +kernel
theorem dX1_add_11 : decode cX1_add 11 = .ok (.bipush 6, 2) := by decide +kernel
theorem dX1_add_13 : decode cX1_add 13 = .ok (.if_icmp .lt 6, 3) := by decide +kernel
theorem dX1_add_16 : decode cX1_add 16 = .ok (.bipush (-4), 2) := by decide +kernel
theorem dX1_add_18 : decode cX1_add 18 = .ok (.ireturn, 1) := by decide +kernel
theorem dX1_add_19 : decode cX1_add 19 = .ok (.aload_n 0, 1) := by decide +kernel
theorem dX1_add_20 : decode cX1_add 20 = .ok (.getfield 11, 3) := by decide +kernel
theorem dX1_add_23 : decode cX1_add 23 = .ok (.aload_n 0, 1) := by decide +kernel
theorem dX1_add_24 : decode cX1_add 24 = .ok (.getfield 24, 3) := by decide +kernel
theorem dX1_add_27 : decode cX1_add 27 = .ok (.iload_n 1, 1) := by decide +kernel
theorem dX1_add_28 : decode cX1_add 28 = .ok (.iastore, 1) := by decide +kernel
theorem dX1_add_29 : decode cX1_add 29 = .ok (.aload_n 0, 1) := by decide +kernel
theorem dX1_add_30 : decode cX1_add 30 = .ok (.getfield 15, 3) := by decide +kernel
theorem dX1_add_33 : decode cX1_add 33 = .ok (.aload_n 0, 1) := by decide +kernel
theorem dX1_add_34 : decode cX1_add 34 = .ok (.getfield 24, 3) := by decide +kernel
theorem dX1_add_37 : decode cX1_add 37 = .ok (.iload_n 2, 1) := by decide +kernel
theorem dX1_add_38 : decode cX1_add 38 = .ok (.iastore, 1) := by decide +kernel
theorem dX1_add_39 : decode cX1_add 39 = .ok (.aload_n 0, 1) := by decide +kernel
theorem dX1_add_40 : decode cX1_add 40 = .ok (.getfield 18, 3) := by decide +kernel
theorem dX1_add_43 : decode cX1_add 43 = .ok (.aload_n 0, 1) := by decide +kernel
theorem dX1_add_44 : decode cX1_add 44 = .ok (.getfield 24, 3) := by decide +kernel
theorem dX1_add_47 : decode cX1_add 47 = .ok (.iload_n 3, 1) := by decide +kernel
theorem dX1_add_48 : decode cX1_add 48 = .ok (.iastore, 1) := by decide +kernel
theorem dX1_add_49 : decode cX1_add 49 = .ok (.aload_n 0, 1) := by decide +kernel
theorem dX1_add_50 : decode cX1_add 50 = .ok (.getfield 21, 3) := by decide +kernel
theorem dX1_add_53 : decode cX1_add 53 = .ok (.aload_n 0, 1) := by decide +kernel
theorem dX1_add_54 : decode cX1_add 54 = .ok (.getfield 24, 3) := by decide +kernel
theorem dX1_add_57 : decode cX1_add 57 = .ok (.iload 4, 2) := by decide +kernel
theorem dX1_add_59 : decode cX1_add 59 = .ok (.iastore, 1) := by decide +kernel
theorem dX1_add_60 : decode cX1_add 60 = .ok (.aload_n 0, 1) := by decide +kernel
theorem dX1_add_61 : decode cX1_add 61 = .ok (.dup, 1) := by decide +kernel
theorem dX1_add_62 : decode cX1_add 62 = .ok (.getfield 24, 3) := by decide +kernel
theorem dX1_add_65 : decode cX1_add 65 = .ok (.iconst 1, 1) := by decide +kernel
theorem dX1_add_66 : decode cX1_add 66 = .ok (.iadd, 1) := by decide +kernel
theorem dX1_add_67 : decode cX1_add 67 = .ok (.putfield 24, 3) := by decide +kernel
theorem dX1_add_70 : decode cX1_add 70 = .ok (.aload_n 0, 1) := by decide +kernel
theorem dX1_add_71 : decode cX1_add 71 = .ok (.getfield 24, 3) := by decide +kernel
theorem dX1_add_74 : decode cX1_add 74 = .ok (.ireturn, 1) := by decide +kernel
theorem dX1_clear_0 : decode cX1_clear 0 = .ok (.aload_n 0, 1) := by decide +kernel
theorem dX1_clear_1 : decode cX1_clear 1 = .ok (.getfield 24, 3) := by decide +kernel
theorem dX1_clear_4 : decode cX1_clear 4 = .ok (.istore_n 1, 1) := by decide +kernel
theorem dX1_clear_5 : decode cX1_clear 5 = .ok (.aload_n 0, 1) := by decide +kernel
theorem dX1_clear_6 : decode cX1_clear 6 = .ok (.iconst 0, 1) := by decide +kernel
theorem dX1_clear_7 : decode cX1_clear 7 = .ok (.putfield 24, 3) := by decide +kernel
theorem dX1_clear_10 : decode cX1_clear 10 = .ok (.iload_n 1, 1) := by decide +kernel
theorem dX1_clear_11 : decode cX1_clear 11 = .ok (.ireturn, 1) := by decide +kernel
set_option maxRecDepth 20000 in
theorem ggX1_fits_X0_isMan : GoodIn wsX1_fits wsX0_isMan := goodIn_r _ [10, 11, 40, 41, 42, 43, 44] (by decide +kernel) (by decide +kernel)
set_option maxRecDepth 20000 in
theorem gX1_fits_X0_isMan : GoodIn wsX1_fits (wsV RX1 28 RX0 yX0_isMan wsX0_isMan) := goodIn_app (goodIn_of _ (by decide +kernel)) ggX1_fits_X0_isMan
set_option maxRecDepth 20000 in
theorem ggX1_fits_X0_isBag : GoodIn wsX1_fits wsX0_isBag := goodIn_r _ [15, 16, 40, 41, 42, 43, 44] (by decide +kernel) (by decide +kernel)
set_option maxRecDepth 20000 in
theorem gX1_fits_X0_isBag : GoodIn wsX1_fits (wsV RX1 34 RX0 yX0_isBag wsX0_isBag) := goodIn_app (goodIn_of _ (by decide +kernel)) ggX1_fits_X0_isBag
set_option maxRecDepth 20000 in
theorem ggX1_fits_X0_playedBitsAs : GoodIn wsX1_fits wsX0_playedBitsAs := goodIn_r _ [20, 21, 22, 23, 9, 24, 25, 13, 14, 15, 16, 26, 27, 28, 29, 30, 31, 32, 33, 34, 40, 41, 42, 43, 44] (by decide +kernel) (by decide +kernel)
set_option maxRecDepth 20000 in
theorem gX1_fits_X0_playedBitsAs : GoodIn wsX1_fits (wsV RX1 37 RX0 yX0_playedBitsAs wsX0_playedBitsAs) := goodIn_app (goodIn_of _ (by decide +kernel)) ggX1_fits_X0_playedBitsAs
theorem dX1_fits_0 : decode cX1_fits 0 = .ok (.iload_n 2, 1) := by decide +kernel
theorem dX1_fits_1 : decode cX1_fits 1 = .ok (.iconst 2, 1) := by decide +kernel
theorem dX1_fits_2 : decode cX1_fits 2 = .ok (.if_icmp .ne 7, 3) := by decide +kernel
theorem dX1_fits_5 : decode cX1_fits 5 = .ok (.iload_n 3, 1) := by decide +kernel
theorem dX1_fits_6 : decode cX1_fits 6 = .ok (.goto 4, 3) := by decide +kernel
theorem dX1_fits_9 : decode cX1_fits 9 = .ok (.iconst 0, 1) := by decide +kernel
theorem dX1_fits_10 : decode cX1_fits 10 = .ok (.istore 4, 2) := by decide +kernel
theorem dX1_fits_12 : decode cX1_fits 12 = .ok (.iconst 0, 1) := by decide +kernel
theorem dX1_fits_13 : decode cX1_fits 13 = .ok (.istore 5, 2) := by decide +kernel
theorem dX1_fits_15 : decode cX1_fits 15 = .ok (.iload 5, 2) := by decide +kernel
theorem dX1_fits_17 : decode cX1_fits 17 = .ok (.aload_n 0, 1) := by decide +kernel
theorem dX1_fits_18 : decode cX1_fits 18 = .ok (.getfield 24, 3) := by decide +kernel
theorem dX1_fits_21 : decode cX1_fits 21 = .ok (.if_icmp .ge 94, 3) := by decide +kernel
theorem dX1_fits_24 : decode cX1_fits 24 = .ok (.iload 5, 2) := by decide +kernel
theorem dX1_fits_26 : decode cX1_fits 26 = .ok (.bipush 6, 2) := by decide +kernel
theorem dX1_fits_28 : decode cX1_fits 28 = .ok (.if_icmp .ge 87, 3) := by decide +kernel
theorem dX1_fits_31 : decode cX1_fits 31 = .ok (.aload_n 1, 1) := by decide +kernel
theorem dX1_fits_32 : decode cX1_fits 32 = .ok (.aload_n 0, 1) := by decide +kernel
theorem dX1_fits_33 : decode cX1_fits 33 = .ok (.getfield 11, 3) := by decide +kernel
theorem dX1_fits_36 : decode cX1_fits 36 = .ok (.iload 5, 2) := by decide +kernel
theorem dX1_fits_38 : decode cX1_fits 38 = .ok (.iaload, 1) := by decide +kernel
theorem dX1_fits_39 : decode cX1_fits 39 = .ok (.invokevirtual 28, 3) := by decide +kernel
theorem dX1_fits_42 : decode cX1_fits 42 = .ok (.ifCond .eq 67, 3) := by decide +kernel
theorem dX1_fits_45 : decode cX1_fits 45 = .ok (.aload_n 1, 1) := by decide +kernel
theorem dX1_fits_46 : decode cX1_fits 46 = .ok (.aload_n 0, 1) := by decide +kernel
theorem dX1_fits_47 : decode cX1_fits 47 = .ok (.getfield 15, 3) := by decide +kernel
theorem dX1_fits_50 : decode cX1_fits 50 = .ok (.iload 5, 2) := by decide +kernel
theorem dX1_fits_52 : decode cX1_fits 52 = .ok (.iaload, 1) := by decide +kernel
theorem dX1_fits_53 : decode cX1_fits 53 = .ok (.invokevirtual 34, 3) := by decide +kernel
theorem dX1_fits_56 : decode cX1_fits 56 = .ok (.ifCond .ne 6, 3) := by decide +kernel
theorem dX1_fits_59 : decode cX1_fits 59 = .ok (.goto 50, 3) := by decide +kernel
theorem dX1_fits_62 : decode cX1_fits 62 = .ok (.aload_n 1, 1) := by decide +kernel
theorem dX1_fits_63 : decode cX1_fits 63 = .ok (.aload_n 0, 1) := by decide +kernel
theorem dX1_fits_64 : decode cX1_fits 64 = .ok (.getfield 15, 3) := by decide +kernel
theorem dX1_fits_67 : decode cX1_fits 67 = .ok (.iload 5, 2) := by decide +kernel
theorem dX1_fits_69 : decode cX1_fits 69 = .ok (.iaload, 1) := by decide +kernel
theorem dX1_fits_70 : decode cX1_fits 70 = .ok (.aload_n 0, 1) := by decide +kernel
theorem dX1_fits_71 : decode cX1_fits 71 = .ok (.getfield 18, 3) := by decide +kernel
theorem dX1_fits_74 : decode cX1_fits 74 = .ok (.iload 5, 2) := by decide +kernel
theorem dX1_fits_76 : decode cX1_fits 76 = .ok (.iaload, 1) := by decide +kernel
theorem dX1_fits_77 : decode cX1_fits 77 = .ok (.iload_n 2, 1) := by decide +kernel
theorem dX1_fits_78 : decode cX1_fits 78 = .ok (.iload 4, 2) := by decide +kernel
theorem dX1_fits_80 : decode cX1_fits 80 = .ok (.invokevirtual 37, 3) := by decide +kernel
theorem dX1_fits_83 : decode cX1_fits 83 = .ok (.istore 6, 2) := by decide +kernel
theorem dX1_fits_85 : decode cX1_fits 85 = .ok (.iload 6, 2) := by decide +kernel
theorem dX1_fits_87 : decode cX1_fits 87 = .ok (.aload_n 0, 1) := by decide +kernel
theorem dX1_fits_88 : decode cX1_fits 88 = .ok (.getfield 11, 3) := by decide +kernel
theorem dX1_fits_91 : decode cX1_fits 91 = .ok (.iload 5, 2) := by decide +kernel
theorem dX1_fits_93 : decode cX1_fits 93 = .ok (.iaload, 1) := by decide +kernel
theorem dX1_fits_94 : decode cX1_fits 94 = .ok (.ishr, 1) := by decide +kernel
theorem dX1_fits_95 : decode cX1_fits 95 = .ok (.iconst 1, 1) := by decide +kernel
theorem dX1_fits_96 : decode cX1_fits 96 = .ok (.iand, 1) := by decide +kernel
theorem dX1_fits_97 : decode cX1_fits 97 = .ok (.aload_n 0, 1) := by decide +kernel
theorem dX1_fits_98 : decode cX1_fits 98 = .ok (.getfield 21, 3) := by decide +kernel
theorem dX1_fits_101 : decode cX1_fits 101 = .ok (.iload 5, 2) := by decide +kernel
theorem dX1_fits_103 : decode cX1_fits 103 = .ok (.iaload, 1) := by decide +kernel
theorem dX1_fits_104 : decode cX1_fits 104 = .ok (.if_icmp .eq 5, 3) := by decide +kernel
theorem dX1_fits_107 : decode cX1_fits 107 = .ok (.iconst 0, 1) := by decide +kernel
theorem dX1_fits_108 : decode cX1_fits 108 = .ok (.ireturn, 1) := by decide +kernel
theorem dX1_fits_109 : decode cX1_fits 109 = .ok (.iinc 5 1, 3) := by decide +kernel
theorem dX1_fits_112 : decode cX1_fits 112 = .ok (.goto (-97), 3) := by decide +kernel
theorem dX1_fits_115 : decode cX1_fits 115 = .ok (.iconst 1, 1) := by decide +kernel
theorem dX1_fits_116 : decode cX1_fits 116 = .ok (.ireturn, 1) := by decide +kernel
theorem dX2_init_0 : decode cX2_init 0 = .ok (.aload_n 0, 1) := by decide +kernel
theorem dX2_init_1 : decode cX2_init 1 = .ok (.invokespecial 1, 3) := by decide +kernel
theorem dX2_init_4 : decode cX2_init 4 = .ok (.aload_n 0, 1) := by decide +kernel
theorem dX2_init_5 : decode cX2_init 5 = .ok (.sipush 322, 3) := by decide +kernel
theorem dX2_init_8 : decode cX2_init 8 = .ok (.newarray .int, 2) := by decide +kernel
theorem dX2_init_10 : decode cX2_init 10 = .ok (.putfield 11, 3) := by decide +kernel
theorem dX2_init_13 : decode cX2_init 13 = .ok (.aload_n 0, 1) := by decide +kernel
theorem dX2_init_14 : decode cX2_init 14 = .ok (.iconst 0, 1) := by decide +kernel
theorem dX2_init_15 : decode cX2_init 15 = .ok (.putfield 15, 3) := by decide +kernel
theorem dX2_init_18 : decode cX2_init 18 = .ok (.aload_n 0, 1) := by decide +kernel
theorem dX2_init_19 : decode cX2_init 19 = .ok (.iconst 0, 1) := by decide +kernel
theorem dX2_init_20 : decode cX2_init 20 = .ok (.putfield 19, 3) := by decide +kernel
theorem dX2_init_23 : decode cX2_init 23 = .ok (.return_, 1) := by decide +kernel
theorem dX2_clear_0 : decode cX2_clear 0 = .ok (.aload_n 0, 1) := by decide +kernel
theorem dX2_clear_1 : decode cX2_clear 1 = .ok (.iconst 0, 1) := by decide +kernel
theorem dX2_clear_2 : decode cX2_clear 2 = .ok (.putfield 15, 3) := by decide +kernel
theorem dX2_clear_5 : decode cX2_clear 5 = .ok (.aload_n 0, 1) := by decide +kernel
theorem dX2_clear_6 : decode cX2_clear 6 = .ok (.iconst 0, 1) := by decide +kernel
theorem dX2_clear_7 : decode cX2_clear 7 = .ok (.putfield 19, 3) := by decide +kernel
theorem dX2_clear_10 : decode cX2_clear 10 = .ok (.return_, 1) := by decide +kernel
set_option maxRecDepth 20000 in
theorem ggX2_remember_X0_copyTo : GoodIn wsX2_remember wsX0_copyTo := goodIn_r _ [12, 13, 17, 18, 19, 20, 21] (by decide +kernel) (by decide +kernel)
set_option maxRecDepth 20000 in
theorem gX2_remember_X0_copyTo : GoodIn wsX2_remember (wsV RX2 22 RX0 yX0_copyTo wsX0_copyTo) := goodIn_app (goodIn_of _ (by decide +kernel)) ggX2_remember_X0_copyTo
theorem dX2_remember_0 : decode cX2_remember 0 = .ok (.aload_n 1, 1) := by decide +kernel
theorem dX2_remember_1 : decode cX2_remember 1 = .ok (.aload_n 0, 1) := by decide +kernel
theorem dX2_remember_2 : decode cX2_remember 2 = .ok (.getfield 11, 3) := by decide +kernel
theorem dX2_remember_5 : decode cX2_remember 5 = .ok (.aload_n 0, 1) := by decide +kernel
theorem dX2_remember_6 : decode cX2_remember 6 = .ok (.getfield 15, 3) := by decide +kernel
theorem dX2_remember_9 : decode cX2_remember 9 = .ok (.invokevirtual 22, 3) := by decide +kernel
theorem dX2_remember_12 : decode cX2_remember 12 = .ok (.aload_n 0, 1) := by decide +kernel
theorem dX2_remember_13 : decode cX2_remember 13 = .ok (.aload_n 0, 1) := by decide +kernel
theorem dX2_remember_14 : decode cX2_remember 14 = .ok (.getfield 15, 3) := by decide +kernel
theorem dX2_remember_17 : decode cX2_remember 17 = .ok (.iconst 1, 1) := by decide +kernel
theorem dX2_remember_18 : decode cX2_remember 18 = .ok (.iadd, 1) := by decide +kernel
theorem dX2_remember_19 : decode cX2_remember 19 = .ok (.bipush 14, 2) := by decide +kernel
