theorem dX0_init_0 : decode cX0_init 0 = .ok (.aload_n 0, 1) := by decide +kernel
theorem dX0_init_1 : decode cX0_init 1 = .ok (.invokespecial 3, 3) := by decide +kernel
theorem dX0_init_4 : decode cX0_init 4 = .ok (.return_, 1) := by decide +kernel
set_option maxRecDepth 20000 in
theorem ggX0_toneBehind_X7_leant : GoodIn wsX0_toneBehind wsX7_leant := goodIn_r _ [4, 5, 6, 7, 8, 9, 10, 11] (by decide +kernel) (by decide +kernel)
set_option maxRecDepth 20000 in
theorem gX0_toneBehind_X7_leant_n15 : GoodIn wsX0_toneBehind (wsX7_leant) := ggX0_toneBehind_X7_leant
theorem dX0_toneBehind_0 : decode cX0_toneBehind 0 = .ok (.iload_n 1, 1) := by decide +kernel
theorem dX0_toneBehind_1 : decode cX0_toneBehind 1 = .ok (.aload_n 0, 1) := by decide +kernel
theorem dX0_toneBehind_2 : decode cX0_toneBehind 2 = .ok (.getfield 9, 3) := by decide +kernel
theorem dX0_toneBehind_5 : decode cX0_toneBehind 5 = .ok (.invokestatic 15, 3) := by decide +kernel
theorem dX0_toneBehind_8 : decode cX0_toneBehind 8 = .ok (.ireturn, 1) := by decide +kernel
theorem dX0_marksBehind_0 : decode cX0_marksBehind 0 = .ok (.iload_n 1, 1) := by decide +kernel
theorem dX0_marksBehind_1 : decode cX0_marksBehind 1 = .ok (.aload_n 0, 1) := by decide +kernel
theorem dX0_marksBehind_2 : decode cX0_marksBehind 2 = .ok (.getfield 19, 3) := by decide +kernel
theorem dX0_marksBehind_5 : decode cX0_marksBehind 5 = .ok (.ior, 1) := by decide +kernel
theorem dX0_marksBehind_6 : decode cX0_marksBehind 6 = .ok (.aload_n 0, 1) := by decide +kernel
theorem dX0_marksBehind_7 : decode cX0_marksBehind 7 = .ok (.getfield 22, 3) := by decide +kernel
theorem dX0_marksBehind_10 : decode cX0_marksBehind 10 = .ok (.iconst (-1), 1) := by decide +kernel
theorem dX0_marksBehind_11 : decode cX0_marksBehind 11 = .ok (.ixor, 1) := by decide +kernel
theorem dX0_marksBehind_12 : decode cX0_marksBehind 12 = .ok (.iand, 1) := by decide +kernel
theorem dX0_marksBehind_13 : decode cX0_marksBehind 13 = .ok (.ireturn, 1) := by decide +kernel
set_option maxRecDepth 20000 in
theorem ggX0_waysTo_X0_toneBehind : GoodIn wsX0_waysTo wsX0_toneBehind := goodIn_r _ [6, 7, 8, 9, 10, 11, 12, 13, 14, 15, 16, 17, 24, 25, 26, 27] (by decide +kernel) (by decide +kernel)
set_option maxRecDepth 20000 in
theorem gX0_waysTo_X0_toneBehind : GoodIn wsX0_waysTo (wsV RX0 25 RX0 yX0_toneBehind wsX0_toneBehind) := goodIn_app (goodIn_of _ (by decide +kernel)) ggX0_waysTo_X0_toneBehind
set_option maxRecDepth 20000 in
theorem ggX0_waysTo_X0_marksBehind : GoodIn wsX0_waysTo wsX0_marksBehind := goodIn_r _ [21, 22, 23, 24, 25, 26, 27] (by decide +kernel) (by decide +kernel)
set_option maxRecDepth 20000 in
theorem gX0_waysTo_X0_marksBehind : GoodIn wsX0_waysTo (wsV RX0 29 RX0 yX0_marksBehind wsX0_marksBehind) := goodIn_app (goodIn_of _ (by decide +kernel)) ggX0_waysTo_X0_marksBehind
theorem dX0_waysTo_0 : decode cX0_waysTo 0 = .ok (.iconst 0, 1) := by decide +kernel
theorem dX0_waysTo_1 : decode cX0_waysTo 1 = .ok (.istore 5, 2) := by decide +kernel
theorem dX0_waysTo_3 : decode cX0_waysTo 3 = .ok (.aload_n 0, 1) := by decide +kernel
theorem dX0_waysTo_4 : decode cX0_waysTo 4 = .ok (.iload_n 1, 1) := by decide +kernel
theorem dX0_waysTo_5 : decode cX0_waysTo 5 = .ok (.invokevirtual 25, 3) := by decide +kernel
theorem dX0_waysTo_8 : decode cX0_waysTo 8 = .ok (.iload_n 3, 1) := by decide +kernel
theorem dX0_waysTo_9 : decode cX0_waysTo 9 = .ok (.if_icmp .ne 22, 3) := by decide +kernel
theorem dX0_waysTo_12 : decode cX0_waysTo 12 = .ok (.aload_n 0, 1) := by decide +kernel
theorem dX0_waysTo_13 : decode cX0_waysTo 13 = .ok (.iload_n 2, 1) := by decide +kernel
theorem dX0_waysTo_14 : decode cX0_waysTo 14 = .ok (.invokevirtual 29, 3) := by decide +kernel
theorem dX0_waysTo_17 : decode cX0_waysTo 17 = .ok (.iload 4, 2) := by decide +kernel
theorem dX0_waysTo_19 : decode cX0_waysTo 19 = .ok (.if_icmp .ne 12, 3) := by decide +kernel
theorem dX0_waysTo_22 : decode cX0_waysTo 22 = .ok (.iload 5, 2) := by decide +kernel
theorem dX0_waysTo_24 : decode cX0_waysTo 24 = .ok (.aload_n 0, 1) := by decide +kernel
theorem dX0_waysTo_25 : decode cX0_waysTo 25 = .ok (.getfield 32, 3) := by decide +kernel
theorem dX0_waysTo_28 : decode cX0_waysTo 28 = .ok (.iadd, 1) := by decide +kernel
theorem dX0_waysTo_29 : decode cX0_waysTo 29 = .ok (.istore 5, 2) := by decide +kernel
theorem dX0_waysTo_31 : decode cX0_waysTo 31 = .ok (.iload_n 1, 1) := by decide +kernel
theorem dX0_waysTo_32 : decode cX0_waysTo 32 = .ok (.iload_n 3, 1) := by decide +kernel
theorem dX0_waysTo_33 : decode cX0_waysTo 33 = .ok (.if_icmp .ne 21, 3) := by decide +kernel
theorem dX0_waysTo_36 : decode cX0_waysTo 36 = .ok (.iload_n 2, 1) := by decide +kernel
theorem dX0_waysTo_37 : decode cX0_waysTo 37 = .ok (.iload 4, 2) := by decide +kernel
theorem dX0_waysTo_39 : decode cX0_waysTo 39 = .ok (.if_icmp .ne 15, 3) := by decide +kernel
theorem dX0_waysTo_42 : decode cX0_waysTo 42 = .ok (.iload 5, 2) := by decide +kernel
theorem dX0_waysTo_44 : decode cX0_waysTo 44 = .ok (.bipush 10, 2) := by decide +kernel
theorem dX0_waysTo_46 : decode cX0_waysTo 46 = .ok (.aload_n 0, 1) := by decide +kernel
theorem dX0_waysTo_47 : decode cX0_waysTo 47 = .ok (.getfield 32, 3) := by decide +kernel
theorem dX0_waysTo_50 : decode cX0_waysTo 50 = .ok (.isub, 1) := by decide +kernel
theorem dX0_waysTo_51 : decode cX0_waysTo 51 = .ok (.iadd, 1) := by decide +kernel
theorem dX0_waysTo_52 : decode cX0_waysTo 52 = .ok (.istore 5, 2) := by decide +kernel
theorem dX0_waysTo_54 : decode cX0_waysTo 54 = .ok (.iload 5, 2) := by decide +kernel
theorem dX0_waysTo_56 : decode cX0_waysTo 56 = .ok (.ireturn, 1) := by decide +kernel
theorem dX1_init_0 : decode cX1_init 0 = .ok (.aload_n 0, 1) := by decide +kernel
theorem dX1_init_1 : decode cX1_init 1 = .ok (.invokespecial 3, 3) := by decide +kernel
theorem dX1_init_4 : decode cX1_init 4 = .ok (.aload_n 0, 1) := by decide +kernel
theorem dX1_init_5 : decode cX1_init 5 = .ok (.bipush 8, 2) := by decide +kernel
theorem dX1_init_7 : decode cX1_init 7 = .ok (.newarray .int, 2) := by decide +kernel
theorem dX1_init_9 : decode cX1_init 9 = .ok (.putfield 9, 3) := by decide +kernel
theorem dX1_init_12 : decode cX1_init 12 = .ok (.aload_n 0, 1) := by decide +kernel
theorem dX1_init_13 : decode cX1_init 13 = .ok (.iconst 0, 1) := by decide +kernel
theorem dX1_init_14 : decode cX1_init 14 = .ok (.putfield 15, 3) := by decide +kernel
theorem dX1_init_17 : decode cX1_init 17 = .ok (.return_, 1) := by decide +kernel
theorem dX1_isFull_0 : decode cX1_isFull 0 = .ok (.aload_n 0, 1) := by decide +kernel
theorem dX1_isFull_1 : decode cX1_isFull 1 = .ok (.getfield 15, 3) := by decide +kernel
theorem dX1_isFull_4 : decode cX1_isFull 4 = .ok (.bipush 8, 2) := by decide +kernel
theorem dX1_isFull_6 : decode cX1_isFull 6 = .ok (.if_icmp .lt 7, 3) := by decide +kernel
theorem dX1_isFull_9 : decode cX1_isFull 9 = .ok (.iconst 1, 1) := by decide +kernel
theorem dX1_isFull_10 : decode cX1_isFull 10 = .ok (.goto 4, 3) := by decide +kernel
theorem dX1_isFull_13 : decode cX1_isFull 13 = .ok (.iconst 0, 1) := by decide +kernel
theorem dX1_isFull_14 : decode cX1_isFull 14 = .ok (.ireturn, 1) := by decide +kernel
set_option maxRecDepth 20000 in
theorem ggX1_add_X1_isFull : GoodIn wsX1_add wsX1_isFull := goodIn_r _ [7, 2, 8, 9] (by decide +kernel) (by decide +kernel)
set_option maxRecDepth 20000 in
theorem gX1_add_X1_isFull : GoodIn wsX1_add (wsV RX1 19 RX1 yX1_isFull wsX1_isFull) := goodIn_app (goodIn_of _ (by decide +kernel)) ggX1_add_X1_isFull
theorem dX1_add_0 : decode cX1_add 0 = .ok (.aload_n 0, 1) := by decide +kernel
theorem dX1_add_1 : decode cX1_add 1 = .ok (.invokevirtual 19, 3) := by decide +kernel
theorem dX1_add_4 : decode cX1_add 4 = .ok (.ifCond .eq 4, 3) := by decide +kernel
theorem dX1_add_7 : decode cX1_add 7 = .ok (.return_, 1) := by decide +kernel
theorem dX1_add_8 : decode cX1_add 8 = .ok (.aload_n 0, 1) := by decide +kernel
theorem dX1_add_9 : decode cX1_add 9 = .ok (.getfield 9, 3) := by decide +kernel
theorem dX1_add_12 : decode cX1_add 12 = .ok (.aload_n 0, 1) := by decide +kernel
theorem dX1_add_13 : decode cX1_add 13 = .ok (.getfield 15, 3) := by decide +kernel
theorem dX1_add_16 : decode cX1_add 16 = .ok (.iload_n 1, 1) := by decide +kernel
theorem dX1_add_17 : decode cX1_add 17 = .ok (.iastore, 1) := by decide +kernel
theorem dX1_add_18 : decode cX1_add 18 = .ok (.aload_n 0, 1) := by decide +kernel
theorem dX1_add_19 : decode cX1_add 19 = .ok (.dup, 1) := by decide +kernel
theorem dX1_add_20 : decode cX1_add 20 = .ok (.getfield 15, 3) := by decide +kernel
theorem dX1_add_23 : decode cX1_add 23 = .ok (.iconst 1, 1) := by decide +kernel
theorem dX1_add_24 : decode cX1_add 24 = .ok (.iadd, 1) := by decide +kernel
theorem dX1_add_25 : decode cX1_add 25 = .ok (.putfield 15, 3) := by decide +kernel
theorem dX1_add_28 : decode cX1_add 28 = .ok (.return_, 1) := by decide +kernel
set_option maxRecDepth 20000 in
theorem ggX1_originOf_X1_canComeOf : GoodIn wsX1_originOf wsX1_canComeOf := goodIn_r _ [7, 2, 15, 16] (by decide +kernel) (by decide +kernel)
set_option maxRecDepth 20000 in
theorem gX1_originOf_X1_canComeOf : GoodIn wsX1_originOf (wsV RX1 23 RX1 yX1_canComeOf wsX1_canComeOf) := goodIn_app (goodIn_of _ (by decide +kernel)) ggX1_originOf_X1_canComeOf
set_option maxRecDepth 20000 in
theorem ggX1_originOf_J6_bitCount_0f7a4 : GoodIn wsX1_originOf wsJ6_bitCount_0f7a4 := goodIn_r _ [11, 12, 13, 14] (by decide +kernel) (by decide +kernel)
set_option maxRecDepth 20000 in
theorem gX1_originOf_J6_bitCount_0f7a4 : GoodIn wsX1_originOf (va_wsS RX1 27 yJ6_bitCount_0f7a4 wsJ6_bitCount_0f7a4) := goodIn_app (goodIn_of _ (by decide +kernel)) ggX1_originOf_J6_bitCount_0f7a4
theorem dX1_originOf_0 : decode cX1_originOf 0 = .ok (.bipush (-9), 2) := by decide +kernel
theorem dX1_originOf_2 : decode cX1_originOf 2 = .ok (.istore_n 2, 1) := by decide +kernel
theorem dX1_originOf_3 : decode cX1_originOf 3 = .ok (.iconst (-1), 1) := by decide +kernel
theorem dX1_originOf_4 : decode cX1_originOf 4 = .ok (.istore_n 3, 1) := by decide +kernel
theorem dX1_originOf_5 : decode cX1_originOf 5 = .ok (.iconst 0, 1) := by decide +kernel
theorem dX1_originOf_6 : decode cX1_originOf 6 = .ok (.istore 4, 2) := by decide +kernel
theorem dX1_originOf_8 : decode cX1_originOf 8 = .ok (.iload 4, 2) := by decide +kernel
theorem dX1_originOf_10 : decode cX1_originOf 10 = .ok (.aload_n 0, 1) := by decide +kernel
theorem dX1_originOf_11 : decode cX1_originOf 11 = .ok (.getfield 15, 3) := by decide +kernel
theorem dX1_originOf_14 : decode cX1_originOf 14 = .ok (.if_icmp .ge 47, 3) := by decide +kernel
theorem dX1_originOf_17 : decode cX1_originOf 17 = .ok (.aload_n 0, 1) := by decide +kernel
theorem dX1_originOf_18 : decode cX1_originOf 18 = .ok (.iload_n 1, 1) := by decide +kernel
theorem dX1_originOf_19 : decode cX1_originOf 19 = .ok (.iload 4, 2) := by decide +kernel
theorem dX1_originOf_21 : decode cX1_originOf 21 = .ok (.invokevirtual 23, 3) := by decide +kernel
theorem dX1_originOf_24 : decode cX1_originOf 24 = .ok (.ifCond .eq 31, 3) := by decide +kernel
theorem dX1_originOf_27 : decode cX1_originOf 27 = .ok (.aload_n 0, 1) := by decide +kernel
theorem dX1_originOf_28 : decode cX1_originOf 28 = .ok (.getfield 9, 3) := by decide +kernel
theorem dX1_originOf_31 : decode cX1_originOf 31 = .ok (.iload 4, 2) := by decide +kernel
theorem dX1_originOf_33 : decode cX1_originOf 33 = .ok (.iaload, 1) := by decide +kernel
theorem dX1_originOf_34 : decode cX1_originOf 34 = .ok (.invokestatic 27, 3) := by decide +kernel
theorem dX1_originOf_37 : decode cX1_originOf 37 = .ok (.iload_n 3, 1) := by decide +kernel
theorem dX1_originOf_38 : decode cX1_originOf 38 = .ok (.if_icmp .le 17, 3) := by decide +kernel
theorem dX1_originOf_41 : decode cX1_originOf 41 = .ok (.aload_n 0, 1) := by decide +kernel
theorem dX1_originOf_42 : decode cX1_originOf 42 = .ok (.getfield 9, 3) := by decide +kernel
theorem dX1_originOf_45 : decode cX1_originOf 45 = .ok (.iload 4, 2) := by decide +kernel
theorem dX1_originOf_47 : decode cX1_originOf 47 = .ok (.iaload, 1) := by decide +kernel
theorem dX1_originOf_48 : decode cX1_originOf 48 = .ok (.invokestatic 27, 3) := by decide +kernel
theorem dX1_originOf_51 : decode cX1_originOf 51 = .ok (.istore_n 3, 1) := by decide +kernel
theorem dX1_originOf_52 : decode cX1_originOf 52 = .ok (.iload 4, 2) := by decide +kernel
theorem dX1_originOf_54 : decode cX1_originOf 54 = .ok (.istore_n 2, 1) := by decide +kernel
theorem dX1_originOf_55 : decode cX1_originOf 55 = .ok (.iinc 4 1, 3) := by decide +kernel
theorem dX1_originOf_58 : decode cX1_originOf 58 = .ok (.goto (-50), 3) := by decide +kernel
theorem dX1_originOf_61 : decode cX1_originOf 61 = .ok (.iload_n 2, 1) := by decide +kernel
theorem dX1_originOf_62 : decode cX1_originOf 62 = .ok (.ireturn, 1) := by decide +kernel
set_option maxRecDepth 20000 in
theorem ggX1_depthOf_X1_originOf : GoodIn wsX1_depthOf wsX1_originOf := goodIn_r _ [5, 6, 7, 8, 9, 10, 4, 11, 12, 13, 14, 15, 16, 17, 18, 19, 20] (by decide +kernel) (by decide +kernel)
set_option maxRecDepth 20000 in
theorem gX1_depthOf_X1_originOf : GoodIn wsX1_depthOf (wsV RX1 33 RX1 yX1_originOf wsX1_originOf) := goodIn_app (goodIn_of _ (by decide +kernel)) ggX1_depthOf_X1_originOf
theorem dX1_depthOf_0 : decode cX1_depthOf 0 = .ok (.iconst 0, 1) := by decide +kernel
theorem dX1_depthOf_1 : decode cX1_depthOf 1 = .ok (.istore_n 2, 1) := by decide +kernel
theorem dX1_depthOf_2 : decode cX1_depthOf 2 = .ok (.aload_n 0, 1) := by decide +kernel
theorem dX1_depthOf_3 : decode cX1_depthOf 3 = .ok (.iload_n 1, 1) := by decide +kernel
theorem dX1_depthOf_4 : decode cX1_depthOf 4 = .ok (.invokevirtual 33, 3) := by decide +kernel
theorem dX1_depthOf_7 : decode cX1_depthOf 7 = .ok (.istore_n 3, 1) := by decide +kernel
theorem dX1_depthOf_8 : decode cX1_depthOf 8 = .ok (.iload_n 3, 1) := by decide +kernel
theorem dX1_depthOf_9 : decode cX1_depthOf 9 = .ok (.bipush (-9), 2) := by decide +kernel
theorem dX1_depthOf_11 : decode cX1_depthOf 11 = .ok (.if_icmp .eq 21, 3) := by decide +kernel
theorem dX1_depthOf_14 : decode cX1_depthOf 14 = .ok (.iload_n 2, 1) := by decide +kernel
theorem dX1_depthOf_15 : decode cX1_depthOf 15 = .ok (.bipush 8, 2) := by decide +kernel
theorem dX1_depthOf_17 : decode cX1_depthOf 17 = .ok (.if_icmp .ge 15, 3) := by decide +kernel
theorem dX1_depthOf_20 : decode cX1_depthOf 20 = .ok (.iinc 2 1, 3) := by decide +kernel
theorem dX1_depthOf_23 : decode cX1_depthOf 23 = .ok (.aload_n 0, 1) := by decide +kernel
theorem dX1_depthOf_24 : decode cX1_depthOf 24 = .ok (.iload_n 3, 1) := by decide +kernel
theorem dX1_depthOf_25 : decode cX1_depthOf 25 = .ok (.invokevirtual 33, 3) := by decide +kernel
theorem dX1_depthOf_28 : decode cX1_depthOf 28 = .ok (.istore_n 3, 1) := by decide +kernel
theorem dX1_depthOf_29 : decode cX1_depthOf 29 = .ok (.goto (-21), 3) := by decide +kernel
theorem dX1_depthOf_32 : decode cX1_depthOf 32 = .ok (.iload_n 2, 1) := by decide +kernel
theorem dX1_depthOf_33 : decode cX1_depthOf 33 = .ok (.ireturn, 1) := by decide +kernel
theorem dX1_canComeOf_0 : decode cX1_canComeOf 0 = .ok (.iload_n 2, 1) := by decide +kernel
theorem dX1_canComeOf_1 : decode cX1_canComeOf 1 = .ok (.iload_n 1, 1) := by decide +kernel
theorem dX1_canComeOf_2 : decode cX1_canComeOf 2 = .ok (.if_icmp .eq 21, 3) := by decide +kernel
theorem dX1_canComeOf_5 : decode cX1_canComeOf 5 = .ok (.aload_n 0, 1) := by decide +kernel
theorem dX1_canComeOf_6 : decode cX1_canComeOf 6 = .ok (.getfield 9, 3) := by decide +kernel
theorem dX1_canComeOf_9 : decode cX1_canComeOf 9 = .ok (.iload_n 2, 1) := by decide +kernel
theorem dX1_canComeOf_10 : decode cX1_canComeOf 10 = .ok (.iaload, 1) := by decide +kernel
theorem dX1_canComeOf_11 : decode cX1_canComeOf 11 = .ok (.aload_n 0, 1) := by decide +kernel
theorem dX1_canComeOf_12 : decode cX1_canComeOf 12 = .ok (.getfield 9, 3) := by decide +kernel
theorem dX1_canComeOf_15 : decode cX1_canComeOf 15 = .ok (.iload_n 1, 1) := by decide +kernel
theorem dX1_canComeOf_16 : decode cX1_canComeOf 16 = .ok (.iaload, 1) := by decide +kernel
theorem dX1_canComeOf_17 : decode cX1_canComeOf 17 = .ok (.iconst (-1), 1) := by decide +kernel
theorem dX1_canComeOf_18 : decode cX1_canComeOf 18 = .ok (.ixor, 1) := by decide +kernel
theorem dX1_canComeOf_19 : decode cX1_canComeOf 19 = .ok (.iand, 1) := by decide +kernel
theorem dX1_canComeOf_20 : decode cX1_canComeOf 20 = .ok (.ifCond .eq 5, 3) := by decide +kernel
theorem dX1_canComeOf_23 : decode cX1_canComeOf 23 = .ok (.iconst 0, 1) := by decide +kernel
theorem dX1_canComeOf_24 : decode cX1_canComeOf 24 = .ok (.ireturn, 1) := by decide +kernel
theorem dX1_canComeOf_25 : decode cX1_canComeOf 25 = .ok (.aload_n 0, 1) := by decide +kernel
theorem dX1_canComeOf_26 : decode cX1_canComeOf 26 = .ok (.getfield 9, 3) := by decide +kernel
theorem dX1_canComeOf_29 : decode cX1_canComeOf 29 = .ok (.iload_n 2, 1) := by decide +kernel
theorem dX1_canComeOf_30 : decode cX1_canComeOf 30 = .ok (.iaload, 1) := by decide +kernel
theorem dX1_canComeOf_31 : decode cX1_canComeOf 31 = .ok (.aload_n 0, 1) := by decide +kernel
theorem dX1_canComeOf_32 : decode cX1_canComeOf 32 = .ok (.getfield 9, 3) := by decide +kernel
theorem dX1_canComeOf_35 : decode cX1_canComeOf 35 = .ok (.iload_n 1, 1) := by decide +kernel
theorem dX1_canComeOf_36 : decode cX1_canComeOf 36 = .ok (.iaload, 1) := by decide +kernel
theorem dX1_canComeOf_37 : decode cX1_canComeOf 37 = .ok (.if_icmp .ne 8, 3) := by decide +kernel
theorem dX1_canComeOf_40 : decode cX1_canComeOf 40 = .ok (.iload_n 2, 1) := by decide +kernel
theorem dX1_canComeOf_41 : decode cX1_canComeOf 41 = .ok (.iload_n 1, 1) := by decide +kernel
theorem dX1_canComeOf_42 : decode cX1_canComeOf 42 = .ok (.if_icmp .ge 7, 3) := by decide +kernel
theorem dX1_canComeOf_45 : decode cX1_canComeOf 45 = .ok (.iconst 1, 1) := by decide +kernel
theorem dX1_canComeOf_46 : decode cX1_canComeOf 46 = .ok (.goto 4, 3) := by decide +kernel
theorem dX1_canComeOf_49 : decode cX1_canComeOf 49 = .ok (.iconst 0, 1) := by decide +kernel
theorem dX1_canComeOf_50 : decode cX1_canComeOf 50 = .ok (.ireturn, 1) := by decide +kernel
theorem dX2_init_0 : decode cX2_init 0 = .ok (.aload_n 0, 1) := by decide +kernel
theorem dX2_init_1 : decode cX2_init 1 = .ok (.invokespecial 3, 3) := by decide +kernel
theorem dX2_init_4 : decode cX2_init 4 = .ok (.aload_n 0, 1) := by decide +kernel
theorem dX2_init_5 : decode cX2_init 5 = .ok (.bipush 10, 2) := by decide +kernel
theorem dX2_init_7 : decode cX2_init 7 = .ok (.newarray .int, 2) := by decide +kernel
theorem dX2_init_9 : decode cX2_init 9 = .ok (.putfield 9, 3) := by decide +kernel
theorem dX2_init_12 : decode cX2_init 12 = .ok (.aload_n 0, 1) := by decide +kernel
theorem dX2_init_13 : decode cX2_init 13 = .ok (.bipush 10, 2) := by decide +kernel
theorem dX2_init_15 : decode cX2_init 15 = .ok (.newarray .int, 2) := by decide +kernel
theorem dX2_init_17 : decode cX2_init 17 = .ok (.putfield 15, 3) := by decide +kernel
theorem dX2_init_20 : decode cX2_init 20 = .ok (.aload_n 0, 1) := by decide +kernel
theorem dX2_init_21 : decode cX2_init 21 = .ok (.bipush 10, 2) := by decide +kernel
theorem dX2_init_23 : decode cX2_init 23 = .ok (.newarray .int, 2) := by decide +kernel
theorem dX2_init_25 : decode cX2_init 25 = .ok (.putfield 18, 3) := by decide +kernel
theorem dX2_init_28 : decode cX2_init 28 = .ok (.aload_n 0, 1) := by decide +kernel
theorem dX2_init_29 : decode cX2_init 29 = .ok (.iconst 0, 1) := by decide +kernel
theorem dX2_init_30 : decode cX2_init 30 = .ok (.putfield 21, 3) := by decide +kernel
theorem dX2_init_33 : decode cX2_init 33 = .ok (.aload_n 0, 1) := by decide +kernel
theorem dX2_init_34 : decode cX2_init 34 = .ok (.iconst 1, 1) := by decide +kernel
theorem dX2_init_35 : decode cX2_init 35 = .ok (.putfield 25, 3) := by decide +kernel
theorem dX2_init_38 : decode cX2_init 38 = .ok (.return_, 1) := by decide +kernel
set_option maxRecDepth 20000 in
theorem ggX2_begin_X2_add : GoodIn wsX2_begin wsX2_add := goodIn_r _ [6, 7, 1, 8, 9, 10, 11, 12, 5, 13, 14, 15, 16, 17, 18] (by decide +kernel) (by decide +kernel)
set_option maxRecDepth 20000 in
theorem gX2_begin_X2_add : GoodIn wsX2_begin (wsV RX2 28 RX2 yX2_add wsX2_add) := goodIn_app (goodIn_of _ (by decide +kernel)) ggX2_begin_X2_add
theorem dX2_begin_0 : decode cX2_begin 0 = .ok (.aload_n 0, 1) := by decide +kernel
theorem dX2_begin_1 : decode cX2_begin 1 = .ok (.iconst 0, 1) := by decide +kernel
theorem dX2_begin_2 : decode cX2_begin 2 = .ok (.putfield 21, 3) := by decide +kernel
theorem dX2_begin_5 : decode cX2_begin 5 = .ok (.aload_n 0, 1) := by decide +kernel
theorem dX2_begin_6 : decode cX2_begin 6 = .ok (.iload_n 1, 1) := by decide +kernel
theorem dX2_begin_7 : decode cX2_begin 7 = .ok (.iload_n 2, 1) := by decide +kernel
theorem dX2_begin_8 : decode cX2_begin 8 = .ok (.bipush (-9), 2) := by decide +kernel
theorem dX2_begin_10 : decode cX2_begin 10 = .ok (.invokevirtual 28, 3) := by decide +kernel
theorem dX2_begin_13 : decode cX2_begin 13 = .ok (.return_, 1) := by decide +kernel
set_option maxRecDepth 20000 in
theorem ggX2_add_X2_isFull : GoodIn wsX2_add wsX2_isFull := goodIn_r _ [9, 2, 10, 11, 12, 13, 14] (by decide +kernel) (by decide +kernel)
set_option maxRecDepth 20000 in
theorem gX2_add_X2_isFull : GoodIn wsX2_add (wsV RX2 32 RX2 yX2_isFull wsX2_isFull) := goodIn_app (goodIn_of _ (by decide +kernel)) ggX2_add_X2_isFull
theorem dX2_add_0 : decode cX2_add 0 = .ok (.aload_n 0, 1) := by decide +kernel
theorem dX2_add_1 : decode cX2_add 1 = .ok (.invokevirtual 32, 3) := by decide +kernel
theorem dX2_add_4 : decode cX2_add 4 = .ok (.ifCond .eq 4, 3) := by decide +kernel
theorem dX2_add_7 : decode cX2_add 7 = .ok (.return_, 1) := by decide +kernel
theorem dX2_add_8 : decode cX2_add 8 = .ok (.aload_n 0, 1) := by decide +kernel
theorem dX2_add_9 : decode cX2_add 9 = .ok (.getfield 9, 3) := by decide +kernel
theorem dX2_add_12 : decode cX2_add 12 = .ok (.aload_n 0, 1) := by decide +kernel
theorem dX2_add_13 : decode cX2_add 13 = .ok (.getfield 21, 3) := by decide +kernel
theorem dX2_add_16 : decode cX2_add 16 = .ok (.iload_n 1, 1) := by decide +kernel
theorem dX2_add_17 : decode cX2_add 17 = .ok (.iastore, 1) := by decide +kernel
theorem dX2_add_18 : decode cX2_add 18 = .ok (.aload_n 0, 1) := by decide +kernel
theorem dX2_add_19 : decode cX2_add 19 = .ok (.getfield 15, 3) := by decide +kernel
theorem dX2_add_22 : decode cX2_add 22 = .ok (.aload_n 0, 1) := by decide +kernel
theorem dX2_add_23 : decode cX2_add 23 = .ok (.getfield 21, 3) := by decide +kernel
theorem dX2_add_26 : decode cX2_add 26 = .ok (.iload_n 2, 1) := by decide +kernel
theorem dX2_add_27 : decode cX2_add 27 = .ok (.iastore, 1) := by decide +kernel
theorem dX2_add_28 : decode cX2_add 28 = .ok (.aload_n 0, 1) := by decide +kernel
theorem dX2_add_29 : decode cX2_add 29 = .ok (.getfield 18, 3) := by decide +kernel
theorem dX2_add_32 : decode cX2_add 32 = .ok (.aload_n 0, 1) := by decide +kernel
theorem dX2_add_33 : decode cX2_add 33 = .ok (.getfield 21, 3) := by decide +kernel
theorem dX2_add_36 : decode cX2_add 36 = .ok (.iload_n 3, 1) := by decide +kernel
theorem dX2_add_37 : decode cX2_add 37 = .ok (.iastore, 1) := by decide +kernel
theorem dX2_add_38 : decode cX2_add 38 = .ok (.aload_n 0, 1) := by decide +kernel
theorem dX2_add_39 : decode cX2_add 39 = .ok (.dup, 1) := by decide +kernel
theorem dX2_add_40 : decode cX2_add 40 = .ok (.getfield 21, 3) := by decide +kernel
theorem dX2_add_43 : decode cX2_add 43 = .ok (.iconst 1, 1) := by decide +kernel
theorem dX2_add_44 : decode cX2_add 44 = .ok (.iadd, 1) := by decide +kernel
theorem dX2_add_45 : decode cX2_add 45 = .ok (.putfield 21, 3) := by decide +kernel
theorem dX2_add_48 : decode cX2_add 48 = .ok (.return_, 1) := by decide +kernel
theorem dX2_isBlank_0 : decode cX2_isBlank 0 = .ok (.aload_n 0, 1) := by decide +kernel
theorem dX2_isBlank_1 : decode cX2_isBlank 1 = .ok (.getfield 21, 3) := by decide +kernel
theorem dX2_isBlank_4 : decode cX2_isBlank 4 = .ok (.ifCond .gt 7, 3) := by decide +kernel
theorem dX2_isBlank_7 : decode cX2_isBlank 7 = .ok (.iconst 1, 1) := by decide +kernel
theorem dX2_isBlank_8 : decode cX2_isBlank 8 = .ok (.goto 4, 3) := by decide +kernel
theorem dX2_isBlank_11 : decode cX2_isBlank 11 = .ok (.iconst 0, 1) := by decide +kernel
theorem dX2_isBlank_12 : decode cX2_isBlank 12 = .ok (.ireturn, 1) := by decide +kernel
theorem dX2_isFull_0 : decode cX2_isFull 0 = .ok (.aload_n 0, 1) := by decide +kernel
theorem dX2_isFull_1 : decode cX2_isFull 1 = .ok (.getfield 21, 3) := by decide +kernel
theorem dX2_isFull_4 : decode cX2_isFull 4 = .ok (.bipush 10, 2) := by decide +kernel
theorem dX2_isFull_6 : decode cX2_isFull 6 = .ok (.if_icmp .lt 7, 3) := by decide +kernel
theorem dX2_isFull_9 : decode cX2_isFull 9 = .ok (.iconst 1, 1) := by decide +kernel
theorem dX2_isFull_10 : decode cX2_isFull 10 = .ok (.goto 4, 3) := by decide +kernel
theorem dX2_isFull_13 : decode cX2_isFull 13 = .ok (.iconst 0, 1) := by decide +kernel
theorem dX2_isFull_14 : decode cX2_isFull 14 = .ok (.ireturn, 1) := by decide +kernel
set_option maxRecDepth 20000 in
theorem ggX2_lastTone_X2_isBlank : GoodIn wsX2_lastTone wsX2_isBlank := goodIn_r _ [7, 2, 8, 9, 10, 11, 12] (by decide +kernel) (by decide +kernel)
set_option maxRecDepth 20000 in
theorem gX2_lastTone_X2_isBlank : GoodIn wsX2_lastTone (wsV RX2 36 RX2 yX2_isBlank wsX2_isBlank) := goodIn_app (goodIn_of _ (by decide +kernel)) ggX2_lastTone_X2_isBlank
theorem dX2_lastTone_0 : decode cX2_lastTone 0 = .ok (.aload_n 0, 1) := by decide +kernel
theorem dX2_lastTone_1 : decode cX2_lastTone 1 = .ok (.invokevirtual 36, 3) := by decide +kernel
theorem dX2_lastTone_4 : decode cX2_lastTone 4 = .ok (.ifCond .eq 7, 3) := by decide +kernel
theorem dX2_lastTone_7 : decode cX2_lastTone 7 = .ok (.iconst 0, 1) := by decide +kernel
theorem dX2_lastTone_8 : decode cX2_lastTone 8 = .ok (.goto 14, 3) := by decide +kernel
theorem dX2_lastTone_11 : decode cX2_lastTone 11 = .ok (.aload_n 0, 1) := by decide +kernel
theorem dX2_lastTone_12 : decode cX2_lastTone 12 = .ok (.getfield 9, 3) := by decide +kernel
theorem dX2_lastTone_15 : decode cX2_lastTone 15 = .ok (.aload_n 0, 1) := by decide +kernel
theorem dX2_lastTone_16 : decode cX2_lastTone 16 = .ok (.getfield 21, 3) := by decide +kernel
theorem dX2_lastTone_19 : decode cX2_lastTone 19 = .ok (.iconst 1, 1) := by decide +kernel
theorem dX2_lastTone_20 : decode cX2_lastTone 20 = .ok (.isub, 1) := by decide +kernel
theorem dX2_lastTone_21 : decode cX2_lastTone 21 = .ok (.iaload, 1) := by decide +kernel
theorem dX2_lastTone_22 : decode cX2_lastTone 22 = .ok (.ireturn, 1) := by decide +kernel
set_option maxRecDepth 20000 in
theorem ggX2_lastMarks_X2_isBlank : GoodIn wsX2_lastMarks wsX2_isBlank := goodIn_r _ [7, 2, 8, 9, 10, 11, 12] (by decide +kernel) (by decide +kernel)
set_option maxRecDepth 20000 in
theorem gX2_lastMarks_X2_isBlank : GoodIn wsX2_lastMarks (wsV RX2 36 RX2 yX2_isBlank wsX2_isBlank) := goodIn_app (goodIn_of _ (by decide +kernel)) ggX2_lastMarks_X2_isBlank
theorem dX2_lastMarks_0 : decode cX2_lastMarks 0 = .ok (.aload_n 0, 1) := by decide +kernel
theorem dX2_lastMarks_1 : decode cX2_lastMarks 1 = .ok (.invokevirtual 36, 3) := by decide +kernel
theorem dX2_lastMarks_4 : decode cX2_lastMarks 4 = .ok (.ifCond .eq 7, 3) := by decide +kernel
theorem dX2_lastMarks_7 : decode cX2_lastMarks 7 = .ok (.iconst 0, 1) := by decide +kernel
theorem dX2_lastMarks_8 : decode cX2_lastMarks 8 = .ok (.goto 14, 3) := by decide +kernel
theorem dX2_lastMarks_11 : decode cX2_lastMarks 11 = .ok (.aload_n 0, 1) := by decide +kernel
theorem dX2_lastMarks_12 : decode cX2_lastMarks 12 = .ok (.getfield 15, 3) := by decide +kernel
theorem dX2_lastMarks_15 : decode cX2_lastMarks 15 = .ok (.aload_n 0, 1) := by decide +kernel
theorem dX2_lastMarks_16 : decode cX2_lastMarks 16 = .ok (.getfield 21, 3) := by decide +kernel
theorem dX2_lastMarks_19 : decode cX2_lastMarks 19 = .ok (.iconst 1, 1) := by decide +kernel
theorem dX2_lastMarks_20 : decode cX2_lastMarks 20 = .ok (.isub, 1) := by decide +kernel
theorem dX2_lastMarks_21 : decode cX2_lastMarks 21 = .ok (.iaload, 1) := by decide +kernel
theorem dX2_lastMarks_22 : decode cX2_lastMarks 22 = .ok (.ireturn, 1) := by decide +kernel
theorem dX2_draw_0 : decode cX2_draw 0 = .ok (.aload_n 0, 1) := by decide +kernel
theorem dX2_draw_1 : decode cX2_draw 1 = .ok (.aload_n 0, 1) := by decide +kernel
theorem dX2_draw_2 : decode cX2_draw 2 = .ok (.getfield 25, 3) := by decide +kernel
theorem dX2_draw_5 : decode cX2_draw 5 = .ok (.ldc 39, 2) := by decide +kernel
theorem dX2_draw_7 : decode cX2_draw 7 = .ok (.imul, 1) := by decide +kernel
theorem dX2_draw_8 : decode cX2_draw 8 = .ok (.sipush 12345, 3) := by decide +kernel
theorem dX2_draw_11 : decode cX2_draw 11 = .ok (.iadd, 1) := by decide +kernel
theorem dX2_draw_12 : decode cX2_draw 12 = .ok (.putfield 25, 3) := by decide +kernel
theorem dX2_draw_15 : decode cX2_draw 15 = .ok (.aload_n 0, 1) := by decide +kernel
theorem dX2_draw_16 : decode cX2_draw 16 = .ok (.getfield 25, 3) := by decide +kernel
theorem dX2_draw_19 : decode cX2_draw 19 = .ok (.bipush 16, 2) := by decide +kernel
theorem dX2_draw_21 : decode cX2_draw 21 = .ok (.iushr, 1) := by decide +kernel
theorem dX2_draw_22 : decode cX2_draw 22 = .ok (.bipush 10, 2) := by decide +kernel
theorem dX2_draw_24 : decode cX2_draw 24 = .ok (.irem, 1) := by decide +kernel
theorem dX2_draw_25 : decode cX2_draw 25 = .ok (.ireturn, 1) := by decide +kernel
theorem dX2_become_0 : decode cX2_become 0 = .ok (.aload_n 1, 1) := by decide +kernel
theorem dX2_become_1 : decode cX2_become 1 = .ok (.getfield 9, 3) := by decide +kernel
theorem dX2_become_4 : decode cX2_become 4 = .ok (.iconst 0, 1) := by decide +kernel
theorem dX2_become_5 : decode cX2_become 5 = .ok (.aload_n 0, 1) := by decide +kernel
theorem dX2_become_6 : decode cX2_become 6 = .ok (.getfield 9, 3) := by decide +kernel
theorem dX2_become_9 : decode cX2_become 9 = .ok (.iconst 0, 1) := by decide +kernel
theorem dX2_become_10 : decode cX2_become 10 = .ok (.bipush 10, 2) := by decide +kernel
theorem dX2_become_12 : decode cX2_become 12 = .ok (.invokestatic 40, 3) := by decide +kernel
theorem dX2_become_15 : decode cX2_become 15 = .ok (.aload_n 1, 1) := by decide +kernel
theorem dX2_become_16 : decode cX2_become 16 = .ok (.getfield 15, 3) := by decide +kernel
theorem dX2_become_19 : decode cX2_become 19 = .ok (.iconst 0, 1) := by decide +kernel
theorem dX2_become_20 : decode cX2_become 20 = .ok (.aload_n 0, 1) := by decide +kernel
theorem dX2_become_21 : decode cX2_become 21 = .ok (.getfield 15, 3) := by decide +kernel
theorem dX2_become_24 : decode cX2_become 24 = .ok (.iconst 0, 1) := by decide +kernel
theorem dX2_become_25 : decode cX2_become 25 = .ok (.bipush 10, 2) := by decide +kernel
theorem dX2_become_27 : decode cX2_become 27 = .ok (.invokestatic 40, 3) := by decide +kernel
theorem dX2_become_30 : decode cX2_become 30 = .ok (.aload_n 1, 1) := by decide +kernel
theorem dX2_become_31 : decode cX2_become 31 = .ok (.getfield 18, 3) := by decide +kernel
theorem dX2_become_34 : decode cX2_become 34 = .ok (.iconst 0, 1) := by decide +kernel
theorem dX2_become_35 : decode cX2_become 35 = .ok (.aload_n 0, 1) := by decide +kernel
theorem dX2_become_36 : decode cX2_become 36 = .ok (.getfield 18, 3) := by decide +kernel
theorem dX2_become_39 : decode cX2_become 39 = .ok (.iconst 0, 1) := by decide +kernel
theorem dX2_become_40 : decode cX2_become 40 = .ok (.bipush 10, 2) := by decide +kernel
theorem dX2_become_42 : decode cX2_become 42 = .ok (.invokestatic 40, 3) := by decide +kernel
theorem dX2_become_45 : decode cX2_become 45 = .ok (.aload_n 0, 1) := by decide +kernel
theorem dX2_become_46 : decode cX2_become 46 = .ok (.aload_n 1, 1) := by decide +kernel
theorem dX2_become_47 : decode cX2_become 47 = .ok (.getfield 21, 3) := by decide +kernel
theorem dX2_become_50 : decode cX2_become 50 = .ok (.putfield 21, 3) := by decide +kernel
theorem dX2_become_53 : decode cX2_become 53 = .ok (.aload_n 0, 1) := by decide +kernel
theorem dX2_become_54 : decode cX2_become 54 = .ok (.aload_n 1, 1) := by decide +kernel
theorem dX2_become_55 : decode cX2_become 55 = .ok (.getfield 25, 3) := by decide +kernel
theorem dX2_become_58 : decode cX2_become 58 = .ok (.putfield 25, 3) := by decide +kernel
theorem dX2_become_61 : decode cX2_become 61 = .ok (.return_, 1) := by decide +kernel
set_option maxRecDepth 20000 in
theorem ggX3_init_X0_init : GoodIn wsX3_init wsX0_init := goodIn_r _ [9, 10, 2, 3] (by decide +kernel) (by decide +kernel)
set_option maxRecDepth 20000 in
theorem gX3_init_X0_init_n17 : GoodIn wsX3_init (wsX0_init) := ggX3_init_X0_init
set_option maxRecDepth 20000 in
theorem ggX3_init_X3_begin : GoodIn wsX3_init wsX3_begin := goodIn_r _ [15, 16, 17, 18, 19, 20, 21, 22, 23, 24] (by decide +kernel) (by decide +kernel)
set_option maxRecDepth 20000 in
theorem gX3_init_X3_begin : GoodIn wsX3_init (wsV RX3 18 RX3 yX3_begin wsX3_begin) := goodIn_app (goodIn_of _ (by decide +kernel)) ggX3_init_X3_begin
theorem dX3_init_0 : decode cX3_init 0 = .ok (.aload_n 0, 1) := by decide +kernel
theorem dX3_init_1 : decode cX3_init 1 = .ok (.invokespecial 3, 3) := by decide +kernel
theorem dX3_init_4 : decode cX3_init 4 = .ok (.aload_n 0, 1) := by decide +kernel
theorem dX3_init_5 : decode cX3_init 5 = .ok (.bipush 6, 2) := by decide +kernel
theorem dX3_init_7 : decode cX3_init 7 = .ok (.anewarray 9, 3) := by decide +kernel
theorem dX3_init_10 : decode cX3_init 10 = .ok (.putfield 11, 3) := by decide +kernel
theorem dX3_init_13 : decode cX3_init 13 = .ok (.iconst 0, 1) := by decide +kernel
theorem dX3_init_14 : decode cX3_init 14 = .ok (.istore_n 1, 1) := by decide +kernel
theorem dX3_init_15 : decode cX3_init 15 = .ok (.iload_n 1, 1) := by decide +kernel
theorem dX3_init_16 : decode cX3_init 16 = .ok (.bipush 6, 2) := by decide +kernel
theorem dX3_init_18 : decode cX3_init 18 = .ok (.if_icmp .ge 22, 3) := by decide +kernel
theorem dX3_init_21 : decode cX3_init 21 = .ok (.aload_n 0, 1) := by decide +kernel
theorem dX3_init_22 : decode cX3_init 22 = .ok (.getfield 11, 3) := by decide +kernel
theorem dX3_init_25 : decode cX3_init 25 = .ok (.iload_n 1, 1) := by decide +kernel
theorem dX3_init_26 : decode cX3_init 26 = .ok (.new 9, 3) := by decide +kernel
theorem dX3_init_29 : decode cX3_init 29 = .ok (.dup, 1) := by decide +kernel
theorem dX3_init_30 : decode cX3_init 30 = .ok (.invokespecial 17, 3) := by decide +kernel
theorem dX3_init_33 : decode cX3_init 33 = .ok (.aastore, 1) := by decide +kernel
theorem dX3_init_34 : decode cX3_init 34 = .ok (.iinc 1 1, 3) := by decide +kernel
theorem dX3_init_37 : decode cX3_init 37 = .ok (.goto (-22), 3) := by decide +kernel
theorem dX3_init_40 : decode cX3_init 40 = .ok (.aload_n 0, 1) := by decide +kernel
theorem dX3_init_41 : decode cX3_init 41 = .ok (.invokevirtual 18, 3) := by decide +kernel
theorem dX3_init_44 : decode cX3_init 44 = .ok (.return_, 1) := by decide +kernel
theorem dX3_begin_0 : decode cX3_begin 0 = .ok (.aload_n 0, 1) := by decide +kernel
theorem dX3_begin_1 : decode cX3_begin 1 = .ok (.iconst 0, 1) := by decide +kernel
theorem dX3_begin_2 : decode cX3_begin 2 = .ok (.putfield 21, 3) := by decide +kernel
theorem dX3_begin_5 : decode cX3_begin 5 = .ok (.aload_n 0, 1) := by decide +kernel
theorem dX3_begin_6 : decode cX3_begin 6 = .ok (.iconst 0, 1) := by decide +kernel
theorem dX3_begin_7 : decode cX3_begin 7 = .ok (.putfield 25, 3) := by decide +kernel
theorem dX3_begin_10 : decode cX3_begin 10 = .ok (.aload_n 0, 1) := by decide +kernel
theorem dX3_begin_11 : decode cX3_begin 11 = .ok (.iconst 5, 1) := by decide +kernel
theorem dX3_begin_12 : decode cX3_begin 12 = .ok (.putfield 29, 3) := by decide +kernel
theorem dX3_begin_15 : decode cX3_begin 15 = .ok (.aload_n 0, 1) := by decide +kernel
theorem dX3_begin_16 : decode cX3_begin 16 = .ok (.iconst 0, 1) := by decide +kernel
theorem dX3_begin_17 : decode cX3_begin 17 = .ok (.putfield 32, 3) := by decide +kernel
theorem dX3_begin_20 : decode cX3_begin 20 = .ok (.return_, 1) := by decide +kernel
theorem dX3_find_0 : decode cX3_find 0 = .ok (.iload_n 1, 1) := by decide +kernel
theorem dX3_find_1 : decode cX3_find 1 = .ok (.ifCond .lt 20, 3) := by decide +kernel
theorem dX3_find_4 : decode cX3_find 4 = .ok (.iload_n 1, 1) := by decide +kernel
theorem dX3_find_5 : decode cX3_find 5 = .ok (.aload_n 0, 1) := by decide +kernel
theorem dX3_find_6 : decode cX3_find 6 = .ok (.getfield 21, 3) := by decide +kernel
theorem dX3_find_9 : decode cX3_find 9 = .ok (.if_icmp .ge 12, 3) := by decide +kernel
theorem dX3_find_12 : decode cX3_find 12 = .ok (.aload_n 0, 1) := by decide +kernel
theorem dX3_find_13 : decode cX3_find 13 = .ok (.getfield 11, 3) := by decide +kernel
theorem dX3_find_16 : decode cX3_find 16 = .ok (.iload_n 1, 1) := by decide +kernel
theorem dX3_find_17 : decode cX3_find 17 = .ok (.aaload, 1) := by decide +kernel
theorem dX3_find_18 : decode cX3_find 18 = .ok (.goto 4, 3) := by decide +kernel
theorem dX3_find_21 : decode cX3_find 21 = .ok (.aconst_null, 1) := by decide +kernel
theorem dX3_find_22 : decode cX3_find 22 = .ok (.areturn, 1) := by decide +kernel
theorem dX3_hasAll_0 : decode cX3_hasAll 0 = .ok (.iload_n 1, 1) := by decide +kernel
theorem dX3_hasAll_1 : decode cX3_hasAll 1 = .ok (.ifCond .lt 17, 3) := by decide +kernel
theorem dX3_hasAll_4 : decode cX3_hasAll 4 = .ok (.iload_n 1, 1) := by decide +kernel
theorem dX3_hasAll_5 : decode cX3_hasAll 5 = .ok (.iconst 1, 1) := by decide +kernel
theorem dX3_hasAll_6 : decode cX3_hasAll 6 = .ok (.aload_n 0, 1) := by decide +kernel
theorem dX3_hasAll_7 : decode cX3_hasAll 7 = .ok (.getfield 21, 3) := by decide +kernel
theorem dX3_hasAll_10 : decode cX3_hasAll 10 = .ok (.ishl, 1) := by decide +kernel
theorem dX3_hasAll_11 : decode cX3_hasAll 11 = .ok (.if_icmp .ge 7, 3) := by decide +kernel
theorem dX3_hasAll_14 : decode cX3_hasAll 14 = .ok (.iconst 1, 1) := by decide +kernel
theorem dX3_hasAll_15 : decode cX3_hasAll 15 = .ok (.goto 4, 3) := by decide +kernel
theorem dX3_hasAll_18 : decode cX3_hasAll 18 = .ok (.iconst 0, 1) := by decide +kernel
theorem dX3_hasAll_19 : decode cX3_hasAll 19 = .ok (.ireturn, 1) := by decide +kernel
theorem dX3_isFull_0 : decode cX3_isFull 0 = .ok (.aload_n 0, 1) := by decide +kernel
theorem dX3_isFull_1 : decode cX3_isFull 1 = .ok (.getfield 21, 3) := by decide +kernel
theorem dX3_isFull_4 : decode cX3_isFull 4 = .ok (.bipush 6, 2) := by decide +kernel
theorem dX3_isFull_6 : decode cX3_isFull 6 = .ok (.if_icmp .lt 7, 3) := by decide +kernel
theorem dX3_isFull_9 : decode cX3_isFull 9 = .ok (.iconst 1, 1) := by decide +kernel
theorem dX3_isFull_10 : decode cX3_isFull 10 = .ok (.goto 4, 3) := by decide +kernel
theorem dX3_isFull_13 : decode cX3_isFull 13 = .ok (.iconst 0, 1) := by decide +kernel
theorem dX3_isFull_14 : decode cX3_isFull 14 = .ok (.ireturn, 1) := by decide +kernel
set_option maxRecDepth 20000 in
theorem ggX3_add_X3_isFull : GoodIn wsX3_add wsX3_isFull := goodIn_r _ [7, 2, 8, 9, 10, 11, 12] (by decide +kernel) (by decide +kernel)
set_option maxRecDepth 20000 in
theorem gX3_add_X3_isFull : GoodIn wsX3_add (wsV RX3 35 RX3 yX3_isFull wsX3_isFull) := goodIn_app (goodIn_of _ (by decide +kernel)) ggX3_add_X3_isFull
theorem dX3_add_0 : decode cX3_add 0 = .ok (.aload_n 0, 1) := by decide +kernel
theorem dX3_add_1 : decode cX3_add 1 = .ok (.invokevirtual 35, 3) := by decide +kernel
theorem dX3_add_4 : decode cX3_add 4 = .ok (.ifCond .eq 4, 3) := by decide +kernel
theorem dX3_add_7 : decode cX3_add 7 = .ok (.return_, 1) := by decide +kernel
theorem dX3_add_8 : decode cX3_add 8 = .ok (.aload_n 0, 1) := by decide +kernel
theorem dX3_add_9 : decode cX3_add 9 = .ok (.getfield 11, 3) := by decide +kernel
theorem dX3_add_12 : decode cX3_add 12 = .ok (.aload_n 0, 1) := by decide +kernel
theorem dX3_add_13 : decode cX3_add 13 = .ok (.getfield 21, 3) := by decide +kernel
theorem dX3_add_16 : decode cX3_add 16 = .ok (.aaload, 1) := by decide +kernel
theorem dX3_add_17 : decode cX3_add 17 = .ok (.astore 5, 2) := by decide +kernel
theorem dX3_add_19 : decode cX3_add 19 = .ok (.aload 5, 2) := by decide +kernel
theorem dX3_add_21 : decode cX3_add 21 = .ok (.iload_n 1, 1) := by decide +kernel
theorem dX3_add_22 : decode cX3_add 22 = .ok (.putfield 39, 3) := by decide +kernel
theorem dX3_add_25 : decode cX3_add 25 = .ok (.aload 5, 2) := by decide +kernel
theorem dX3_add_27 : decode cX3_add 27 = .ok (.iload_n 2, 1) := by decide +kernel
theorem dX3_add_28 : decode cX3_add 28 = .ok (.putfield 42, 3) := by decide +kernel
theorem dX3_add_31 : decode cX3_add 31 = .ok (.aload 5, 2) := by decide +kernel
theorem dX3_add_33 : decode cX3_add 33 = .ok (.iload_n 3, 1) := by decide +kernel
theorem dX3_add_34 : decode cX3_add 34 = .ok (.putfield 45, 3) := by decide +kernel
theorem dX3_add_37 : decode cX3_add 37 = .ok (.aload 5, 2) := by decide +kernel
theorem dX3_add_39 : decode cX3_add 39 = .ok (.iload 4, 2) := by decide +kernel
theorem dX3_add_41 : decode cX3_add 41 = .ok (.putfield 48, 3) := by decide +kernel
theorem dX3_add_44 : decode cX3_add 44 = .ok (.aload_n 0, 1) := by decide +kernel
theorem dX3_add_45 : decode cX3_add 45 = .ok (.dup, 1) := by decide +kernel
theorem dX3_add_46 : decode cX3_add 46 = .ok (.getfield 21, 3) := by decide +kernel
theorem dX3_add_49 : decode cX3_add 49 = .ok (.iconst 1, 1) := by decide +kernel
theorem dX3_add_50 : decode cX3_add 50 = .ok (.iadd, 1) := by decide +kernel
theorem dX3_add_51 : decode cX3_add 51 = .ok (.putfield 21, 3) := by decide +kernel
theorem dX3_add_54 : decode cX3_add 54 = .ok (.return_, 1) := by decide +kernel
theorem dX4_init_0 : decode cX4_init 0 = .ok (.aload_n 0, 1) := by decide +kernel
theorem dX4_init_1 : decode cX4_init 1 = .ok (.invokespecial 3, 3) := by decide +kernel
theorem dX4_init_4 : decode cX4_init 4 = .ok (.aload_n 0, 1) := by decide +kernel
theorem dX4_init_5 : decode cX4_init 5 = .ok (.bipush 6, 2) := by decide +kernel
theorem dX4_init_7 : decode cX4_init 7 = .ok (.newarray .int, 2) := by decide +kernel
theorem dX4_init_9 : decode cX4_init 9 = .ok (.putfield 9, 3) := by decide +kernel
theorem dX4_init_12 : decode cX4_init 12 = .ok (.aload_n 0, 1) := by decide +kernel
theorem dX4_init_13 : decode cX4_init 13 = .ok (.bipush 6, 2) := by decide +kernel
theorem dX4_init_15 : decode cX4_init 15 = .ok (.newarray .int, 2) := by decide +kernel
theorem dX4_init_17 : decode cX4_init 17 = .ok (.putfield 15, 3) := by decide +kernel
theorem dX4_init_20 : decode cX4_init 20 = .ok (.aload_n 0, 1) := by decide +kernel
theorem dX4_init_21 : decode cX4_init 21 = .ok (.iconst 0, 1) := by decide +kernel
theorem dX4_init_22 : decode cX4_init 22 = .ok (.putfield 18, 3) := by decide +kernel
theorem dX4_init_25 : decode cX4_init 25 = .ok (.aload_n 0, 1) := by decide +kernel
theorem dX4_init_26 : decode cX4_init 26 = .ok (.iconst 0, 1) := by decide +kernel
theorem dX4_init_27 : decode cX4_init 27 = .ok (.putfield 22, 3) := by decide +kernel
theorem dX4_init_30 : decode cX4_init 30 = .ok (.return_, 1) := by decide +kernel
set_option maxRecDepth 20000 in
theorem ggX4_seek_X4_lineUp : GoodIn wsX4_seek wsX4_lineUp := goodIn_r _ [6, 7, 8, 57, 58, 59, 60] (by decide +kernel) (by decide +kernel)
set_option maxRecDepth 20000 in
theorem gX4_seek_X4_lineUp : GoodIn wsX4_seek (wsV RX4 25 RX4 yX4_lineUp wsX4_lineUp) := goodIn_app (goodIn_of _ (by decide +kernel)) ggX4_seek_X4_lineUp
set_option maxRecDepth 20000 in
theorem ggX4_seek_X4_stray : GoodIn wsX4_seek wsX4_stray := goodIn_r _ [12, 7, 8, 13, 14, 15, 16, 17, 18, 19, 20, 21, 22, 23, 24, 25, 26, 27, 28, 29, 30, 31, 32, 33, 34, 35, 36, 37, 38, 39, 57, 58, 59, 60, 61, 62, 63, 64, 65, 66, 67, 68, 69] (by decide +kernel) (by decide +kernel)
set_option maxRecDepth 20000 in
theorem gX4_seek_X4_stray : GoodIn wsX4_seek (wsV RX4 29 RX4 yX4_stray wsX4_stray) := goodIn_app (goodIn_of _ (by decide +kernel)) ggX4_seek_X4_stray
set_option maxRecDepth 20000 in
theorem ggX4_seek_X4_keepRow : GoodIn wsX4_seek wsX4_keepRow := goodIn_r _ [43, 8, 44, 7, 45, 46, 47, 48, 57, 58, 59, 60] (by decide +kernel) (by decide +kernel)
set_option maxRecDepth 20000 in
theorem gX4_seek_X4_keepRow : GoodIn wsX4_seek (wsV RX4 33 RX4 yX4_keepRow wsX4_keepRow) := goodIn_app (goodIn_of _ (by decide +kernel)) ggX4_seek_X4_keepRow
set_option maxRecDepth 20000 in
theorem ggX4_seek_X4_step : GoodIn wsX4_seek wsX4_step := goodIn_r _ [52, 7, 8, 53, 54, 55, 5, 56, 57, 58, 59, 60] (by decide +kernel) (by decide +kernel)
set_option maxRecDepth 20000 in
theorem gX4_seek_X4_step : GoodIn wsX4_seek (wsV RX4 36 RX4 yX4_step wsX4_step) := goodIn_app (goodIn_of _ (by decide +kernel)) ggX4_seek_X4_step
theorem dX4_seek_0 : decode cX4_seek 0 = .ok (.aload_n 0, 1) := by decide +kernel
theorem dX4_seek_1 : decode cX4_seek 1 = .ok (.iload_n 2, 1) := by decide +kernel
theorem dX4_seek_2 : decode cX4_seek 2 = .ok (.invokevirtual 25, 3) := by decide +kernel
theorem dX4_seek_5 : decode cX4_seek 5 = .ok (.aload_n 0, 1) := by decide +kernel
theorem dX4_seek_6 : decode cX4_seek 6 = .ok (.aload_n 0, 1) := by decide +kernel
theorem dX4_seek_7 : decode cX4_seek 7 = .ok (.aload_n 1, 1) := by decide +kernel
theorem dX4_seek_8 : decode cX4_seek 8 = .ok (.iload_n 3, 1) := by decide +kernel
theorem dX4_seek_9 : decode cX4_seek 9 = .ok (.iload 4, 2) := by decide +kernel
theorem dX4_seek_11 : decode cX4_seek 11 = .ok (.iload 5, 2) := by decide +kernel
theorem dX4_seek_13 : decode cX4_seek 13 = .ok (.invokevirtual 29, 3) := by decide +kernel
theorem dX4_seek_16 : decode cX4_seek 16 = .ok (.putfield 22, 3) := by decide +kernel
theorem dX4_seek_19 : decode cX4_seek 19 = .ok (.aload_n 0, 1) := by decide +kernel
theorem dX4_seek_20 : decode cX4_seek 20 = .ok (.invokevirtual 33, 3) := by decide +kernel
theorem dX4_seek_23 : decode cX4_seek 23 = .ok (.iconst 1, 1) := by decide +kernel
theorem dX4_seek_24 : decode cX4_seek 24 = .ok (.istore 6, 2) := by decide +kernel
theorem dX4_seek_26 : decode cX4_seek 26 = .ok (.iload 6, 2) := by decide +kernel
theorem dX4_seek_28 : decode cX4_seek 28 = .ok (.sipush 720, 3) := by decide +kernel
theorem dX4_seek_31 : decode cX4_seek 31 = .ok (.if_icmp .ge 54, 3) := by decide +kernel
theorem dX4_seek_34 : decode cX4_seek 34 = .ok (.aload_n 0, 1) := by decide +kernel
theorem dX4_seek_35 : decode cX4_seek 35 = .ok (.getfield 22, 3) := by decide +kernel
theorem dX4_seek_38 : decode cX4_seek 38 = .ok (.ifCond .le 47, 3) := by decide +kernel
theorem dX4_seek_41 : decode cX4_seek 41 = .ok (.aload_n 0, 1) := by decide +kernel
theorem dX4_seek_42 : decode cX4_seek 42 = .ok (.invokevirtual 36, 3) := by decide +kernel
theorem dX4_seek_45 : decode cX4_seek 45 = .ok (.ifCond .eq 40, 3) := by decide +kernel
theorem dX4_seek_48 : decode cX4_seek 48 = .ok (.aload_n 0, 1) := by decide +kernel
theorem dX4_seek_49 : decode cX4_seek 49 = .ok (.aload_n 1, 1) := by decide +kernel
theorem dX4_seek_50 : decode cX4_seek 50 = .ok (.iload_n 3, 1) := by decide +kernel
theorem dX4_seek_51 : decode cX4_seek 51 = .ok (.iload 4, 2) := by decide +kernel
theorem dX4_seek_53 : decode cX4_seek 53 = .ok (.iload 5, 2) := by decide +kernel
theorem dX4_seek_55 : decode cX4_seek 55 = .ok (.invokevirtual 29, 3) := by decide +kernel
theorem dX4_seek_58 : decode cX4_seek 58 = .ok (.istore 7, 2) := by decide +kernel
theorem dX4_seek_60 : decode cX4_seek 60 = .ok (.iload 7, 2) := by decide +kernel
theorem dX4_seek_62 : decode cX4_seek 62 = .ok (.aload_n 0, 1) := by decide +kernel
theorem dX4_seek_63 : decode cX4_seek 63 = .ok (.getfield 22, 3) := by decide +kernel
theorem dX4_seek_66 : decode cX4_seek 66 = .ok (.if_icmp .ge 13, 3) := by decide +kernel
theorem dX4_seek_69 : decode cX4_seek 69 = .ok (.aload_n 0, 1) := by decide +kernel
theorem dX4_seek_70 : decode cX4_seek 70 = .ok (.iload 7, 2) := by decide +kernel
theorem dX4_seek_72 : decode cX4_seek 72 = .ok (.putfield 22, 3) := by decide +kernel
theorem dX4_seek_75 : decode cX4_seek 75 = .ok (.aload_n 0, 1) := by decide +kernel
theorem dX4_seek_76 : decode cX4_seek 76 = .ok (.invokevirtual 33, 3) := by decide +kernel
theorem dX4_seek_79 : decode cX4_seek 79 = .ok (.iinc 6 1, 3) := by decide +kernel
theorem dX4_seek_82 : decode cX4_seek 82 = .ok (.goto (-56), 3) := by decide +kernel
theorem dX4_seek_85 : decode cX4_seek 85 = .ok (.return_, 1) := by decide +kernel
theorem dX4_answer_0 : decode cX4_answer 0 = .ok (.iload_n 1, 1) := by decide +kernel
theorem dX4_answer_1 : decode cX4_answer 1 = .ok (.ifCond .ge 8, 3) := by decide +kernel
theorem dX4_answer_4 : decode cX4_answer 4 = .ok (.aload_n 0, 1) := by decide +kernel
theorem dX4_answer_5 : decode cX4_answer 5 = .ok (.getfield 22, 3) := by decide +kernel
theorem dX4_answer_8 : decode cX4_answer 8 = .ok (.ireturn, 1) := by decide +kernel
theorem dX4_answer_9 : decode cX4_answer 9 = .ok (.iload_n 1, 1) := by decide +kernel
theorem dX4_answer_10 : decode cX4_answer 10 = .ok (.aload_n 0, 1) := by decide +kernel
theorem dX4_answer_11 : decode cX4_answer 11 = .ok (.getfield 18, 3) := by decide +kernel
theorem dX4_answer_14 : decode cX4_answer 14 = .ok (.if_icmp .ge 12, 3) := by decide +kernel
theorem dX4_answer_17 : decode cX4_answer 17 = .ok (.aload_n 0, 1) := by decide +kernel
theorem dX4_answer_18 : decode cX4_answer 18 = .ok (.getfield 15, 3) := by decide +kernel
theorem dX4_answer_21 : decode cX4_answer 21 = .ok (.iload_n 1, 1) := by decide +kernel
theorem dX4_answer_22 : decode cX4_answer 22 = .ok (.iaload, 1) := by decide +kernel
theorem dX4_answer_23 : decode cX4_answer 23 = .ok (.goto 5, 3) := by decide +kernel
theorem dX4_answer_26 : decode cX4_answer 26 = .ok (.bipush (-5), 2) := by decide +kernel
theorem dX4_answer_28 : decode cX4_answer 28 = .ok (.ireturn, 1) := by decide +kernel
theorem dX4_lineUp_0 : decode cX4_lineUp 0 = .ok (.aload_n 0, 1) := by decide +kernel
theorem dX4_lineUp_1 : decode cX4_lineUp 1 = .ok (.iconst 0, 1) := by decide +kernel
theorem dX4_lineUp_2 : decode cX4_lineUp 2 = .ok (.putfield 18, 3) := by decide +kernel
theorem dX4_lineUp_5 : decode cX4_lineUp 5 = .ok (.iconst 0, 1) := by decide +kernel
theorem dX4_lineUp_6 : decode cX4_lineUp 6 = .ok (.istore_n 2, 1) := by decide +kernel
theorem dX4_lineUp_7 : decode cX4_lineUp 7 = .ok (.iload_n 2, 1) := by decide +kernel
theorem dX4_lineUp_8 : decode cX4_lineUp 8 = .ok (.bipush 6, 2) := by decide +kernel
theorem dX4_lineUp_10 : decode cX4_lineUp 10 = .ok (.if_icmp .ge 37, 3) := by decide +kernel
theorem dX4_lineUp_13 : decode cX4_lineUp 13 = .ok (.iload_n 1, 1) := by decide +kernel
theorem dX4_lineUp_14 : decode cX4_lineUp 14 = .ok (.iload_n 2, 1) := by decide +kernel
theorem dX4_lineUp_15 : decode cX4_lineUp 15 = .ok (.ishr, 1) := by decide +kernel
theorem dX4_lineUp_16 : decode cX4_lineUp 16 = .ok (.iconst 1, 1) := by decide +kernel
theorem dX4_lineUp_17 : decode cX4_lineUp 17 = .ok (.iand, 1) := by decide +kernel
theorem dX4_lineUp_18 : decode cX4_lineUp 18 = .ok (.ifCond .eq 23, 3) := by decide +kernel
theorem dX4_lineUp_21 : decode cX4_lineUp 21 = .ok (.aload_n 0, 1) := by decide +kernel
theorem dX4_lineUp_22 : decode cX4_lineUp 22 = .ok (.getfield 9, 3) := by decide +kernel
theorem dX4_lineUp_25 : decode cX4_lineUp 25 = .ok (.aload_n 0, 1) := by decide +kernel
theorem dX4_lineUp_26 : decode cX4_lineUp 26 = .ok (.getfield 18, 3) := by decide +kernel
theorem dX4_lineUp_29 : decode cX4_lineUp 29 = .ok (.iload_n 2, 1) := by decide +kernel
theorem dX4_lineUp_30 : decode cX4_lineUp 30 = .ok (.iastore, 1) := by decide +kernel
theorem dX4_lineUp_31 : decode cX4_lineUp 31 = .ok (.aload_n 0, 1) := by decide +kernel
theorem dX4_lineUp_32 : decode cX4_lineUp 32 = .ok (.dup, 1) := by decide +kernel
theorem dX4_lineUp_33 : decode cX4_lineUp 33 = .ok (.getfield 18, 3) := by decide +kernel
theorem dX4_lineUp_36 : decode cX4_lineUp 36 = .ok (.iconst 1, 1) := by decide +kernel
theorem dX4_lineUp_37 : decode cX4_lineUp 37 = .ok (.iadd, 1) := by decide +kernel
theorem dX4_lineUp_38 : decode cX4_lineUp 38 = .ok (.putfield 18, 3) := by decide +kernel
theorem dX4_lineUp_41 : decode cX4_lineUp 41 = .ok (.iinc 2 1, 3) := by decide +kernel
theorem dX4_lineUp_44 : decode cX4_lineUp 44 = .ok (.goto (-37), 3) := by decide +kernel
theorem dX4_lineUp_47 : decode cX4_lineUp 47 = .ok (.return_, 1) := by decide +kernel
theorem dX4_keepRow_0 : decode cX4_keepRow 0 = .ok (.aload_n 0, 1) := by decide +kernel
theorem dX4_keepRow_1 : decode cX4_keepRow 1 = .ok (.getfield 9, 3) := by decide +kernel
theorem dX4_keepRow_4 : decode cX4_keepRow 4 = .ok (.iconst 0, 1) := by decide +kernel
theorem dX4_keepRow_5 : decode cX4_keepRow 5 = .ok (.aload_n 0, 1) := by decide +kernel
theorem dX4_keepRow_6 : decode cX4_keepRow 6 = .ok (.getfield 15, 3) := by decide +kernel
theorem dX4_keepRow_9 : decode cX4_keepRow 9 = .ok (.iconst 0, 1) := by decide +kernel
theorem dX4_keepRow_10 : decode cX4_keepRow 10 = .ok (.aload_n 0, 1) := by decide +kernel
theorem dX4_keepRow_11 : decode cX4_keepRow 11 = .ok (.getfield 18, 3) := by decide +kernel
theorem dX4_keepRow_14 : decode cX4_keepRow 14 = .ok (.invokestatic 40, 3) := by decide +kernel
theorem dX4_keepRow_17 : decode cX4_keepRow 17 = .ok (.return_, 1) := by decide +kernel
set_option maxRecDepth 20000 in
theorem ggX4_stray_X3_find : GoodIn wsX4_stray wsX3_find := goodIn_r _ [14, 15, 16, 34, 35, 36, 37, 38] (by decide +kernel) (by decide +kernel)
set_option maxRecDepth 20000 in
theorem gX4_stray_X3_find : GoodIn wsX4_stray (wsV RX4 46 RX3 yX3_find wsX3_find) := goodIn_app (goodIn_of _ (by decide +kernel)) ggX4_stray_X3_find
set_option maxRecDepth 20000 in
theorem ggX4_stray_X0_toneBehind : GoodIn wsX4_stray wsX0_toneBehind := goodIn_r _ [21, 22, 23, 24, 25, 26, 27, 5, 28, 29, 8, 9, 39, 40, 41, 42] (by decide +kernel) (by decide +kernel)
set_option maxRecDepth 20000 in
theorem gX4_stray_X0_toneBehind : GoodIn wsX4_stray (wsV RX4 52 RX0 yX0_toneBehind wsX0_toneBehind) := goodIn_app (goodIn_of _ (by decide +kernel)) ggX4_stray_X0_toneBehind
theorem dX4_stray_0 : decode cX4_stray 0 = .ok (.iload_n 2, 1) := by decide +kernel
theorem dX4_stray_1 : decode cX4_stray 1 = .ok (.istore 5, 2) := by decide +kernel
theorem dX4_stray_3 : decode cX4_stray 3 = .ok (.iconst 0, 1) := by decide +kernel
theorem dX4_stray_4 : decode cX4_stray 4 = .ok (.istore 6, 2) := by decide +kernel
theorem dX4_stray_6 : decode cX4_stray 6 = .ok (.iconst 0, 1) := by decide +kernel
theorem dX4_stray_7 : decode cX4_stray 7 = .ok (.istore 7, 2) := by decide +kernel
theorem dX4_stray_9 : decode cX4_stray 9 = .ok (.iload 7, 2) := by decide +kernel
theorem dX4_stray_11 : decode cX4_stray 11 = .ok (.aload_n 0, 1) := by decide +kernel
theorem dX4_stray_12 : decode cX4_stray 12 = .ok (.getfield 18, 3) := by decide +kernel
theorem dX4_stray_15 : decode cX4_stray 15 = .ok (.if_icmp .ge 50, 3) := by decide +kernel
theorem dX4_stray_18 : decode cX4_stray 18 = .ok (.aload_n 1, 1) := by decide +kernel
theorem dX4_stray_19 : decode cX4_stray 19 = .ok (.aload_n 0, 1) := by decide +kernel
theorem dX4_stray_20 : decode cX4_stray 20 = .ok (.getfield 9, 3) := by decide +kernel
theorem dX4_stray_23 : decode cX4_stray 23 = .ok (.iload 7, 2) := by decide +kernel
theorem dX4_stray_25 : decode cX4_stray 25 = .ok (.iaload, 1) := by decide +kernel
theorem dX4_stray_26 : decode cX4_stray 26 = .ok (.invokevirtual 46, 3) := by decide +kernel
theorem dX4_stray_29 : decode cX4_stray 29 = .ok (.astore 8, 2) := by decide +kernel
theorem dX4_stray_31 : decode cX4_stray 31 = .ok (.aload 8, 2) := by decide +kernel
theorem dX4_stray_33 : decode cX4_stray 33 = .ok (.ifnull 12, 3) := by decide +kernel
theorem dX4_stray_36 : decode cX4_stray 36 = .ok (.aload 8, 2) := by decide +kernel
theorem dX4_stray_38 : decode cX4_stray 38 = .ok (.iload 5, 2) := by decide +kernel
theorem dX4_stray_40 : decode cX4_stray 40 = .ok (.invokevirtual 52, 3) := by decide +kernel
theorem dX4_stray_43 : decode cX4_stray 43 = .ok (.istore 5, 2) := by decide +kernel
theorem dX4_stray_45 : decode cX4_stray 45 = .ok (.iload 6, 2) := by decide +kernel
theorem dX4_stray_47 : decode cX4_stray 47 = .ok (.iload 5, 2) := by decide +kernel
theorem dX4_stray_49 : decode cX4_stray 49 = .ok (.iload_n 3, 1) := by decide +kernel
theorem dX4_stray_50 : decode cX4_stray 50 = .ok (.isub, 1) := by decide +kernel
theorem dX4_stray_51 : decode cX4_stray 51 = .ok (.invokestatic 58, 3) := by decide +kernel
theorem dX4_stray_54 : decode cX4_stray 54 = .ok (.invokestatic 63, 3) := by decide +kernel
theorem dX4_stray_57 : decode cX4_stray 57 = .ok (.istore 6, 2) := by decide +kernel
theorem dX4_stray_59 : decode cX4_stray 59 = .ok (.iinc 7 1, 3) := by decide +kernel
theorem dX4_stray_62 : decode cX4_stray 62 = .ok (.goto (-53), 3) := by decide +kernel
theorem dX4_stray_65 : decode cX4_stray 65 = .ok (.iload 4, 2) := by decide +kernel
theorem dX4_stray_67 : decode cX4_stray 67 = .ok (.ifCond .eq 8, 3) := by decide +kernel
theorem dX4_stray_70 : decode cX4_stray 70 = .ok (.iload 6, 2) := by decide +kernel
theorem dX4_stray_72 : decode cX4_stray 72 = .ok (.goto 10, 3) := by decide +kernel
theorem dX4_stray_75 : decode cX4_stray 75 = .ok (.iload 5, 2) := by decide +kernel
theorem dX4_stray_77 : decode cX4_stray 77 = .ok (.iload_n 3, 1) := by decide +kernel
theorem dX4_stray_78 : decode cX4_stray 78 = .ok (.isub, 1) := by decide +kernel
theorem dX4_stray_79 : decode cX4_stray 79 = .ok (.invokestatic 58, 3) := by decide +kernel
theorem dX4_stray_82 : decode cX4_stray 82 = .ok (.ireturn, 1) := by decide +kernel
set_option maxRecDepth 20000 in
theorem ggX4_step_X4_swap : GoodIn wsX4_step wsX4_swap := goodIn_r _ [7, 2, 8, 9, 10, 11] (by decide +kernel) (by decide +kernel)
set_option maxRecDepth 20000 in
theorem gX4_step_X4_swap : GoodIn wsX4_step (wsV RX4 67 RX4 yX4_swap wsX4_swap) := goodIn_app (goodIn_of _ (by decide +kernel)) ggX4_step_X4_swap
theorem dX4_step_0 : decode cX4_step 0 = .ok (.aload_n 0, 1) := by decide +kernel
theorem dX4_step_1 : decode cX4_step 1 = .ok (.getfield 18, 3) := by decide +kernel
theorem dX4_step_4 : decode cX4_step 4 = .ok (.iconst 2, 1) := by decide +kernel
theorem dX4_step_5 : decode cX4_step 5 = .ok (.isub, 1) := by decide +kernel
theorem dX4_step_6 : decode cX4_step 6 = .ok (.istore_n 1, 1) := by decide +kernel
theorem dX4_step_7 : decode cX4_step 7 = .ok (.iload_n 1, 1) := by decide +kernel
theorem dX4_step_8 : decode cX4_step 8 = .ok (.ifCond .lt 26, 3) := by decide +kernel
theorem dX4_step_11 : decode cX4_step 11 = .ok (.aload_n 0, 1) := by decide +kernel
theorem dX4_step_12 : decode cX4_step 12 = .ok (.getfield 9, 3) := by decide +kernel
theorem dX4_step_15 : decode cX4_step 15 = .ok (.iload_n 1, 1) := by decide +kernel
theorem dX4_step_16 : decode cX4_step 16 = .ok (.iaload, 1) := by decide +kernel
theorem dX4_step_17 : decode cX4_step 17 = .ok (.aload_n 0, 1) := by decide +kernel
theorem dX4_step_18 : decode cX4_step 18 = .ok (.getfield 9, 3) := by decide +kernel
theorem dX4_step_21 : decode cX4_step 21 = .ok (.iload_n 1, 1) := by decide +kernel
theorem dX4_step_22 : decode cX4_step 22 = .ok (.iconst 1, 1) := by decide +kernel
theorem dX4_step_23 : decode cX4_step 23 = .ok (.iadd, 1) := by decide +kernel
theorem dX4_step_24 : decode cX4_step 24 = .ok (.iaload, 1) := by decide +kernel
theorem dX4_step_25 : decode cX4_step 25 = .ok (.if_icmp .le 9, 3) := by decide +kernel
theorem dX4_step_28 : decode cX4_step 28 = .ok (.iinc 1 (-1), 3) := by decide +kernel
theorem dX4_step_31 : decode cX4_step 31 = .ok (.goto (-24), 3) := by decide +kernel
theorem dX4_step_34 : decode cX4_step 34 = .ok (.iload_n 1, 1) := by decide +kernel
theorem dX4_step_35 : decode cX4_step 35 = .ok (.ifCond .ge 5, 3) := by decide +kernel
theorem dX4_step_38 : decode cX4_step 38 = .ok (.iconst 0, 1) := by decide +kernel
theorem dX4_step_39 : decode cX4_step 39 = .ok (.ireturn, 1) := by decide +kernel
theorem dX4_step_40 : decode cX4_step 40 = .ok (.aload_n 0, 1) := by decide +kernel
theorem dX4_step_41 : decode cX4_step 41 = .ok (.getfield 18, 3) := by decide +kernel
theorem dX4_step_44 : decode cX4_step 44 = .ok (.iconst 1, 1) := by decide +kernel
theorem dX4_step_45 : decode cX4_step 45 = .ok (.isub, 1) := by decide +kernel
theorem dX4_step_46 : decode cX4_step 46 = .ok (.istore_n 2, 1) := by decide +kernel
theorem dX4_step_47 : decode cX4_step 47 = .ok (.iload_n 2, 1) := by decide +kernel
theorem dX4_step_48 : decode cX4_step 48 = .ok (.iload_n 1, 1) := by decide +kernel
theorem dX4_step_49 : decode cX4_step 49 = .ok (.if_icmp .le 24, 3) := by decide +kernel
theorem dX4_step_52 : decode cX4_step 52 = .ok (.aload_n 0, 1) := by decide +kernel
theorem dX4_step_53 : decode cX4_step 53 = .ok (.getfield 9, 3) := by decide +kernel
theorem dX4_step_56 : decode cX4_step 56 = .ok (.iload_n 2, 1) := by decide +kernel
theorem dX4_step_57 : decode cX4_step 57 = .ok (.iaload, 1) := by decide +kernel
theorem dX4_step_58 : decode cX4_step 58 = .ok (.aload_n 0, 1) := by decide +kernel
theorem dX4_step_59 : decode cX4_step 59 = .ok (.getfield 9, 3) := by decide +kernel
theorem dX4_step_62 : decode cX4_step 62 = .ok (.iload_n 1, 1) := by decide +kernel
theorem dX4_step_63 : decode cX4_step 63 = .ok (.iaload, 1) := by decide +kernel
theorem dX4_step_64 : decode cX4_step 64 = .ok (.if_icmp .ge 9, 3) := by decide +kernel
theorem dX4_step_67 : decode cX4_step 67 = .ok (.iinc 2 (-1), 3) := by decide +kernel
theorem dX4_step_70 : decode cX4_step 70 = .ok (.goto (-23), 3) := by decide +kernel
theorem dX4_step_73 : decode cX4_step 73 = .ok (.aload_n 0, 1) := by decide +kernel
theorem dX4_step_74 : decode cX4_step 74 = .ok (.iload_n 1, 1) := by decide +kernel
theorem dX4_step_75 : decode cX4_step 75 = .ok (.iload_n 2, 1) := by decide +kernel
theorem dX4_step_76 : decode cX4_step 76 = .ok (.invokevirtual 67, 3) := by decide +kernel
theorem dX4_step_79 : decode cX4_step 79 = .ok (.iload_n 1, 1) := by decide +kernel
theorem dX4_step_80 : decode cX4_step 80 = .ok (.iconst 1, 1) := by decide +kernel
theorem dX4_step_81 : decode cX4_step 81 = .ok (.iadd, 1) := by decide +kernel
theorem dX4_step_82 : decode cX4_step 82 = .ok (.istore_n 3, 1) := by decide +kernel
theorem dX4_step_83 : decode cX4_step 83 = .ok (.aload_n 0, 1) := by decide +kernel
theorem dX4_step_84 : decode cX4_step 84 = .ok (.getfield 18, 3) := by decide +kernel
theorem dX4_step_87 : decode cX4_step 87 = .ok (.iconst 1, 1) := by decide +kernel
theorem dX4_step_88 : decode cX4_step 88 = .ok (.isub, 1) := by decide +kernel
theorem dX4_step_89 : decode cX4_step 89 = .ok (.istore 4, 2) := by decide +kernel
theorem dX4_step_91 : decode cX4_step 91 = .ok (.iload_n 3, 1) := by decide +kernel
theorem dX4_step_92 : decode cX4_step 92 = .ok (.iload 4, 2) := by decide +kernel
theorem dX4_step_94 : decode cX4_step 94 = .ok (.if_icmp .ge 19, 3) := by decide +kernel
theorem dX4_step_97 : decode cX4_step 97 = .ok (.aload_n 0, 1) := by decide +kernel
theorem dX4_step_98 : decode cX4_step 98 = .ok (.iload_n 3, 1) := by decide +kernel
theorem dX4_step_99 : decode cX4_step 99 = .ok (.iload 4, 2) := by decide +kernel
theorem dX4_step_101 : decode cX4_step 101 = .ok (.invokevirtual 67, 3) := by decide +kernel
theorem dX4_step_104 : decode cX4_step 104 = .ok (.iinc 3 1, 3) := by decide +kernel
theorem dX4_step_107 : decode cX4_step 107 = .ok (.iinc 4 (-1), 3) := by decide +kernel
theorem dX4_step_110 : decode cX4_step 110 = .ok (.goto (-19), 3) := by decide +kernel
theorem dX4_step_113 : decode cX4_step 113 = .ok (.iconst 1, 1) := by decide +kernel
theorem dX4_step_114 : decode cX4_step 114 = .ok (.ireturn, 1) := by decide +kernel
theorem dX4_swap_0 : decode cX4_swap 0 = .ok (.aload_n 0, 1) := by decide +kernel
theorem dX4_swap_1 : decode cX4_swap 1 = .ok (.getfield 9, 3) := by decide +kernel
theorem dX4_swap_4 : decode cX4_swap 4 = .ok (.iload_n 1, 1) := by decide +kernel
theorem dX4_swap_5 : decode cX4_swap 5 = .ok (.iaload, 1) := by decide +kernel
theorem dX4_swap_6 : decode cX4_swap 6 = .ok (.istore_n 3, 1) := by decide +kernel
theorem dX4_swap_7 : decode cX4_swap 7 = .ok (.aload_n 0, 1) := by decide +kernel
theorem dX4_swap_8 : decode cX4_swap 8 = .ok (.getfield 9, 3) := by decide +kernel
theorem dX4_swap_11 : decode cX4_swap 11 = .ok (.iload_n 1, 1) := by decide +kernel
theorem dX4_swap_12 : decode cX4_swap 12 = .ok (.aload_n 0, 1) := by decide +kernel
theorem dX4_swap_13 : decode cX4_swap 13 = .ok (.getfield 9, 3) := by decide +kernel
theorem dX4_swap_16 : decode cX4_swap 16 = .ok (.iload_n 2, 1) := by decide +kernel
theorem dX4_swap_17 : decode cX4_swap 17 = .ok (.iaload, 1) := by decide +kernel
theorem dX4_swap_18 : decode cX4_swap 18 = .ok (.iastore, 1) := by decide +kernel
theorem dX4_swap_19 : decode cX4_swap 19 = .ok (.aload_n 0, 1) := by decide +kernel
theorem dX4_swap_20 : decode cX4_swap 20 = .ok (.getfield 9, 3) := by decide +kernel
theorem dX4_swap_23 : decode cX4_swap 23 = .ok (.iload_n 2, 1) := by decide +kernel
theorem dX4_swap_24 : decode cX4_swap 24 = .ok (.iload_n 3, 1) := by decide +kernel
theorem dX4_swap_25 : decode cX4_swap 25 = .ok (.iastore, 1) := by decide +kernel
theorem dX4_swap_26 : decode cX4_swap 26 = .ok (.return_, 1) := by decide +kernel
theorem dX5_init_0 : decode cX5_init 0 = .ok (.aload_n 0, 1) := by decide +kernel
theorem dX5_init_1 : decode cX5_init 1 = .ok (.invokespecial 3, 3) := by decide +kernel
theorem dX5_init_4 : decode cX5_init 4 = .ok (.aload_n 0, 1) := by decide +kernel
theorem dX5_init_5 : decode cX5_init 5 = .ok (.bipush 8, 2) := by decide +kernel
theorem dX5_init_7 : decode cX5_init 7 = .ok (.newarray .int, 2) := by decide +kernel
theorem dX5_init_9 : decode cX5_init 9 = .ok (.putfield 9, 3) := by decide +kernel
theorem dX5_init_12 : decode cX5_init 12 = .ok (.aload_n 0, 1) := by decide +kernel
theorem dX5_init_13 : decode cX5_init 13 = .ok (.bipush 8, 2) := by decide +kernel
theorem dX5_init_15 : decode cX5_init 15 = .ok (.newarray .int, 2) := by decide +kernel
theorem dX5_init_17 : decode cX5_init 17 = .ok (.putfield 15, 3) := by decide +kernel
theorem dX5_init_20 : decode cX5_init 20 = .ok (.aload_n 0, 1) := by decide +kernel
theorem dX5_init_21 : decode cX5_init 21 = .ok (.bipush 8, 2) := by decide +kernel
theorem dX5_init_23 : decode cX5_init 23 = .ok (.newarray .int, 2) := by decide +kernel
theorem dX5_init_25 : decode cX5_init 25 = .ok (.putfield 18, 3) := by decide +kernel
theorem dX5_init_28 : decode cX5_init 28 = .ok (.aload_n 0, 1) := by decide +kernel
theorem dX5_init_29 : decode cX5_init 29 = .ok (.bipush 8, 2) := by decide +kernel
theorem dX5_init_31 : decode cX5_init 31 = .ok (.newarray .int, 2) := by decide +kernel
theorem dX5_init_33 : decode cX5_init 33 = .ok (.putfield 21, 3) := by decide +kernel
theorem dX5_init_36 : decode cX5_init 36 = .ok (.aload_n 0, 1) := by decide +kernel
theorem dX5_init_37 : decode cX5_init 37 = .ok (.iconst 0, 1) := by decide +kernel
theorem dX5_init_38 : decode cX5_init 38 = .ok (.putfield 24, 3) := by decide +kernel
theorem dX5_init_41 : decode cX5_init 41 = .ok (.return_, 1) := by decide +kernel
theorem dX5_isFull_0 : decode cX5_isFull 0 = .ok (.aload_n 0, 1) := by decide +kernel
theorem dX5_isFull_1 : decode cX5_isFull 1 = .ok (.getfield 24, 3) := by decide +kernel
theorem dX5_isFull_4 : decode cX5_isFull 4 = .ok (.bipush 8, 2) := by decide +kernel
theorem dX5_isFull_6 : decode cX5_isFull 6 = .ok (.if_icmp .lt 7, 3) := by decide +kernel
theorem dX5_isFull_9 : decode cX5_isFull 9 = .ok (.iconst 1, 1) := by decide +kernel
theorem dX5_isFull_10 : decode cX5_isFull 10 = .ok (.goto 4, 3) := by decide +kernel
theorem dX5_isFull_13 : decode cX5_isFull 13 = .ok (.iconst 0, 1) := by decide +kernel
theorem dX5_isFull_14 : decode cX5_isFull 14 = .ok (.ireturn, 1) := by decide +kernel
set_option maxRecDepth 20000 in
theorem ggX5_add_X5_isFull : GoodIn wsX5_add wsX5_isFull := goodIn_r _ [10, 2, 11, 12, 13, 14, 15] (by decide +kernel) (by decide +kernel)
set_option maxRecDepth 20000 in
theorem gX5_add_X5_isFull : GoodIn wsX5_add (wsV RX5 28 RX5 yX5_isFull wsX5_isFull) := goodIn_app (goodIn_of _ (by decide +kernel)) ggX5_add_X5_isFull
theorem dX5_add_0 : decode cX5_add 0 = .ok (.aload_n 0, 1) := by decide +kernel
theorem dX5_add_1 : decode cX5_add 1 = .ok (.invokevirtual 28, 3) := by decide +kernel
theorem dX5_add_4 : decode cX5_add 4 = .ok (.ifCond .eq 4, 3) := by decide +kernel
theorem dX5_add_7 : decode cX5_add 7 = .ok (.return_, 1) := by decide +kernel
theorem dX5_add_8 : decode cX5_add 8 = .ok (.aload_n 0, 1) := by decide +kernel
theorem dX5_add_9 : decode cX5_add 9 = .ok (.getfield 9, 3) := by decide +kernel
theorem dX5_add_12 : decode cX5_add 12 = .ok (.aload_n 0, 1) := by decide +kernel
theorem dX5_add_13 : decode cX5_add 13 = .ok (.getfield 24, 3) := by decide +kernel
theorem dX5_add_16 : decode cX5_add 16 = .ok (.iload_n 1, 1) := by decide +kernel
theorem dX5_add_17 : decode cX5_add 17 = .ok (.iastore, 1) := by decide +kernel
theorem dX5_add_18 : decode cX5_add 18 = .ok (.aload_n 0, 1) := by decide +kernel
theorem dX5_add_19 : decode cX5_add 19 = .ok (.getfield 15, 3) := by decide +kernel
theorem dX5_add_22 : decode cX5_add 22 = .ok (.aload_n 0, 1) := by decide +kernel
theorem dX5_add_23 : decode cX5_add 23 = .ok (.getfield 24, 3) := by decide +kernel
theorem dX5_add_26 : decode cX5_add 26 = .ok (.iload_n 2, 1) := by decide +kernel
theorem dX5_add_27 : decode cX5_add 27 = .ok (.iastore, 1) := by decide +kernel
theorem dX5_add_28 : decode cX5_add 28 = .ok (.aload_n 0, 1) := by decide +kernel
theorem dX5_add_29 : decode cX5_add 29 = .ok (.getfield 18, 3) := by decide +kernel
theorem dX5_add_32 : decode cX5_add 32 = .ok (.aload_n 0, 1) := by decide +kernel
theorem dX5_add_33 : decode cX5_add 33 = .ok (.getfield 24, 3) := by decide +kernel
theorem dX5_add_36 : decode cX5_add 36 = .ok (.iload_n 3, 1) := by decide +kernel
theorem dX5_add_37 : decode cX5_add 37 = .ok (.iastore, 1) := by decide +kernel
theorem dX5_add_38 : decode cX5_add 38 = .ok (.aload_n 0, 1) := by decide +kernel
theorem dX5_add_39 : decode cX5_add 39 = .ok (.getfield 21, 3) := by decide +kernel
theorem dX5_add_42 : decode cX5_add 42 = .ok (.aload_n 0, 1) := by decide +kernel
theorem dX5_add_43 : decode cX5_add 43 = .ok (.getfield 24, 3) := by decide +kernel
theorem dX5_add_46 : decode cX5_add 46 = .ok (.iload 4, 2) := by decide +kernel
theorem dX5_add_48 : decode cX5_add 48 = .ok (.iastore, 1) := by decide +kernel
theorem dX5_add_49 : decode cX5_add 49 = .ok (.aload_n 0, 1) := by decide +kernel
theorem dX5_add_50 : decode cX5_add 50 = .ok (.dup, 1) := by decide +kernel
theorem dX5_add_51 : decode cX5_add 51 = .ok (.getfield 24, 3) := by decide +kernel
theorem dX5_add_54 : decode cX5_add 54 = .ok (.iconst 1, 1) := by decide +kernel
theorem dX5_add_55 : decode cX5_add 55 = .ok (.iadd, 1) := by decide +kernel
theorem dX5_add_56 : decode cX5_add 56 = .ok (.putfield 24, 3) := by decide +kernel
theorem dX5_add_59 : decode cX5_add 59 = .ok (.return_, 1) := by decide +kernel
set_option maxRecDepth 20000 in
theorem ggX5_leastLean_X5_leanFits : GoodIn wsX5_leastLean wsX5_leanFits := goodIn_r _ [5, 6, 7, 8, 9, 10, 11, 12, 13, 14, 15, 16, 17, 18, 19, 20, 21, 22, 23] (by decide +kernel) (by decide +kernel)
set_option maxRecDepth 20000 in
theorem gX5_leastLean_X5_leanFits : GoodIn wsX5_leastLean (wsV RX5 32 RX5 yX5_leanFits wsX5_leanFits) := goodIn_app (goodIn_of _ (by decide +kernel)) ggX5_leastLean_X5_leanFits
theorem dX5_leastLean_0 : decode cX5_leastLean 0 = .ok (.iconst 0, 1) := by decide +kernel
theorem dX5_leastLean_1 : decode cX5_leastLean 1 = .ok (.istore_n 1, 1) := by decide +kernel
theorem dX5_leastLean_2 : decode cX5_leastLean 2 = .ok (.iload_n 1, 1) := by decide +kernel
theorem dX5_leastLean_3 : decode cX5_leastLean 3 = .ok (.bipush 8, 2) := by decide +kernel
theorem dX5_leastLean_5 : decode cX5_leastLean 5 = .ok (.if_icmp .gt 19, 3) := by decide +kernel
theorem dX5_leastLean_8 : decode cX5_leastLean 8 = .ok (.aload_n 0, 1) := by decide +kernel
theorem dX5_leastLean_9 : decode cX5_leastLean 9 = .ok (.iload_n 1, 1) := by decide +kernel
theorem dX5_leastLean_10 : decode cX5_leastLean 10 = .ok (.invokevirtual 32, 3) := by decide +kernel
theorem dX5_leastLean_13 : decode cX5_leastLean 13 = .ok (.ifCond .eq 5, 3) := by decide +kernel
theorem dX5_leastLean_16 : decode cX5_leastLean 16 = .ok (.iload_n 1, 1) := by decide +kernel
theorem dX5_leastLean_17 : decode cX5_leastLean 17 = .ok (.ireturn, 1) := by decide +kernel
theorem dX5_leastLean_18 : decode cX5_leastLean 18 = .ok (.iinc 1 1, 3) := by decide +kernel
theorem dX5_leastLean_21 : decode cX5_leastLean 21 = .ok (.goto (-19), 3) := by decide +kernel
theorem dX5_leastLean_24 : decode cX5_leastLean 24 = .ok (.bipush (-9), 2) := by decide +kernel
theorem dX5_leastLean_26 : decode cX5_leastLean 26 = .ok (.ireturn, 1) := by decide +kernel
set_option maxRecDepth 20000 in
theorem ggX5_greatestLean_X5_leanFits : GoodIn wsX5_greatestLean wsX5_leanFits := goodIn_r _ [5, 6, 7, 8, 9, 10, 11, 12, 13, 14, 15, 16, 17, 18, 19, 20, 21, 22, 23] (by decide +kernel) (by decide +kernel)
set_option maxRecDepth 20000 in
theorem gX5_greatestLean_X5_leanFits : GoodIn wsX5_greatestLean (wsV RX5 32 RX5 yX5_leanFits wsX5_leanFits) := goodIn_app (goodIn_of _ (by decide +kernel)) ggX5_greatestLean_X5_leanFits
theorem dX5_greatestLean_0 : decode cX5_greatestLean 0 = .ok (.bipush 8, 2) := by decide +kernel
theorem dX5_greatestLean_2 : decode cX5_greatestLean 2 = .ok (.istore_n 1, 1) := by decide +kernel
theorem dX5_greatestLean_3 : decode cX5_greatestLean 3 = .ok (.iload_n 1, 1) := by decide +kernel
theorem dX5_greatestLean_4 : decode cX5_greatestLean 4 = .ok (.ifCond .lt 19, 3) := by decide +kernel
theorem dX5_greatestLean_7 : decode cX5_greatestLean 7 = .ok (.aload_n 0, 1) := by decide +kernel
theorem dX5_greatestLean_8 : decode cX5_greatestLean 8 = .ok (.iload_n 1, 1) := by decide +kernel
theorem dX5_greatestLean_9 : decode cX5_greatestLean 9 = .ok (.invokevirtual 32, 3) := by decide +kernel
theorem dX5_greatestLean_12 : decode cX5_greatestLean 12 = .ok (.ifCond .eq 5, 3) := by decide +kernel
theorem dX5_greatestLean_15 : decode cX5_greatestLean 15 = .ok (.iload_n 1, 1) := by decide +kernel
theorem dX5_greatestLean_16 : decode cX5_greatestLean 16 = .ok (.ireturn, 1) := by decide +kernel
theorem dX5_greatestLean_17 : decode cX5_greatestLean 17 = .ok (.iinc 1 (-1), 3) := by decide +kernel
theorem dX5_greatestLean_20 : decode cX5_greatestLean 20 = .ok (.goto (-17), 3) := by decide +kernel
theorem dX5_greatestLean_23 : decode cX5_greatestLean 23 = .ok (.bipush (-9), 2) := by decide +kernel
theorem dX5_greatestLean_25 : decode cX5_greatestLean 25 = .ok (.ireturn, 1) := by decide +kernel
set_option maxRecDepth 20000 in
theorem ggX5_leanFits_X7_leant : GoodIn wsX5_leanFits wsX7_leant := goodIn_r _ [6, 7, 8, 9, 10, 11, 12, 13] (by decide +kernel) (by decide +kernel)
set_option maxRecDepth 20000 in
theorem gX5_leanFits_X7_leant_n36 : GoodIn wsX5_leanFits (wsX7_leant) := ggX5_leanFits_X7_leant
theorem dX5_leanFits_0 : decode cX5_leanFits 0 = .ok (.iconst 0, 1) := by decide +kernel
theorem dX5_leanFits_1 : decode cX5_leanFits 1 = .ok (.istore_n 2, 1) := by decide +kernel
theorem dX5_leanFits_2 : decode cX5_leanFits 2 = .ok (.iload_n 2, 1) := by decide +kernel
theorem dX5_leanFits_3 : decode cX5_leanFits 3 = .ok (.aload_n 0, 1) := by decide +kernel
theorem dX5_leanFits_4 : decode cX5_leanFits 4 = .ok (.getfield 24, 3) := by decide +kernel
theorem dX5_leanFits_7 : decode cX5_leanFits 7 = .ok (.if_icmp .ge 30, 3) := by decide +kernel
theorem dX5_leanFits_10 : decode cX5_leanFits 10 = .ok (.aload_n 0, 1) := by decide +kernel
theorem dX5_leanFits_11 : decode cX5_leanFits 11 = .ok (.getfield 9, 3) := by decide +kernel
theorem dX5_leanFits_14 : decode cX5_leanFits 14 = .ok (.iload_n 2, 1) := by decide +kernel
theorem dX5_leanFits_15 : decode cX5_leanFits 15 = .ok (.iaload, 1) := by decide +kernel
theorem dX5_leanFits_16 : decode cX5_leanFits 16 = .ok (.iload_n 1, 1) := by decide +kernel
theorem dX5_leanFits_17 : decode cX5_leanFits 17 = .ok (.invokestatic 36, 3) := by decide +kernel
theorem dX5_leanFits_20 : decode cX5_leanFits 20 = .ok (.aload_n 0, 1) := by decide +kernel
theorem dX5_leanFits_21 : decode cX5_leanFits 21 = .ok (.getfield 18, 3) := by decide +kernel
theorem dX5_leanFits_24 : decode cX5_leanFits 24 = .ok (.iload_n 2, 1) := by decide +kernel
theorem dX5_leanFits_25 : decode cX5_leanFits 25 = .ok (.iaload, 1) := by decide +kernel
theorem dX5_leanFits_26 : decode cX5_leanFits 26 = .ok (.if_icmp .eq 5, 3) := by decide +kernel
theorem dX5_leanFits_29 : decode cX5_leanFits 29 = .ok (.iconst 0, 1) := by decide +kernel
theorem dX5_leanFits_30 : decode cX5_leanFits 30 = .ok (.ireturn, 1) := by decide +kernel
theorem dX5_leanFits_31 : decode cX5_leanFits 31 = .ok (.iinc 2 1, 3) := by decide +kernel
theorem dX5_leanFits_34 : decode cX5_leanFits 34 = .ok (.goto (-32), 3) := by decide +kernel
theorem dX5_leanFits_37 : decode cX5_leanFits 37 = .ok (.iconst 1, 1) := by decide +kernel
theorem dX5_leanFits_38 : decode cX5_leanFits 38 = .ok (.ireturn, 1) := by decide +kernel
set_option maxRecDepth 20000 in
theorem ggX5_fitOneHabit_X5_leastLean : GoodIn wsX5_fitOneHabit wsX5_leastLean := goodIn_r _ [5, 6, 7, 8, 4, 9, 10, 11, 12, 13, 14, 15, 16, 17, 18, 19, 20, 21, 22, 37, 38, 39, 40, 41] (by decide +kernel) (by decide +kernel)
set_option maxRecDepth 20000 in
theorem gX5_fitOneHabit_X5_leastLean : GoodIn wsX5_fitOneHabit (wsV RX5 40 RX5 yX5_leastLean wsX5_leastLean) := goodIn_app (goodIn_of _ (by decide +kernel)) ggX5_fitOneHabit_X5_leastLean
set_option maxRecDepth 20000 in
theorem ggX5_fitOneHabit_X5_maySet : GoodIn wsX5_fitOneHabit wsX5_maySet := goodIn_r _ [26, 10, 27, 37, 38, 39, 40, 41] (by decide +kernel) (by decide +kernel)
set_option maxRecDepth 20000 in
theorem gX5_fitOneHabit_X5_maySet : GoodIn wsX5_fitOneHabit (wsV RX5 44 RX5 yX5_maySet wsX5_maySet) := goodIn_app (goodIn_of _ (by decide +kernel)) ggX5_fitOneHabit_X5_maySet
set_option maxRecDepth 20000 in
theorem ggX5_fitOneHabit_X5_mayDrop : GoodIn wsX5_fitOneHabit wsX5_mayDrop := goodIn_r _ [31, 10, 27, 37, 38, 39, 40, 41] (by decide +kernel) (by decide +kernel)
set_option maxRecDepth 20000 in
theorem gX5_fitOneHabit_X5_mayDrop : GoodIn wsX5_fitOneHabit (wsV RX5 47 RX5 yX5_mayDrop wsX5_mayDrop) := goodIn_app (goodIn_of _ (by decide +kernel)) ggX5_fitOneHabit_X5_mayDrop
set_option maxRecDepth 20000 in
theorem ggX5_fitOneHabit_X5_mayLeave : GoodIn wsX5_fitOneHabit wsX5_mayLeave := goodIn_r _ [35, 10, 36, 27, 37, 38, 39, 40, 41] (by decide +kernel) (by decide +kernel)
set_option maxRecDepth 20000 in
theorem gX5_fitOneHabit_X5_mayLeave : GoodIn wsX5_fitOneHabit (wsV RX5 50 RX5 yX5_mayLeave wsX5_mayLeave) := goodIn_app (goodIn_of _ (by decide +kernel)) ggX5_fitOneHabit_X5_mayLeave
theorem dX5_fitOneHabit_0 : decode cX5_fitOneHabit 0 = .ok (.aload_n 0, 1) := by decide +kernel
theorem dX5_fitOneHabit_1 : decode cX5_fitOneHabit 1 = .ok (.invokevirtual 40, 3) := by decide +kernel
theorem dX5_fitOneHabit_4 : decode cX5_fitOneHabit 4 = .ok (.bipush (-9), 2) := by decide +kernel
theorem dX5_fitOneHabit_6 : decode cX5_fitOneHabit 6 = .ok (.if_icmp .eq 26, 3) := by decide +kernel
theorem dX5_fitOneHabit_9 : decode cX5_fitOneHabit 9 = .ok (.aload_n 0, 1) := by decide +kernel
theorem dX5_fitOneHabit_10 : decode cX5_fitOneHabit 10 = .ok (.invokevirtual 44, 3) := by decide +kernel
theorem dX5_fitOneHabit_13 : decode cX5_fitOneHabit 13 = .ok (.aload_n 0, 1) := by decide +kernel
theorem dX5_fitOneHabit_14 : decode cX5_fitOneHabit 14 = .ok (.invokevirtual 47, 3) := by decide +kernel
theorem dX5_fitOneHabit_17 : decode cX5_fitOneHabit 17 = .ok (.ior, 1) := by decide +kernel
theorem dX5_fitOneHabit_18 : decode cX5_fitOneHabit 18 = .ok (.aload_n 0, 1) := by decide +kernel
theorem dX5_fitOneHabit_19 : decode cX5_fitOneHabit 19 = .ok (.invokevirtual 50, 3) := by decide +kernel
theorem dX5_fitOneHabit_22 : decode cX5_fitOneHabit 22 = .ok (.ior, 1) := by decide +kernel
theorem dX5_fitOneHabit_23 : decode cX5_fitOneHabit 23 = .ok (.bipush 7, 2) := by decide +kernel
theorem dX5_fitOneHabit_25 : decode cX5_fitOneHabit 25 = .ok (.if_icmp .ne 7, 3) := by decide +kernel
theorem dX5_fitOneHabit_28 : decode cX5_fitOneHabit 28 = .ok (.iconst 1, 1) := by decide +kernel
theorem dX5_fitOneHabit_29 : decode cX5_fitOneHabit 29 = .ok (.goto 4, 3) := by decide +kernel
theorem dX5_fitOneHabit_32 : decode cX5_fitOneHabit 32 = .ok (.iconst 0, 1) := by decide +kernel
theorem dX5_fitOneHabit_33 : decode cX5_fitOneHabit 33 = .ok (.ireturn, 1) := by decide +kernel
set_option maxRecDepth 20000 in
theorem ggX5_mustSet_X5_maySet : GoodIn wsX5_mustSet wsX5_maySet := goodIn_r _ [5, 6, 7, 17, 18, 19, 20, 21] (by decide +kernel) (by decide +kernel)
set_option maxRecDepth 20000 in
theorem gX5_mustSet_X5_maySet : GoodIn wsX5_mustSet (wsV RX5 44 RX5 yX5_maySet wsX5_maySet) := goodIn_app (goodIn_of _ (by decide +kernel)) ggX5_mustSet_X5_maySet
set_option maxRecDepth 20000 in
theorem ggX5_mustSet_X5_mayDrop : GoodIn wsX5_mustSet wsX5_mayDrop := goodIn_r _ [11, 6, 7, 17, 18, 19, 20, 21] (by decide +kernel) (by decide +kernel)
set_option maxRecDepth 20000 in
theorem gX5_mustSet_X5_mayDrop : GoodIn wsX5_mustSet (wsV RX5 47 RX5 yX5_mayDrop wsX5_mayDrop) := goodIn_app (goodIn_of _ (by decide +kernel)) ggX5_mustSet_X5_mayDrop
set_option maxRecDepth 20000 in
theorem ggX5_mustSet_X5_mayLeave : GoodIn wsX5_mustSet wsX5_mayLeave := goodIn_r _ [15, 6, 16, 7, 17, 18, 19, 20, 21] (by decide +kernel) (by decide +kernel)
set_option maxRecDepth 20000 in
theorem gX5_mustSet_X5_mayLeave : GoodIn wsX5_mustSet (wsV RX5 50 RX5 yX5_mayLeave wsX5_mayLeave) := goodIn_app (goodIn_of _ (by decide +kernel)) ggX5_mustSet_X5_mayLeave
theorem dX5_mustSet_0 : decode cX5_mustSet 0 = .ok (.aload_n 0, 1) := by decide +kernel
theorem dX5_mustSet_1 : decode cX5_mustSet 1 = .ok (.invokevirtual 44, 3) := by decide +kernel
theorem dX5_mustSet_4 : decode cX5_mustSet 4 = .ok (.aload_n 0, 1) := by decide +kernel
theorem dX5_mustSet_5 : decode cX5_mustSet 5 = .ok (.invokevirtual 47, 3) := by decide +kernel
theorem dX5_mustSet_8 : decode cX5_mustSet 8 = .ok (.iconst (-1), 1) := by decide +kernel
theorem dX5_mustSet_9 : decode cX5_mustSet 9 = .ok (.ixor, 1) := by decide +kernel
theorem dX5_mustSet_10 : decode cX5_mustSet 10 = .ok (.iand, 1) := by decide +kernel
theorem dX5_mustSet_11 : decode cX5_mustSet 11 = .ok (.aload_n 0, 1) := by decide +kernel
theorem dX5_mustSet_12 : decode cX5_mustSet 12 = .ok (.invokevirtual 50, 3) := by decide +kernel
theorem dX5_mustSet_15 : decode cX5_mustSet 15 = .ok (.iconst (-1), 1) := by decide +kernel
theorem dX5_mustSet_16 : decode cX5_mustSet 16 = .ok (.ixor, 1) := by decide +kernel
theorem dX5_mustSet_17 : decode cX5_mustSet 17 = .ok (.iand, 1) := by decide +kernel
theorem dX5_mustSet_18 : decode cX5_mustSet 18 = .ok (.ireturn, 1) := by decide +kernel
set_option maxRecDepth 20000 in
theorem ggX5_mustDrop_X5_mayDrop : GoodIn wsX5_mustDrop wsX5_mayDrop := goodIn_r _ [5, 6, 7, 17, 18, 19, 20, 21] (by decide +kernel) (by decide +kernel)
set_option maxRecDepth 20000 in
theorem gX5_mustDrop_X5_mayDrop : GoodIn wsX5_mustDrop (wsV RX5 47 RX5 yX5_mayDrop wsX5_mayDrop) := goodIn_app (goodIn_of _ (by decide +kernel)) ggX5_mustDrop_X5_mayDrop
set_option maxRecDepth 20000 in
theorem ggX5_mustDrop_X5_maySet : GoodIn wsX5_mustDrop wsX5_maySet := goodIn_r _ [11, 6, 7, 17, 18, 19, 20, 21] (by decide +kernel) (by decide +kernel)
set_option maxRecDepth 20000 in
theorem gX5_mustDrop_X5_maySet : GoodIn wsX5_mustDrop (wsV RX5 44 RX5 yX5_maySet wsX5_maySet) := goodIn_app (goodIn_of _ (by decide +kernel)) ggX5_mustDrop_X5_maySet
set_option maxRecDepth 20000 in
theorem ggX5_mustDrop_X5_mayLeave : GoodIn wsX5_mustDrop wsX5_mayLeave := goodIn_r _ [15, 6, 16, 7, 17, 18, 19, 20, 21] (by decide +kernel) (by decide +kernel)
set_option maxRecDepth 20000 in
theorem gX5_mustDrop_X5_mayLeave : GoodIn wsX5_mustDrop (wsV RX5 50 RX5 yX5_mayLeave wsX5_mayLeave) := goodIn_app (goodIn_of _ (by decide +kernel)) ggX5_mustDrop_X5_mayLeave
theorem dX5_mustDrop_0 : decode cX5_mustDrop 0 = .ok (.aload_n 0, 1) := by decide +kernel
theorem dX5_mustDrop_1 : decode cX5_mustDrop 1 = .ok (.invokevirtual 47, 3) := by decide +kernel
theorem dX5_mustDrop_4 : decode cX5_mustDrop 4 = .ok (.aload_n 0, 1) := by decide +kernel
theorem dX5_mustDrop_5 : decode cX5_mustDrop 5 = .ok (.invokevirtual 44, 3) := by decide +kernel
theorem dX5_mustDrop_8 : decode cX5_mustDrop 8 = .ok (.iconst (-1), 1) := by decide +kernel
theorem dX5_mustDrop_9 : decode cX5_mustDrop 9 = .ok (.ixor, 1) := by decide +kernel
theorem dX5_mustDrop_10 : decode cX5_mustDrop 10 = .ok (.iand, 1) := by decide +kernel
theorem dX5_mustDrop_11 : decode cX5_mustDrop 11 = .ok (.aload_n 0, 1) := by decide +kernel
theorem dX5_mustDrop_12 : decode cX5_mustDrop 12 = .ok (.invokevirtual 50, 3) := by decide +kernel
theorem dX5_mustDrop_15 : decode cX5_mustDrop 15 = .ok (.iconst (-1), 1) := by decide +kernel
theorem dX5_mustDrop_16 : decode cX5_mustDrop 16 = .ok (.ixor, 1) := by decide +kernel
theorem dX5_mustDrop_17 : decode cX5_mustDrop 17 = .ok (.iand, 1) := by decide +kernel
theorem dX5_mustDrop_18 : decode cX5_mustDrop 18 = .ok (.ireturn, 1) := by decide +kernel
theorem dX5_maySet_0 : decode cX5_maySet 0 = .ok (.bipush 7, 2) := by decide +kernel
theorem dX5_maySet_2 : decode cX5_maySet 2 = .ok (.istore_n 1, 1) := by decide +kernel
theorem dX5_maySet_3 : decode cX5_maySet 3 = .ok (.iconst 0, 1) := by decide +kernel
theorem dX5_maySet_4 : decode cX5_maySet 4 = .ok (.istore_n 2, 1) := by decide +kernel
theorem dX5_maySet_5 : decode cX5_maySet 5 = .ok (.iload_n 2, 1) := by decide +kernel
theorem dX5_maySet_6 : decode cX5_maySet 6 = .ok (.aload_n 0, 1) := by decide +kernel
theorem dX5_maySet_7 : decode cX5_maySet 7 = .ok (.getfield 24, 3) := by decide +kernel
theorem dX5_maySet_10 : decode cX5_maySet 10 = .ok (.if_icmp .ge 18, 3) := by decide +kernel
theorem dX5_maySet_13 : decode cX5_maySet 13 = .ok (.iload_n 1, 1) := by decide +kernel
theorem dX5_maySet_14 : decode cX5_maySet 14 = .ok (.aload_n 0, 1) := by decide +kernel
theorem dX5_maySet_15 : decode cX5_maySet 15 = .ok (.getfield 21, 3) := by decide +kernel
theorem dX5_maySet_18 : decode cX5_maySet 18 = .ok (.iload_n 2, 1) := by decide +kernel
theorem dX5_maySet_19 : decode cX5_maySet 19 = .ok (.iaload, 1) := by decide +kernel
theorem dX5_maySet_20 : decode cX5_maySet 20 = .ok (.iand, 1) := by decide +kernel
theorem dX5_maySet_21 : decode cX5_maySet 21 = .ok (.istore_n 1, 1) := by decide +kernel
theorem dX5_maySet_22 : decode cX5_maySet 22 = .ok (.iinc 2 1, 3) := by decide +kernel
theorem dX5_maySet_25 : decode cX5_maySet 25 = .ok (.goto (-20), 3) := by decide +kernel
theorem dX5_maySet_28 : decode cX5_maySet 28 = .ok (.iload_n 1, 1) := by decide +kernel
theorem dX5_maySet_29 : decode cX5_maySet 29 = .ok (.ireturn, 1) := by decide +kernel
theorem dX5_mayDrop_0 : decode cX5_mayDrop 0 = .ok (.bipush 7, 2) := by decide +kernel
theorem dX5_mayDrop_2 : decode cX5_mayDrop 2 = .ok (.istore_n 1, 1) := by decide +kernel
theorem dX5_mayDrop_3 : decode cX5_mayDrop 3 = .ok (.iconst 0, 1) := by decide +kernel
theorem dX5_mayDrop_4 : decode cX5_mayDrop 4 = .ok (.istore_n 2, 1) := by decide +kernel
theorem dX5_mayDrop_5 : decode cX5_mayDrop 5 = .ok (.iload_n 2, 1) := by decide +kernel
theorem dX5_mayDrop_6 : decode cX5_mayDrop 6 = .ok (.aload_n 0, 1) := by decide +kernel
theorem dX5_mayDrop_7 : decode cX5_mayDrop 7 = .ok (.getfield 24, 3) := by decide +kernel
theorem dX5_mayDrop_10 : decode cX5_mayDrop 10 = .ok (.if_icmp .ge 20, 3) := by decide +kernel
theorem dX5_mayDrop_13 : decode cX5_mayDrop 13 = .ok (.iload_n 1, 1) := by decide +kernel
theorem dX5_mayDrop_14 : decode cX5_mayDrop 14 = .ok (.aload_n 0, 1) := by decide +kernel
theorem dX5_mayDrop_15 : decode cX5_mayDrop 15 = .ok (.getfield 21, 3) := by decide +kernel
theorem dX5_mayDrop_18 : decode cX5_mayDrop 18 = .ok (.iload_n 2, 1) := by decide +kernel
theorem dX5_mayDrop_19 : decode cX5_mayDrop 19 = .ok (.iaload, 1) := by decide +kernel
theorem dX5_mayDrop_20 : decode cX5_mayDrop 20 = .ok (.iconst (-1), 1) := by decide +kernel
theorem dX5_mayDrop_21 : decode cX5_mayDrop 21 = .ok (.ixor, 1) := by decide +kernel
theorem dX5_mayDrop_22 : decode cX5_mayDrop 22 = .ok (.iand, 1) := by decide +kernel
theorem dX5_mayDrop_23 : decode cX5_mayDrop 23 = .ok (.istore_n 1, 1) := by decide +kernel
theorem dX5_mayDrop_24 : decode cX5_mayDrop 24 = .ok (.iinc 2 1, 3) := by decide +kernel
theorem dX5_mayDrop_27 : decode cX5_mayDrop 27 = .ok (.goto (-22), 3) := by decide +kernel
theorem dX5_mayDrop_30 : decode cX5_mayDrop 30 = .ok (.iload_n 1, 1) := by decide +kernel
theorem dX5_mayDrop_31 : decode cX5_mayDrop 31 = .ok (.ireturn, 1) := by decide +kernel
theorem dX5_mayLeave_0 : decode cX5_mayLeave 0 = .ok (.bipush 7, 2) := by decide +kernel
theorem dX5_mayLeave_2 : decode cX5_mayLeave 2 = .ok (.istore_n 1, 1) := by decide +kernel
theorem dX5_mayLeave_3 : decode cX5_mayLeave 3 = .ok (.iconst 0, 1) := by decide +kernel
theorem dX5_mayLeave_4 : decode cX5_mayLeave 4 = .ok (.istore_n 2, 1) := by decide +kernel
theorem dX5_mayLeave_5 : decode cX5_mayLeave 5 = .ok (.iload_n 2, 1) := by decide +kernel
theorem dX5_mayLeave_6 : decode cX5_mayLeave 6 = .ok (.aload_n 0, 1) := by decide +kernel
theorem dX5_mayLeave_7 : decode cX5_mayLeave 7 = .ok (.getfield 24, 3) := by decide +kernel
theorem dX5_mayLeave_10 : decode cX5_mayLeave 10 = .ok (.if_icmp .ge 27, 3) := by decide +kernel
theorem dX5_mayLeave_13 : decode cX5_mayLeave 13 = .ok (.iload_n 1, 1) := by decide +kernel
theorem dX5_mayLeave_14 : decode cX5_mayLeave 14 = .ok (.aload_n 0, 1) := by decide +kernel
theorem dX5_mayLeave_15 : decode cX5_mayLeave 15 = .ok (.getfield 15, 3) := by decide +kernel
theorem dX5_mayLeave_18 : decode cX5_mayLeave 18 = .ok (.iload_n 2, 1) := by decide +kernel
theorem dX5_mayLeave_19 : decode cX5_mayLeave 19 = .ok (.iaload, 1) := by decide +kernel
theorem dX5_mayLeave_20 : decode cX5_mayLeave 20 = .ok (.aload_n 0, 1) := by decide +kernel
theorem dX5_mayLeave_21 : decode cX5_mayLeave 21 = .ok (.getfield 21, 3) := by decide +kernel
theorem dX5_mayLeave_24 : decode cX5_mayLeave 24 = .ok (.iload_n 2, 1) := by decide +kernel
theorem dX5_mayLeave_25 : decode cX5_mayLeave 25 = .ok (.iaload, 1) := by decide +kernel
theorem dX5_mayLeave_26 : decode cX5_mayLeave 26 = .ok (.ixor, 1) := by decide +kernel
theorem dX5_mayLeave_27 : decode cX5_mayLeave 27 = .ok (.iconst (-1), 1) := by decide +kernel
theorem dX5_mayLeave_28 : decode cX5_mayLeave 28 = .ok (.ixor, 1) := by decide +kernel
theorem dX5_mayLeave_29 : decode cX5_mayLeave 29 = .ok (.iand, 1) := by decide +kernel
theorem dX5_mayLeave_30 : decode cX5_mayLeave 30 = .ok (.istore_n 1, 1) := by decide +kernel
theorem dX5_mayLeave_31 : decode cX5_mayLeave 31 = .ok (.iinc 2 1, 3) := by decide +kernel
theorem dX5_mayLeave_34 : decode cX5_mayLeave 34 = .ok (.goto (-29), 3) := by decide +kernel
theorem dX5_mayLeave_37 : decode cX5_mayLeave 37 = .ok (.iload_n 1, 1) := by decide +kernel
theorem dX5_mayLeave_38 : decode cX5_mayLeave 38 = .ok (.ireturn, 1) := by decide +kernel
theorem dX6_init_0 : decode cX6_init 0 = .ok (.aload_n 0, 1) := by decide +kernel
theorem dX6_init_1 : decode cX6_init 1 = .ok (.invokespecial 3, 3) := by decide +kernel
theorem dX6_init_4 : decode cX6_init 4 = .ok (.aload_n 0, 1) := by decide +kernel
theorem dX6_init_5 : decode cX6_init 5 = .ok (.sipush 200, 3) := by decide +kernel
theorem dX6_init_8 : decode cX6_init 8 = .ok (.newarray .byte, 2) := by decide +kernel
theorem dX6_init_10 : decode cX6_init 10 = .ok (.putfield 9, 3) := by decide +kernel
theorem dX6_init_13 : decode cX6_init 13 = .ok (.aload_n 0, 1) := by decide +kernel
theorem dX6_init_14 : decode cX6_init 14 = .ok (.iconst 0, 1) := by decide +kernel
theorem dX6_init_15 : decode cX6_init 15 = .ok (.putfield 15, 3) := by decide +kernel
theorem dX6_init_18 : decode cX6_init 18 = .ok (.aload_n 0, 1) := by decide +kernel
theorem dX6_init_19 : decode cX6_init 19 = .ok (.iconst 0, 1) := by decide +kernel
theorem dX6_init_20 : decode cX6_init 20 = .ok (.putfield 19, 3) := by decide +kernel
theorem dX6_init_23 : decode cX6_init 23 = .ok (.aload_n 0, 1) := by decide +kernel
theorem dX6_init_24 : decode cX6_init 24 = .ok (.iconst 0, 1) := by decide +kernel
theorem dX6_init_25 : decode cX6_init 25 = .ok (.putfield 22, 3) := by decide +kernel
theorem dX6_init_28 : decode cX6_init 28 = .ok (.aload_n 0, 1) := by decide +kernel
theorem dX6_init_29 : decode cX6_init 29 = .ok (.iconst 0, 1) := by decide +kernel
theorem dX6_init_30 : decode cX6_init 30 = .ok (.putfield 25, 3) := by decide +kernel
theorem dX6_init_33 : decode cX6_init 33 = .ok (.return_, 1) := by decide +kernel
theorem dX6_append_0 : decode cX6_append 0 = .ok (.iload_n 3, 1) := by decide +kernel
theorem dX6_append_1 : decode cX6_append 1 = .ok (.iconst 1, 1) := by decide +kernel
theorem dX6_append_2 : decode cX6_append 2 = .ok (.isub, 1) := by decide +kernel
theorem dX6_append_3 : decode cX6_append 3 = .ok (.istore 4, 2) := by decide +kernel
theorem dX6_append_5 : decode cX6_append 5 = .ok (.iload 4, 2) := by decide +kernel
theorem dX6_append_7 : decode cX6_append 7 = .ok (.ifCond .lt 47, 3) := by decide +kernel
theorem dX6_append_10 : decode cX6_append 10 = .ok (.aload_n 0, 1) := by decide +kernel
theorem dX6_append_11 : decode cX6_append 11 = .ok (.getfield 15, 3) := by decide +kernel
theorem dX6_append_14 : decode cX6_append 14 = .ok (.sipush 200, 3) := by decide +kernel
theorem dX6_append_17 : decode cX6_append 17 = .ok (.if_icmp .ge 37, 3) := by decide +kernel
theorem dX6_append_20 : decode cX6_append 20 = .ok (.aload_n 0, 1) := by decide +kernel
theorem dX6_append_21 : decode cX6_append 21 = .ok (.getfield 9, 3) := by decide +kernel
theorem dX6_append_24 : decode cX6_append 24 = .ok (.aload_n 0, 1) := by decide +kernel
theorem dX6_append_25 : decode cX6_append 25 = .ok (.getfield 15, 3) := by decide +kernel
theorem dX6_append_28 : decode cX6_append 28 = .ok (.lload_n 1, 1) := by decide +kernel
theorem dX6_append_29 : decode cX6_append 29 = .ok (.bipush 8, 2) := by decide +kernel
theorem dX6_append_31 : decode cX6_append 31 = .ok (.iload 4, 2) := by decide +kernel
theorem dX6_append_33 : decode cX6_append 33 = .ok (.imul, 1) := by decide +kernel
theorem dX6_append_34 : decode cX6_append 34 = .ok (.lushr, 1) := by decide +kernel
theorem dX6_append_35 : decode cX6_append 35 = .ok (.l2i, 1) := by decide +kernel
theorem dX6_append_36 : decode cX6_append 36 = .ok (.i2b, 1) := by decide +kernel
theorem dX6_append_37 : decode cX6_append 37 = .ok (.bastore, 1) := by decide +kernel
theorem dX6_append_38 : decode cX6_append 38 = .ok (.aload_n 0, 1) := by decide +kernel
theorem dX6_append_39 : decode cX6_append 39 = .ok (.dup, 1) := by decide +kernel
theorem dX6_append_40 : decode cX6_append 40 = .ok (.getfield 15, 3) := by decide +kernel
theorem dX6_append_43 : decode cX6_append 43 = .ok (.iconst 1, 1) := by decide +kernel
theorem dX6_append_44 : decode cX6_append 44 = .ok (.iadd, 1) := by decide +kernel
theorem dX6_append_45 : decode cX6_append 45 = .ok (.putfield 15, 3) := by decide +kernel
theorem dX6_append_48 : decode cX6_append 48 = .ok (.iinc 4 (-1), 3) := by decide +kernel
theorem dX6_append_51 : decode cX6_append 51 = .ok (.goto (-46), 3) := by decide +kernel
theorem dX6_append_54 : decode cX6_append 54 = .ok (.return_, 1) := by decide +kernel
set_option maxRecDepth 20000 in
theorem ggX6_readInto_X3_begin : GoodIn wsX6_readInto wsX3_begin := goodIn_r _ [6, 7, 8, 9, 10, 106, 107, 108, 109, 110] (by decide +kernel) (by decide +kernel)
set_option maxRecDepth 20000 in
theorem gX6_readInto_X3_begin_n28 : GoodIn wsX6_readInto (wsX3_begin) := ggX6_readInto_X3_begin
set_option maxRecDepth 20000 in
theorem ggX6_readInto_X6_take : GoodIn wsX6_readInto wsX6_take := goodIn_r _ [15, 1, 16, 17, 2, 18, 19, 14, 20, 101, 102, 103, 104, 105] (by decide +kernel) (by decide +kernel)
set_option maxRecDepth 20000 in
theorem gX6_readInto_X6_take : GoodIn wsX6_readInto (wsV RX6 33 RX6 yX6_take wsX6_take) := goodIn_app (goodIn_of _ (by decide +kernel)) ggX6_readInto_X6_take
set_option maxRecDepth 20000 in
theorem ggX6_readInto_X6_readItem : GoodIn wsX6_readInto wsX6_readItem := goodIn_r _ [24, 25, 26, 27, 14, 28, 1, 2, 17, 29, 30, 31, 32, 33, 34, 35, 36, 37, 38, 39, 40, 41, 42, 43, 44, 45, 46, 47, 48, 49, 50, 51, 52, 53, 54, 55, 56, 57, 58, 59, 60, 61, 62, 63, 64, 65, 66, 67, 68, 69, 70, 71, 72, 73, 74, 75, 76, 77, 78, 79, 80, 4, 81, 7, 82, 83, 84, 85, 86, 87, 88, 89, 90, 11, 12, 13, 15, 16, 18, 19, 20, 91, 92, 93, 94, 95, 96, 97, 98, 99, 100, 106, 107, 108, 109, 110, 101, 102, 103, 104, 105, 111, 112, 113, 114] (by decide +kernel) (by decide +kernel)
set_option maxRecDepth 20000 in
theorem gX6_readInto_X6_readItem : GoodIn wsX6_readInto (wsV RX6 37 RX6 yX6_readItem wsX6_readItem) := goodIn_app (goodIn_of _ (by decide +kernel)) ggX6_readInto_X6_readItem
theorem dX6_readInto_0 : decode cX6_readInto 0 = .ok (.aload_n 1, 1) := by decide +kernel
theorem dX6_readInto_1 : decode cX6_readInto 1 = .ok (.invokevirtual 28, 3) := by decide +kernel
theorem dX6_readInto_4 : decode cX6_readInto 4 = .ok (.aload_n 0, 1) := by decide +kernel
theorem dX6_readInto_5 : decode cX6_readInto 5 = .ok (.iconst 0, 1) := by decide +kernel
theorem dX6_readInto_6 : decode cX6_readInto 6 = .ok (.putfield 19, 3) := by decide +kernel
theorem dX6_readInto_9 : decode cX6_readInto 9 = .ok (.iconst 0, 1) := by decide +kernel
theorem dX6_readInto_10 : decode cX6_readInto 10 = .ok (.istore_n 2, 1) := by decide +kernel
theorem dX6_readInto_11 : decode cX6_readInto 11 = .ok (.aload_n 0, 1) := by decide +kernel
theorem dX6_readInto_12 : decode cX6_readInto 12 = .ok (.invokevirtual 33, 3) := by decide +kernel
theorem dX6_readInto_15 : decode cX6_readInto 15 = .ok (.istore_n 3, 1) := by decide +kernel
theorem dX6_readInto_16 : decode cX6_readInto 16 = .ok (.iload_n 3, 1) := by decide +kernel
theorem dX6_readInto_17 : decode cX6_readInto 17 = .ok (.ifCond .eq 42, 3) := by decide +kernel
theorem dX6_readInto_20 : decode cX6_readInto 20 = .ok (.iload_n 2, 1) := by decide +kernel
theorem dX6_readInto_21 : decode cX6_readInto 21 = .ok (.sipush 200, 3) := by decide +kernel
theorem dX6_readInto_24 : decode cX6_readInto 24 = .ok (.if_icmp .ge 35, 3) := by decide +kernel
theorem dX6_readInto_27 : decode cX6_readInto 27 = .ok (.iload_n 3, 1) := by decide +kernel
theorem dX6_readInto_28 : decode cX6_readInto 28 = .ok (.iconst 1, 1) := by decide +kernel
theorem dX6_readInto_29 : decode cX6_readInto 29 = .ok (.if_icmp .ne 11, 3) := by decide +kernel
theorem dX6_readInto_32 : decode cX6_readInto 32 = .ok (.aload_n 0, 1) := by decide +kernel
theorem dX6_readInto_33 : decode cX6_readInto 33 = .ok (.aload_n 1, 1) := by decide +kernel
theorem dX6_readInto_34 : decode cX6_readInto 34 = .ok (.invokevirtual 37, 3) := by decide +kernel
theorem dX6_readInto_37 : decode cX6_readInto 37 = .ok (.ifCond .ne 11, 3) := by decide +kernel
theorem dX6_readInto_40 : decode cX6_readInto 40 = .ok (.bipush (-10), 2) := by decide +kernel
theorem dX6_readInto_42 : decode cX6_readInto 42 = .ok (.aload_n 0, 1) := by decide +kernel
theorem dX6_readInto_43 : decode cX6_readInto 43 = .ok (.getfield 22, 3) := by decide +kernel
theorem dX6_readInto_46 : decode cX6_readInto 46 = .ok (.isub, 1) := by decide +kernel
theorem dX6_readInto_47 : decode cX6_readInto 47 = .ok (.ireturn, 1) := by decide +kernel
theorem dX6_readInto_48 : decode cX6_readInto 48 = .ok (.iinc 2 1, 3) := by decide +kernel
theorem dX6_readInto_51 : decode cX6_readInto 51 = .ok (.aload_n 0, 1) := by decide +kernel
theorem dX6_readInto_52 : decode cX6_readInto 52 = .ok (.invokevirtual 33, 3) := by decide +kernel
theorem dX6_readInto_55 : decode cX6_readInto 55 = .ok (.istore_n 3, 1) := by decide +kernel
theorem dX6_readInto_56 : decode cX6_readInto 56 = .ok (.goto (-40), 3) := by decide +kernel
theorem dX6_readInto_59 : decode cX6_readInto 59 = .ok (.iload_n 2, 1) := by decide +kernel
theorem dX6_readInto_60 : decode cX6_readInto 60 = .ok (.ireturn, 1) := by decide +kernel
set_option maxRecDepth 20000 in
theorem ggX6_readItem_X6_tookWord : GoodIn wsX6_readItem wsX6_tookWord := goodIn_r _ [5, 6, 7, 8, 9, 10, 11, 12, 13, 14, 15, 16, 17, 18, 19, 20, 21, 22, 23, 24, 25, 26, 27, 28, 29, 30, 31, 32, 33, 34, 35, 36, 37, 38, 39, 40, 41, 42, 43, 44, 45, 46, 47, 48, 49, 50, 51, 52, 53, 54, 55, 56, 57, 96, 97, 98, 99, 100] (by decide +kernel) (by decide +kernel)
set_option maxRecDepth 20000 in
theorem gX6_readItem_X6_tookWord : GoodIn wsX6_readItem (wsV RX6 43 RX6 yX6_tookWord wsX6_tookWord) := goodIn_app (goodIn_of _ (by decide +kernel)) ggX6_readItem_X6_tookWord
set_option maxRecDepth 20000 in
theorem ggX6_readItem_X3_isFull : GoodIn wsX6_readItem wsX3_isFull := goodIn_r _ [62, 63, 91, 92, 93, 94, 95] (by decide +kernel) (by decide +kernel)
set_option maxRecDepth 20000 in
theorem gX6_readItem_X3_isFull : GoodIn wsX6_readItem (wsV RX6 47 RX3 yX3_isFull wsX3_isFull) := goodIn_app (goodIn_of _ (by decide +kernel)) ggX6_readItem_X3_isFull
set_option maxRecDepth 20000 in
theorem ggX6_readItem_X6_readClerk : GoodIn wsX6_readItem wsX6_readClerk := goodIn_r _ [67, 68, 69, 70, 71, 4, 72, 6, 7, 8, 73, 74, 75, 76, 77, 78, 79, 80, 81, 82, 83, 61, 84, 85, 63, 86, 59, 60, 62, 96, 97, 98, 99, 100, 91, 92, 93, 94, 95, 101, 102, 103, 104] (by decide +kernel) (by decide +kernel)
set_option maxRecDepth 20000 in
theorem gX6_readItem_X6_readClerk : GoodIn wsX6_readItem (wsV RX6 51 RX6 yX6_readClerk wsX6_readClerk) := goodIn_app (goodIn_of _ (by decide +kernel)) ggX6_readItem_X6_readClerk
set_option maxRecDepth 20000 in
theorem ggX6_readItem_X6_readFirstLine : GoodIn wsX6_readItem wsX6_readFirstLine := goodIn_r _ [90, 68, 69, 70, 71, 4, 72, 6, 7, 8, 73, 74, 75, 76, 77, 78, 79, 80, 96, 97, 98, 99, 100, 91, 92, 93, 94, 95] (by decide +kernel) (by decide +kernel)
set_option maxRecDepth 20000 in
theorem gX6_readItem_X6_readFirstLine : GoodIn wsX6_readItem (wsV RX6 60 RX6 yX6_readFirstLine wsX6_readFirstLine) := goodIn_app (goodIn_of _ (by decide +kernel)) ggX6_readItem_X6_readFirstLine
theorem dX6_readItem_0 : decode cX6_readItem 0 = .ok (.aload_n 0, 1) := by decide +kernel
theorem dX6_readItem_1 : decode cX6_readItem 1 = .ok (.ldc 41, 2) := by decide +kernel
theorem dX6_readItem_3 : decode cX6_readItem 3 = .ok (.invokevirtual 43, 3) := by decide +kernel
theorem dX6_readItem_6 : decode cX6_readItem 6 = .ok (.ifCond .eq 24, 3) := by decide +kernel
theorem dX6_readItem_9 : decode cX6_readItem 9 = .ok (.aload_n 1, 1) := by decide +kernel
theorem dX6_readItem_10 : decode cX6_readItem 10 = .ok (.invokevirtual 47, 3) := by decide +kernel
theorem dX6_readItem_13 : decode cX6_readItem 13 = .ok (.ifCond .ne 15, 3) := by decide +kernel
theorem dX6_readItem_16 : decode cX6_readItem 16 = .ok (.aload_n 0, 1) := by decide +kernel
theorem dX6_readItem_17 : decode cX6_readItem 17 = .ok (.aload_n 1, 1) := by decide +kernel
theorem dX6_readItem_18 : decode cX6_readItem 18 = .ok (.invokevirtual 51, 3) := by decide +kernel
theorem dX6_readItem_21 : decode cX6_readItem 21 = .ok (.ifCond .eq 7, 3) := by decide +kernel
theorem dX6_readItem_24 : decode cX6_readItem 24 = .ok (.iconst 1, 1) := by decide +kernel
theorem dX6_readItem_25 : decode cX6_readItem 25 = .ok (.goto 4, 3) := by decide +kernel
theorem dX6_readItem_28 : decode cX6_readItem 28 = .ok (.iconst 0, 1) := by decide +kernel
theorem dX6_readItem_29 : decode cX6_readItem 29 = .ok (.ireturn, 1) := by decide +kernel
theorem dX6_readItem_30 : decode cX6_readItem 30 = .ok (.aload_n 0, 1) := by decide +kernel
theorem dX6_readItem_31 : decode cX6_readItem 31 = .ok (.ldc 54, 2) := by decide +kernel
theorem dX6_readItem_33 : decode cX6_readItem 33 = .ok (.invokevirtual 43, 3) := by decide +kernel
theorem dX6_readItem_36 : decode cX6_readItem 36 = .ok (.ifCond .eq 22, 3) := by decide +kernel
theorem dX6_readItem_39 : decode cX6_readItem 39 = .ok (.aload_n 1, 1) := by decide +kernel
theorem dX6_readItem_40 : decode cX6_readItem 40 = .ok (.getfield 56, 3) := by decide +kernel
theorem dX6_readItem_43 : decode cX6_readItem 43 = .ok (.ifCond .ne 15, 3) := by decide +kernel
theorem dX6_readItem_46 : decode cX6_readItem 46 = .ok (.aload_n 0, 1) := by decide +kernel
theorem dX6_readItem_47 : decode cX6_readItem 47 = .ok (.aload_n 1, 1) := by decide +kernel
theorem dX6_readItem_48 : decode cX6_readItem 48 = .ok (.invokevirtual 60, 3) := by decide +kernel
theorem dX6_readItem_51 : decode cX6_readItem 51 = .ok (.ifCond .eq 7, 3) := by decide +kernel
theorem dX6_readItem_54 : decode cX6_readItem 54 = .ok (.iconst 1, 1) := by decide +kernel
theorem dX6_readItem_55 : decode cX6_readItem 55 = .ok (.goto 4, 3) := by decide +kernel
theorem dX6_readItem_58 : decode cX6_readItem 58 = .ok (.iconst 0, 1) := by decide +kernel
theorem dX6_readItem_59 : decode cX6_readItem 59 = .ok (.ireturn, 1) := by decide +kernel
set_option maxRecDepth 20000 in
theorem ggX6_readClerk_X6_takeNumber : GoodIn wsX6_readClerk wsX6_takeNumber := goodIn_r _ [6, 7, 8, 1, 9, 10, 11, 12, 5, 13, 14, 15, 16, 17, 29, 30, 31, 32, 33] (by decide +kernel) (by decide +kernel)
set_option maxRecDepth 20000 in
theorem gX6_readClerk_X6_takeNumber : GoodIn wsX6_readClerk (wsV RX6 63 RX6 yX6_takeNumber wsX6_takeNumber) := goodIn_app (goodIn_of _ (by decide +kernel)) ggX6_readClerk_X6_takeNumber
set_option maxRecDepth 20000 in
theorem ggX6_readClerk_X3_add : GoodIn wsX6_readClerk wsX3_add := goodIn_r _ [22, 23, 24, 25, 26, 27, 21, 28, 34, 35, 36, 37, 38, 39, 40, 41, 42] (by decide +kernel) (by decide +kernel)
set_option maxRecDepth 20000 in
theorem gX6_readClerk_X3_add : GoodIn wsX6_readClerk (wsV RX6 67 RX3 yX3_add wsX3_add) := goodIn_app (goodIn_of _ (by decide +kernel)) ggX6_readClerk_X3_add
set_option maxRecDepth 20000 in
theorem ggX6_readClerk_X6_take : GoodIn wsX6_readClerk wsX6_take := goodIn_r _ [13, 7, 14, 9, 8, 15, 16, 5, 17, 29, 30, 31, 32, 33] (by decide +kernel) (by decide +kernel)
set_option maxRecDepth 20000 in
theorem gX6_readClerk_X6_take : GoodIn wsX6_readClerk (wsV RX6 33 RX6 yX6_take wsX6_take) := goodIn_app (goodIn_of _ (by decide +kernel)) ggX6_readClerk_X6_take
theorem dX6_readClerk_0 : decode cX6_readClerk 0 = .ok (.aload_n 0, 1) := by decide +kernel
theorem dX6_readClerk_1 : decode cX6_readClerk 1 = .ok (.bipush 8, 2) := by decide +kernel
theorem dX6_readClerk_3 : decode cX6_readClerk 3 = .ok (.invokevirtual 63, 3) := by decide +kernel
theorem dX6_readClerk_6 : decode cX6_readClerk 6 = .ok (.ifCond .ne 5, 3) := by decide +kernel
theorem dX6_readClerk_9 : decode cX6_readClerk 9 = .ok (.iconst 0, 1) := by decide +kernel
theorem dX6_readClerk_10 : decode cX6_readClerk 10 = .ok (.ireturn, 1) := by decide +kernel
theorem dX6_readClerk_11 : decode cX6_readClerk 11 = .ok (.aload_n 0, 1) := by decide +kernel
theorem dX6_readClerk_12 : decode cX6_readClerk 12 = .ok (.getfield 25, 3) := by decide +kernel
theorem dX6_readClerk_15 : decode cX6_readClerk 15 = .ok (.istore_n 2, 1) := by decide +kernel
theorem dX6_readClerk_16 : decode cX6_readClerk 16 = .ok (.aload_n 0, 1) := by decide +kernel
theorem dX6_readClerk_17 : decode cX6_readClerk 17 = .ok (.bipush 7, 2) := by decide +kernel
theorem dX6_readClerk_19 : decode cX6_readClerk 19 = .ok (.invokevirtual 63, 3) := by decide +kernel
theorem dX6_readClerk_22 : decode cX6_readClerk 22 = .ok (.ifCond .ne 5, 3) := by decide +kernel
theorem dX6_readClerk_25 : decode cX6_readClerk 25 = .ok (.iconst 0, 1) := by decide +kernel
theorem dX6_readClerk_26 : decode cX6_readClerk 26 = .ok (.ireturn, 1) := by decide +kernel
theorem dX6_readClerk_27 : decode cX6_readClerk 27 = .ok (.aload_n 0, 1) := by decide +kernel
theorem dX6_readClerk_28 : decode cX6_readClerk 28 = .ok (.getfield 25, 3) := by decide +kernel
theorem dX6_readClerk_31 : decode cX6_readClerk 31 = .ok (.istore_n 3, 1) := by decide +kernel
theorem dX6_readClerk_32 : decode cX6_readClerk 32 = .ok (.aload_n 0, 1) := by decide +kernel
theorem dX6_readClerk_33 : decode cX6_readClerk 33 = .ok (.bipush 7, 2) := by decide +kernel
theorem dX6_readClerk_35 : decode cX6_readClerk 35 = .ok (.invokevirtual 63, 3) := by decide +kernel
theorem dX6_readClerk_38 : decode cX6_readClerk 38 = .ok (.ifCond .eq 12, 3) := by decide +kernel
theorem dX6_readClerk_41 : decode cX6_readClerk 41 = .ok (.aload_n 0, 1) := by decide +kernel
theorem dX6_readClerk_42 : decode cX6_readClerk 42 = .ok (.getfield 25, 3) := by decide +kernel
theorem dX6_readClerk_45 : decode cX6_readClerk 45 = .ok (.iload_n 3, 1) := by decide +kernel
theorem dX6_readClerk_46 : decode cX6_readClerk 46 = .ok (.iand, 1) := by decide +kernel
theorem dX6_readClerk_47 : decode cX6_readClerk 47 = .ok (.ifCond .eq 5, 3) := by decide +kernel
theorem dX6_readClerk_50 : decode cX6_readClerk 50 = .ok (.iconst 0, 1) := by decide +kernel
theorem dX6_readClerk_51 : decode cX6_readClerk 51 = .ok (.ireturn, 1) := by decide +kernel
theorem dX6_readClerk_52 : decode cX6_readClerk 52 = .ok (.aload_n 0, 1) := by decide +kernel
theorem dX6_readClerk_53 : decode cX6_readClerk 53 = .ok (.getfield 25, 3) := by decide +kernel
theorem dX6_readClerk_56 : decode cX6_readClerk 56 = .ok (.istore 4, 2) := by decide +kernel
theorem dX6_readClerk_58 : decode cX6_readClerk 58 = .ok (.aload_n 0, 1) := by decide +kernel
theorem dX6_readClerk_59 : decode cX6_readClerk 59 = .ok (.bipush 10, 2) := by decide +kernel
theorem dX6_readClerk_61 : decode cX6_readClerk 61 = .ok (.invokevirtual 63, 3) := by decide +kernel
theorem dX6_readClerk_64 : decode cX6_readClerk 64 = .ok (.ifCond .ne 5, 3) := by decide +kernel
theorem dX6_readClerk_67 : decode cX6_readClerk 67 = .ok (.iconst 0, 1) := by decide +kernel
theorem dX6_readClerk_68 : decode cX6_readClerk 68 = .ok (.ireturn, 1) := by decide +kernel
theorem dX6_readClerk_69 : decode cX6_readClerk 69 = .ok (.aload_n 1, 1) := by decide +kernel
theorem dX6_readClerk_70 : decode cX6_readClerk 70 = .ok (.iload_n 2, 1) := by decide +kernel
theorem dX6_readClerk_71 : decode cX6_readClerk 71 = .ok (.iload_n 3, 1) := by decide +kernel
theorem dX6_readClerk_72 : decode cX6_readClerk 72 = .ok (.iload 4, 2) := by decide +kernel
theorem dX6_readClerk_74 : decode cX6_readClerk 74 = .ok (.aload_n 0, 1) := by decide +kernel
theorem dX6_readClerk_75 : decode cX6_readClerk 75 = .ok (.getfield 25, 3) := by decide +kernel
theorem dX6_readClerk_78 : decode cX6_readClerk 78 = .ok (.invokevirtual 67, 3) := by decide +kernel
theorem dX6_readClerk_81 : decode cX6_readClerk 81 = .ok (.aload_n 0, 1) := by decide +kernel
theorem dX6_readClerk_82 : decode cX6_readClerk 82 = .ok (.invokevirtual 33, 3) := by decide +kernel
theorem dX6_readClerk_85 : decode cX6_readClerk 85 = .ok (.iconst 3, 1) := by decide +kernel
theorem dX6_readClerk_86 : decode cX6_readClerk 86 = .ok (.if_icmp .ne 7, 3) := by decide +kernel
theorem dX6_readClerk_89 : decode cX6_readClerk 89 = .ok (.iconst 1, 1) := by decide +kernel
theorem dX6_readClerk_90 : decode cX6_readClerk 90 = .ok (.goto 4, 3) := by decide +kernel
theorem dX6_readClerk_93 : decode cX6_readClerk 93 = .ok (.iconst 0, 1) := by decide +kernel
theorem dX6_readClerk_94 : decode cX6_readClerk 94 = .ok (.ireturn, 1) := by decide +kernel
set_option maxRecDepth 20000 in
theorem ggX6_readFirstLine_X6_takeNumber : GoodIn wsX6_readFirstLine wsX6_takeNumber := goodIn_r _ [6, 7, 8, 1, 9, 10, 11, 12, 5, 13, 14, 15, 16, 17, 18, 19, 20, 21, 22] (by decide +kernel) (by decide +kernel)
set_option maxRecDepth 20000 in
theorem gX6_readFirstLine_X6_takeNumber : GoodIn wsX6_readFirstLine (wsV RX6 63 RX6 yX6_takeNumber wsX6_takeNumber) := goodIn_app (goodIn_of _ (by decide +kernel)) ggX6_readFirstLine_X6_takeNumber
set_option maxRecDepth 20000 in
theorem ggX6_readFirstLine_X6_take : GoodIn wsX6_readFirstLine wsX6_take := goodIn_r _ [13, 7, 14, 9, 8, 15, 16, 5, 17, 18, 19, 20, 21, 22] (by decide +kernel) (by decide +kernel)
set_option maxRecDepth 20000 in
theorem gX6_readFirstLine_X6_take : GoodIn wsX6_readFirstLine (wsV RX6 33 RX6 yX6_take wsX6_take) := goodIn_app (goodIn_of _ (by decide +kernel)) ggX6_readFirstLine_X6_take
theorem dX6_readFirstLine_0 : decode cX6_readFirstLine 0 = .ok (.aload_n 0, 1) := by decide +kernel
theorem dX6_readFirstLine_1 : decode cX6_readFirstLine 1 = .ok (.bipush 9, 2) := by decide +kernel
theorem dX6_readFirstLine_3 : decode cX6_readFirstLine 3 = .ok (.invokevirtual 63, 3) := by decide +kernel
theorem dX6_readFirstLine_6 : decode cX6_readFirstLine 6 = .ok (.ifCond .ne 5, 3) := by decide +kernel
theorem dX6_readFirstLine_9 : decode cX6_readFirstLine 9 = .ok (.iconst 0, 1) := by decide +kernel
theorem dX6_readFirstLine_10 : decode cX6_readFirstLine 10 = .ok (.ireturn, 1) := by decide +kernel
theorem dX6_readFirstLine_11 : decode cX6_readFirstLine 11 = .ok (.aload_n 1, 1) := by decide +kernel
theorem dX6_readFirstLine_12 : decode cX6_readFirstLine 12 = .ok (.aload_n 0, 1) := by decide +kernel
theorem dX6_readFirstLine_13 : decode cX6_readFirstLine 13 = .ok (.getfield 25, 3) := by decide +kernel
theorem dX6_readFirstLine_16 : decode cX6_readFirstLine 16 = .ok (.putfield 71, 3) := by decide +kernel
theorem dX6_readFirstLine_19 : decode cX6_readFirstLine 19 = .ok (.aload_n 0, 1) := by decide +kernel
theorem dX6_readFirstLine_20 : decode cX6_readFirstLine 20 = .ok (.bipush 7, 2) := by decide +kernel
theorem dX6_readFirstLine_22 : decode cX6_readFirstLine 22 = .ok (.invokevirtual 63, 3) := by decide +kernel
theorem dX6_readFirstLine_25 : decode cX6_readFirstLine 25 = .ok (.ifCond .ne 5, 3) := by decide +kernel
theorem dX6_readFirstLine_28 : decode cX6_readFirstLine 28 = .ok (.iconst 0, 1) := by decide +kernel
theorem dX6_readFirstLine_29 : decode cX6_readFirstLine 29 = .ok (.ireturn, 1) := by decide +kernel
theorem dX6_readFirstLine_30 : decode cX6_readFirstLine 30 = .ok (.aload_n 1, 1) := by decide +kernel
theorem dX6_readFirstLine_31 : decode cX6_readFirstLine 31 = .ok (.aload_n 0, 1) := by decide +kernel
theorem dX6_readFirstLine_32 : decode cX6_readFirstLine 32 = .ok (.getfield 25, 3) := by decide +kernel
theorem dX6_readFirstLine_35 : decode cX6_readFirstLine 35 = .ok (.putfield 74, 3) := by decide +kernel
theorem dX6_readFirstLine_38 : decode cX6_readFirstLine 38 = .ok (.aload_n 1, 1) := by decide +kernel
theorem dX6_readFirstLine_39 : decode cX6_readFirstLine 39 = .ok (.iconst 1, 1) := by decide +kernel
theorem dX6_readFirstLine_40 : decode cX6_readFirstLine 40 = .ok (.putfield 56, 3) := by decide +kernel
theorem dX6_readFirstLine_43 : decode cX6_readFirstLine 43 = .ok (.aload_n 0, 1) := by decide +kernel
theorem dX6_readFirstLine_44 : decode cX6_readFirstLine 44 = .ok (.invokevirtual 33, 3) := by decide +kernel
theorem dX6_readFirstLine_47 : decode cX6_readFirstLine 47 = .ok (.iconst 3, 1) := by decide +kernel
theorem dX6_readFirstLine_48 : decode cX6_readFirstLine 48 = .ok (.if_icmp .ne 7, 3) := by decide +kernel
theorem dX6_readFirstLine_51 : decode cX6_readFirstLine 51 = .ok (.iconst 1, 1) := by decide +kernel
theorem dX6_readFirstLine_52 : decode cX6_readFirstLine 52 = .ok (.goto 4, 3) := by decide +kernel
theorem dX6_readFirstLine_55 : decode cX6_readFirstLine 55 = .ok (.iconst 0, 1) := by decide +kernel
theorem dX6_readFirstLine_56 : decode cX6_readFirstLine 56 = .ok (.ireturn, 1) := by decide +kernel
set_option maxRecDepth 20000 in
theorem ggX6_takeNumber_X6_take : GoodIn wsX6_takeNumber wsX6_take := goodIn_r _ [9, 1, 10, 4, 2, 11, 12, 8, 13, 14, 15, 16, 17, 18] (by decide +kernel) (by decide +kernel)
set_option maxRecDepth 20000 in
theorem gX6_takeNumber_X6_take : GoodIn wsX6_takeNumber (wsV RX6 33 RX6 yX6_take wsX6_take) := goodIn_app (goodIn_of _ (by decide +kernel)) ggX6_takeNumber_X6_take
theorem dX6_takeNumber_0 : decode cX6_takeNumber 0 = .ok (.aload_n 0, 1) := by decide +kernel
theorem dX6_takeNumber_1 : decode cX6_takeNumber 1 = .ok (.invokevirtual 33, 3) := by decide +kernel
theorem dX6_takeNumber_4 : decode cX6_takeNumber 4 = .ok (.iconst 2, 1) := by decide +kernel
theorem dX6_takeNumber_5 : decode cX6_takeNumber 5 = .ok (.if_icmp .ne 16, 3) := by decide +kernel
theorem dX6_takeNumber_8 : decode cX6_takeNumber 8 = .ok (.aload_n 0, 1) := by decide +kernel
theorem dX6_takeNumber_9 : decode cX6_takeNumber 9 = .ok (.getfield 19, 3) := by decide +kernel
theorem dX6_takeNumber_12 : decode cX6_takeNumber 12 = .ok (.aload_n 0, 1) := by decide +kernel
theorem dX6_takeNumber_13 : decode cX6_takeNumber 13 = .ok (.getfield 22, 3) := by decide +kernel
theorem dX6_takeNumber_16 : decode cX6_takeNumber 16 = .ok (.isub, 1) := by decide +kernel
theorem dX6_takeNumber_17 : decode cX6_takeNumber 17 = .ok (.iconst 2, 1) := by decide +kernel
theorem dX6_takeNumber_18 : decode cX6_takeNumber 18 = .ok (.if_icmp .le 5, 3) := by decide +kernel
theorem dX6_takeNumber_21 : decode cX6_takeNumber 21 = .ok (.iconst 0, 1) := by decide +kernel
theorem dX6_takeNumber_22 : decode cX6_takeNumber 22 = .ok (.ireturn, 1) := by decide +kernel
theorem dX6_takeNumber_23 : decode cX6_takeNumber 23 = .ok (.aload_n 0, 1) := by decide +kernel
theorem dX6_takeNumber_24 : decode cX6_takeNumber 24 = .ok (.iconst 0, 1) := by decide +kernel
theorem dX6_takeNumber_25 : decode cX6_takeNumber 25 = .ok (.putfield 25, 3) := by decide +kernel
theorem dX6_takeNumber_28 : decode cX6_takeNumber 28 = .ok (.aload_n 0, 1) := by decide +kernel
theorem dX6_takeNumber_29 : decode cX6_takeNumber 29 = .ok (.getfield 22, 3) := by decide +kernel
theorem dX6_takeNumber_32 : decode cX6_takeNumber 32 = .ok (.istore_n 2, 1) := by decide +kernel
theorem dX6_takeNumber_33 : decode cX6_takeNumber 33 = .ok (.iload_n 2, 1) := by decide +kernel
theorem dX6_takeNumber_34 : decode cX6_takeNumber 34 = .ok (.aload_n 0, 1) := by decide +kernel
theorem dX6_takeNumber_35 : decode cX6_takeNumber 35 = .ok (.getfield 19, 3) := by decide +kernel
theorem dX6_takeNumber_38 : decode cX6_takeNumber 38 = .ok (.if_icmp .ge 30, 3) := by decide +kernel
theorem dX6_takeNumber_41 : decode cX6_takeNumber 41 = .ok (.aload_n 0, 1) := by decide +kernel
theorem dX6_takeNumber_42 : decode cX6_takeNumber 42 = .ok (.bipush 10, 2) := by decide +kernel
theorem dX6_takeNumber_44 : decode cX6_takeNumber 44 = .ok (.aload_n 0, 1) := by decide +kernel
theorem dX6_takeNumber_45 : decode cX6_takeNumber 45 = .ok (.getfield 25, 3) := by decide +kernel
theorem dX6_takeNumber_48 : decode cX6_takeNumber 48 = .ok (.imul, 1) := by decide +kernel
theorem dX6_takeNumber_49 : decode cX6_takeNumber 49 = .ok (.aload_n 0, 1) := by decide +kernel
theorem dX6_takeNumber_50 : decode cX6_takeNumber 50 = .ok (.getfield 9, 3) := by decide +kernel
theorem dX6_takeNumber_53 : decode cX6_takeNumber 53 = .ok (.iload_n 2, 1) := by decide +kernel
theorem dX6_takeNumber_54 : decode cX6_takeNumber 54 = .ok (.baload, 1) := by decide +kernel
theorem dX6_takeNumber_55 : decode cX6_takeNumber 55 = .ok (.iadd, 1) := by decide +kernel
theorem dX6_takeNumber_56 : decode cX6_takeNumber 56 = .ok (.bipush 48, 2) := by decide +kernel
theorem dX6_takeNumber_58 : decode cX6_takeNumber 58 = .ok (.isub, 1) := by decide +kernel
theorem dX6_takeNumber_59 : decode cX6_takeNumber 59 = .ok (.putfield 25, 3) := by decide +kernel
theorem dX6_takeNumber_62 : decode cX6_takeNumber 62 = .ok (.iinc 2 1, 3) := by decide +kernel
theorem dX6_takeNumber_65 : decode cX6_takeNumber 65 = .ok (.goto (-32), 3) := by decide +kernel
theorem dX6_takeNumber_68 : decode cX6_takeNumber 68 = .ok (.aload_n 0, 1) := by decide +kernel
theorem dX6_takeNumber_69 : decode cX6_takeNumber 69 = .ok (.getfield 19, 3) := by decide +kernel
theorem dX6_takeNumber_72 : decode cX6_takeNumber 72 = .ok (.aload_n 0, 1) := by decide +kernel
theorem dX6_takeNumber_73 : decode cX6_takeNumber 73 = .ok (.getfield 22, 3) := by decide +kernel
theorem dX6_takeNumber_76 : decode cX6_takeNumber 76 = .ok (.isub, 1) := by decide +kernel
theorem dX6_takeNumber_77 : decode cX6_takeNumber 77 = .ok (.iconst 2, 1) := by decide +kernel
theorem dX6_takeNumber_78 : decode cX6_takeNumber 78 = .ok (.if_icmp .ne 16, 3) := by decide +kernel
theorem dX6_takeNumber_81 : decode cX6_takeNumber 81 = .ok (.aload_n 0, 1) := by decide +kernel
theorem dX6_takeNumber_82 : decode cX6_takeNumber 82 = .ok (.getfield 25, 3) := by decide +kernel
theorem dX6_takeNumber_85 : decode cX6_takeNumber 85 = .ok (.bipush 10, 2) := by decide +kernel
theorem dX6_takeNumber_87 : decode cX6_takeNumber 87 = .ok (.if_icmp .ge 7, 3) := by decide +kernel
theorem dX6_takeNumber_90 : decode cX6_takeNumber 90 = .ok (.iconst 1, 1) := by decide +kernel
theorem dX6_takeNumber_91 : decode cX6_takeNumber 91 = .ok (.goto 4, 3) := by decide +kernel
theorem dX6_takeNumber_94 : decode cX6_takeNumber 94 = .ok (.iconst 0, 1) := by decide +kernel
theorem dX6_takeNumber_95 : decode cX6_takeNumber 95 = .ok (.istore_n 2, 1) := by decide +kernel
theorem dX6_takeNumber_96 : decode cX6_takeNumber 96 = .ok (.iload_n 2, 1) := by decide +kernel
theorem dX6_takeNumber_97 : decode cX6_takeNumber 97 = .ok (.ifCond .ne 15, 3) := by decide +kernel
theorem dX6_takeNumber_100 : decode cX6_takeNumber 100 = .ok (.aload_n 0, 1) := by decide +kernel
theorem dX6_takeNumber_101 : decode cX6_takeNumber 101 = .ok (.getfield 25, 3) := by decide +kernel
theorem dX6_takeNumber_104 : decode cX6_takeNumber 104 = .ok (.iload_n 1, 1) := by decide +kernel
theorem dX6_takeNumber_105 : decode cX6_takeNumber 105 = .ok (.if_icmp .gt 7, 3) := by decide +kernel
theorem dX6_takeNumber_108 : decode cX6_takeNumber 108 = .ok (.iconst 1, 1) := by decide +kernel
theorem dX6_takeNumber_109 : decode cX6_takeNumber 109 = .ok (.goto 4, 3) := by decide +kernel
theorem dX6_takeNumber_112 : decode cX6_takeNumber 112 = .ok (.iconst 0, 1) := by decide +kernel
theorem dX6_takeNumber_113 : decode cX6_takeNumber 113 = .ok (.ireturn, 1) := by decide +kernel
set_option maxRecDepth 20000 in
theorem ggX6_take_X6_sortOf : GoodIn wsX6_take wsX6_sortOf := goodIn_r _ [8] (by decide +kernel) (by decide +kernel)
set_option maxRecDepth 20000 in
theorem gX6_take_X6_sortOf : GoodIn wsX6_take (va_wsS RX6 77 yX6_sortOf wsX6_sortOf) := goodIn_app (goodIn_of _ (by decide +kernel)) ggX6_take_X6_sortOf
theorem dX6_take_0 : decode cX6_take 0 = .ok (.aload_n 0, 1) := by decide +kernel
theorem dX6_take_1 : decode cX6_take 1 = .ok (.getfield 19, 3) := by decide +kernel
theorem dX6_take_4 : decode cX6_take 4 = .ok (.aload_n 0, 1) := by decide +kernel
theorem dX6_take_5 : decode cX6_take 5 = .ok (.getfield 15, 3) := by decide +kernel
theorem dX6_take_8 : decode cX6_take 8 = .ok (.if_icmp .ge 30, 3) := by decide +kernel
theorem dX6_take_11 : decode cX6_take 11 = .ok (.aload_n 0, 1) := by decide +kernel
theorem dX6_take_12 : decode cX6_take 12 = .ok (.getfield 9, 3) := by decide +kernel
theorem dX6_take_15 : decode cX6_take 15 = .ok (.aload_n 0, 1) := by decide +kernel
theorem dX6_take_16 : decode cX6_take 16 = .ok (.getfield 19, 3) := by decide +kernel
theorem dX6_take_19 : decode cX6_take 19 = .ok (.baload, 1) := by decide +kernel
theorem dX6_take_20 : decode cX6_take 20 = .ok (.bipush 32, 2) := by decide +kernel
theorem dX6_take_22 : decode cX6_take 22 = .ok (.if_icmp .ne 16, 3) := by decide +kernel
theorem dX6_take_25 : decode cX6_take 25 = .ok (.aload_n 0, 1) := by decide +kernel
theorem dX6_take_26 : decode cX6_take 26 = .ok (.dup, 1) := by decide +kernel
theorem dX6_take_27 : decode cX6_take 27 = .ok (.getfield 19, 3) := by decide +kernel
theorem dX6_take_30 : decode cX6_take 30 = .ok (.iconst 1, 1) := by decide +kernel
theorem dX6_take_31 : decode cX6_take 31 = .ok (.iadd, 1) := by decide +kernel
theorem dX6_take_32 : decode cX6_take 32 = .ok (.putfield 19, 3) := by decide +kernel
theorem dX6_take_35 : decode cX6_take 35 = .ok (.goto (-35), 3) := by decide +kernel
theorem dX6_take_38 : decode cX6_take 38 = .ok (.aload_n 0, 1) := by decide +kernel
theorem dX6_take_39 : decode cX6_take 39 = .ok (.aload_n 0, 1) := by decide +kernel
theorem dX6_take_40 : decode cX6_take 40 = .ok (.getfield 19, 3) := by decide +kernel
theorem dX6_take_43 : decode cX6_take 43 = .ok (.putfield 22, 3) := by decide +kernel
theorem dX6_take_46 : decode cX6_take 46 = .ok (.aload_n 0, 1) := by decide +kernel
theorem dX6_take_47 : decode cX6_take 47 = .ok (.getfield 19, 3) := by decide +kernel
theorem dX6_take_50 : decode cX6_take 50 = .ok (.aload_n 0, 1) := by decide +kernel
theorem dX6_take_51 : decode cX6_take 51 = .ok (.getfield 15, 3) := by decide +kernel
theorem dX6_take_54 : decode cX6_take 54 = .ok (.if_icmp .lt 5, 3) := by decide +kernel
theorem dX6_take_57 : decode cX6_take 57 = .ok (.iconst 0, 1) := by decide +kernel
theorem dX6_take_58 : decode cX6_take 58 = .ok (.ireturn, 1) := by decide +kernel
theorem dX6_take_59 : decode cX6_take 59 = .ok (.aload_n 0, 1) := by decide +kernel
theorem dX6_take_60 : decode cX6_take 60 = .ok (.getfield 9, 3) := by decide +kernel
theorem dX6_take_63 : decode cX6_take 63 = .ok (.aload_n 0, 1) := by decide +kernel
theorem dX6_take_64 : decode cX6_take 64 = .ok (.getfield 19, 3) := by decide +kernel
theorem dX6_take_67 : decode cX6_take 67 = .ok (.baload, 1) := by decide +kernel
theorem dX6_take_68 : decode cX6_take 68 = .ok (.invokestatic 77, 3) := by decide +kernel
theorem dX6_take_71 : decode cX6_take 71 = .ok (.istore_n 1, 1) := by decide +kernel
theorem dX6_take_72 : decode cX6_take 72 = .ok (.aload_n 0, 1) := by decide +kernel
theorem dX6_take_73 : decode cX6_take 73 = .ok (.dup, 1) := by decide +kernel
theorem dX6_take_74 : decode cX6_take 74 = .ok (.getfield 19, 3) := by decide +kernel
theorem dX6_take_77 : decode cX6_take 77 = .ok (.iconst 1, 1) := by decide +kernel
theorem dX6_take_78 : decode cX6_take 78 = .ok (.iadd, 1) := by decide +kernel
theorem dX6_take_79 : decode cX6_take 79 = .ok (.putfield 19, 3) := by decide +kernel
theorem dX6_take_82 : decode cX6_take 82 = .ok (.iload_n 1, 1) := by decide +kernel
theorem dX6_take_83 : decode cX6_take 83 = .ok (.iconst 1, 1) := by decide +kernel
theorem dX6_take_84 : decode cX6_take 84 = .ok (.if_icmp .eq 8, 3) := by decide +kernel
theorem dX6_take_87 : decode cX6_take 87 = .ok (.iload_n 1, 1) := by decide +kernel
theorem dX6_take_88 : decode cX6_take 88 = .ok (.iconst 2, 1) := by decide +kernel
theorem dX6_take_89 : decode cX6_take 89 = .ok (.if_icmp .ne 43, 3) := by decide +kernel
theorem dX6_take_92 : decode cX6_take 92 = .ok (.aload_n 0, 1) := by decide +kernel
theorem dX6_take_93 : decode cX6_take 93 = .ok (.getfield 19, 3) := by decide +kernel
theorem dX6_take_96 : decode cX6_take 96 = .ok (.aload_n 0, 1) := by decide +kernel
theorem dX6_take_97 : decode cX6_take 97 = .ok (.getfield 15, 3) := by decide +kernel
theorem dX6_take_100 : decode cX6_take 100 = .ok (.if_icmp .ge 32, 3) := by decide +kernel
theorem dX6_take_103 : decode cX6_take 103 = .ok (.aload_n 0, 1) := by decide +kernel
theorem dX6_take_104 : decode cX6_take 104 = .ok (.getfield 9, 3) := by decide +kernel
theorem dX6_take_107 : decode cX6_take 107 = .ok (.aload_n 0, 1) := by decide +kernel
theorem dX6_take_108 : decode cX6_take 108 = .ok (.getfield 19, 3) := by decide +kernel
theorem dX6_take_111 : decode cX6_take 111 = .ok (.baload, 1) := by decide +kernel
theorem dX6_take_112 : decode cX6_take 112 = .ok (.invokestatic 77, 3) := by decide +kernel
theorem dX6_take_115 : decode cX6_take 115 = .ok (.iload_n 1, 1) := by decide +kernel
theorem dX6_take_116 : decode cX6_take 116 = .ok (.if_icmp .ne 16, 3) := by decide +kernel
theorem dX6_take_119 : decode cX6_take 119 = .ok (.aload_n 0, 1) := by decide +kernel
theorem dX6_take_120 : decode cX6_take 120 = .ok (.dup, 1) := by decide +kernel
theorem dX6_take_121 : decode cX6_take 121 = .ok (.getfield 19, 3) := by decide +kernel
theorem dX6_take_124 : decode cX6_take 124 = .ok (.iconst 1, 1) := by decide +kernel
theorem dX6_take_125 : decode cX6_take 125 = .ok (.iadd, 1) := by decide +kernel
theorem dX6_take_126 : decode cX6_take 126 = .ok (.putfield 19, 3) := by decide +kernel
theorem dX6_take_129 : decode cX6_take 129 = .ok (.goto (-37), 3) := by decide +kernel
theorem dX6_take_132 : decode cX6_take 132 = .ok (.iload_n 1, 1) := by decide +kernel
theorem dX6_take_133 : decode cX6_take 133 = .ok (.ireturn, 1) := by decide +kernel
theorem dX6_sortOf_0 : decode cX6_sortOf 0 = .ok (.iload_n 0, 1) := by decide +kernel
theorem dX6_sortOf_1 : decode cX6_sortOf 1 = .ok (.bipush 97, 2) := by decide +kernel
theorem dX6_sortOf_3 : decode cX6_sortOf 3 = .ok (.if_icmp .lt 11, 3) := by decide +kernel
theorem dX6_sortOf_6 : decode cX6_sortOf 6 = .ok (.iload_n 0, 1) := by decide +kernel
theorem dX6_sortOf_7 : decode cX6_sortOf 7 = .ok (.bipush 122, 2) := by decide +kernel
theorem dX6_sortOf_9 : decode cX6_sortOf 9 = .ok (.if_icmp .gt 5, 3) := by decide +kernel
theorem dX6_sortOf_12 : decode cX6_sortOf 12 = .ok (.iconst 1, 1) := by decide +kernel
theorem dX6_sortOf_13 : decode cX6_sortOf 13 = .ok (.ireturn, 1) := by decide +kernel
theorem dX6_sortOf_14 : decode cX6_sortOf 14 = .ok (.iload_n 0, 1) := by decide +kernel
theorem dX6_sortOf_15 : decode cX6_sortOf 15 = .ok (.bipush 48, 2) := by decide +kernel
theorem dX6_sortOf_17 : decode cX6_sortOf 17 = .ok (.if_icmp .lt 11, 3) := by decide +kernel
theorem dX6_sortOf_20 : decode cX6_sortOf 20 = .ok (.iload_n 0, 1) := by decide +kernel
theorem dX6_sortOf_21 : decode cX6_sortOf 21 = .ok (.bipush 57, 2) := by decide +kernel
theorem dX6_sortOf_23 : decode cX6_sortOf 23 = .ok (.if_icmp .gt 5, 3) := by decide +kernel
theorem dX6_sortOf_26 : decode cX6_sortOf 26 = .ok (.iconst 2, 1) := by decide +kernel
theorem dX6_sortOf_27 : decode cX6_sortOf 27 = .ok (.ireturn, 1) := by decide +kernel
theorem dX6_sortOf_28 : decode cX6_sortOf 28 = .ok (.iload_n 0, 1) := by decide +kernel
theorem dX6_sortOf_29 : decode cX6_sortOf 29 = .ok (.bipush 59, 2) := by decide +kernel
theorem dX6_sortOf_31 : decode cX6_sortOf 31 = .ok (.if_icmp .ne 7, 3) := by decide +kernel
theorem dX6_sortOf_34 : decode cX6_sortOf 34 = .ok (.iconst 3, 1) := by decide +kernel
theorem dX6_sortOf_35 : decode cX6_sortOf 35 = .ok (.goto 4, 3) := by decide +kernel
theorem dX6_sortOf_38 : decode cX6_sortOf 38 = .ok (.iconst 4, 1) := by decide +kernel
theorem dX6_sortOf_39 : decode cX6_sortOf 39 = .ok (.ireturn, 1) := by decide +kernel
set_option maxRecDepth 20000 in
theorem ggX6_tookWord_J0_length_8abf5 : GoodIn wsX6_tookWord wsJ0_length_8abf5 := goodIn_r _ [8, 9, 10, 11, 12, 7, 13, 14, 15] (by decide +kernel) (by decide +kernel)
set_option maxRecDepth 20000 in
theorem gX6_tookWord_J0_length_8abf5 : GoodIn wsX6_tookWord (wsV RX6 81 RJ0 yJ0_length_8abf5 wsJ0_length_8abf5) := goodIn_app (goodIn_of _ (by decide +kernel)) ggX6_tookWord_J0_length_8abf5
set_option maxRecDepth 20000 in
theorem ggX6_tookWord_J0_charAt_5068e : GoodIn wsX6_tookWord wsJ0_charAt_5068e := goodIn_r _ [19, 9, 20, 21, 22, 7, 23, 14, 15, 24, 25, 26, 27, 28, 29, 30, 31, 32, 33, 34, 35, 36, 37, 38, 39, 40, 41, 42, 43, 44, 45, 46, 47, 48, 49, 50, 51, 52] (by decide +kernel) (by decide +kernel)
set_option maxRecDepth 20000 in
theorem gX6_tookWord_J0_charAt_5068e : GoodIn wsX6_tookWord (wsV RX6 85 RJ0 yJ0_charAt_5068e wsJ0_charAt_5068e) := goodIn_app (goodIn_of _ (by decide +kernel)) ggX6_tookWord_J0_charAt_5068e
theorem dX6_tookWord_0 : decode cX6_tookWord 0 = .ok (.aload_n 0, 1) := by decide +kernel
theorem dX6_tookWord_1 : decode cX6_tookWord 1 = .ok (.getfield 19, 3) := by decide +kernel
theorem dX6_tookWord_4 : decode cX6_tookWord 4 = .ok (.aload_n 0, 1) := by decide +kernel
theorem dX6_tookWord_5 : decode cX6_tookWord 5 = .ok (.getfield 22, 3) := by decide +kernel
theorem dX6_tookWord_8 : decode cX6_tookWord 8 = .ok (.isub, 1) := by decide +kernel
theorem dX6_tookWord_9 : decode cX6_tookWord 9 = .ok (.aload_n 1, 1) := by decide +kernel
theorem dX6_tookWord_10 : decode cX6_tookWord 10 = .ok (.invokevirtual 81, 3) := by decide +kernel
theorem dX6_tookWord_13 : decode cX6_tookWord 13 = .ok (.if_icmp .eq 5, 3) := by decide +kernel
theorem dX6_tookWord_16 : decode cX6_tookWord 16 = .ok (.iconst 0, 1) := by decide +kernel
theorem dX6_tookWord_17 : decode cX6_tookWord 17 = .ok (.ireturn, 1) := by decide +kernel
theorem dX6_tookWord_18 : decode cX6_tookWord 18 = .ok (.iconst 0, 1) := by decide +kernel
theorem dX6_tookWord_19 : decode cX6_tookWord 19 = .ok (.istore_n 2, 1) := by decide +kernel
theorem dX6_tookWord_20 : decode cX6_tookWord 20 = .ok (.iload_n 2, 1) := by decide +kernel
theorem dX6_tookWord_21 : decode cX6_tookWord 21 = .ok (.aload_n 1, 1) := by decide +kernel
theorem dX6_tookWord_22 : decode cX6_tookWord 22 = .ok (.invokevirtual 81, 3) := by decide +kernel
theorem dX6_tookWord_25 : decode cX6_tookWord 25 = .ok (.if_icmp .ge 30, 3) := by decide +kernel
theorem dX6_tookWord_28 : decode cX6_tookWord 28 = .ok (.aload_n 0, 1) := by decide +kernel
theorem dX6_tookWord_29 : decode cX6_tookWord 29 = .ok (.getfield 9, 3) := by decide +kernel
theorem dX6_tookWord_32 : decode cX6_tookWord 32 = .ok (.aload_n 0, 1) := by decide +kernel
theorem dX6_tookWord_33 : decode cX6_tookWord 33 = .ok (.getfield 22, 3) := by decide +kernel
theorem dX6_tookWord_36 : decode cX6_tookWord 36 = .ok (.iload_n 2, 1) := by decide +kernel
theorem dX6_tookWord_37 : decode cX6_tookWord 37 = .ok (.iadd, 1) := by decide +kernel
theorem dX6_tookWord_38 : decode cX6_tookWord 38 = .ok (.baload, 1) := by decide +kernel
theorem dX6_tookWord_39 : decode cX6_tookWord 39 = .ok (.aload_n 1, 1) := by decide +kernel
theorem dX6_tookWord_40 : decode cX6_tookWord 40 = .ok (.iload_n 2, 1) := by decide +kernel
theorem dX6_tookWord_41 : decode cX6_tookWord 41 = .ok (.invokevirtual 85, 3) := by decide +kernel
theorem dX6_tookWord_44 : decode cX6_tookWord 44 = .ok (.if_icmp .eq 5, 3) := by decide +kernel
theorem dX6_tookWord_47 : decode cX6_tookWord 47 = .ok (.iconst 0, 1) := by decide +kernel
theorem dX6_tookWord_48 : decode cX6_tookWord 48 = .ok (.ireturn, 1) := by decide +kernel
theorem dX6_tookWord_49 : decode cX6_tookWord 49 = .ok (.iinc 2 1, 3) := by decide +kernel
theorem dX6_tookWord_52 : decode cX6_tookWord 52 = .ok (.goto (-32), 3) := by decide +kernel
theorem dX6_tookWord_55 : decode cX6_tookWord 55 = .ok (.iconst 1, 1) := by decide +kernel
theorem dX6_tookWord_56 : decode cX6_tookWord 56 = .ok (.ireturn, 1) := by decide +kernel
set_option maxRecDepth 20000 in
theorem ggX7_init_X6_init : GoodIn wsX7_init wsX6_init := goodIn_r _ [32, 33, 2, 3, 34, 35, 36, 37, 38, 39, 100, 101, 102, 103, 104] (by decide +kernel) (by decide +kernel)
set_option maxRecDepth 20000 in
theorem gX7_init_X6_init_n9 : GoodIn wsX7_init (wsX6_init) := ggX7_init_X6_init
set_option maxRecDepth 20000 in
theorem ggX7_init_X2_init : GoodIn wsX7_init wsX2_init := goodIn_r _ [41, 42, 2, 3, 43, 44, 45, 46, 47, 48, 114, 115, 116, 117, 118] (by decide +kernel) (by decide +kernel)
set_option maxRecDepth 20000 in
theorem gX7_init_X2_init_n18 : GoodIn wsX7_init (wsX2_init) := ggX7_init_X2_init
set_option maxRecDepth 20000 in
theorem ggX7_init_X5_init : GoodIn wsX7_init wsX5_init := goodIn_r _ [50, 51, 2, 3, 43, 52, 53, 54, 55, 56, 119, 120, 121, 122, 123] (by decide +kernel) (by decide +kernel)
set_option maxRecDepth 20000 in
theorem gX7_init_X5_init_n29 : GoodIn wsX7_init (wsX5_init) := ggX7_init_X5_init
set_option maxRecDepth 20000 in
theorem ggX7_init_X1_init : GoodIn wsX7_init wsX1_init := goodIn_r _ [58, 59, 2, 3, 43, 60, 61, 124, 125] (by decide +kernel) (by decide +kernel)
set_option maxRecDepth 20000 in
theorem gX7_init_X1_init_n36 : GoodIn wsX7_init (wsX1_init) := ggX7_init_X1_init
set_option maxRecDepth 20000 in
theorem ggX7_init_X4_init : GoodIn wsX7_init wsX4_init := goodIn_r _ [63, 64, 2, 3, 43, 65, 66, 67, 68, 126, 127, 128, 129] (by decide +kernel) (by decide +kernel)
set_option maxRecDepth 20000 in
theorem gX7_init_X4_init_n43 : GoodIn wsX7_init (wsX4_init) := ggX7_init_X4_init
set_option maxRecDepth 20000 in
theorem ggX7_init_X3_init : GoodIn wsX7_init wsX3_init := goodIn_r _ [71, 72, 2, 3, 73, 74, 75, 76, 77, 78, 79, 80, 81, 82, 27, 83, 84, 85, 86, 87, 130, 131, 132, 133, 134, 135, 136, 137, 138] (by decide +kernel) (by decide +kernel)
set_option maxRecDepth 20000 in
theorem gX7_init_X3_init : GoodIn wsX7_init (wsX3_init) := ggX7_init_X3_init
set_option maxRecDepth 20000 in
theorem ggX7_init_X2_begin : GoodIn wsX7_init wsX2_begin := goodIn_r _ [91, 47, 92, 93, 94, 10, 95, 44, 45, 46, 96, 97, 98, 99, 114, 115, 116, 117, 118] (by decide +kernel) (by decide +kernel)
set_option maxRecDepth 20000 in
theorem gX7_init_X2_begin : GoodIn wsX7_init (wsV RX7 69 RX2 yX2_begin wsX2_begin) := goodIn_app (goodIn_of _ (by decide +kernel)) ggX7_init_X2_begin
theorem dX7_init_0 : decode cX7_init 0 = .ok (.aload_n 0, 1) := by decide +kernel
theorem dX7_init_1 : decode cX7_init 1 = .ok (.invokespecial 1, 3) := by decide +kernel
theorem dX7_init_4 : decode cX7_init 4 = .ok (.aload_n 0, 1) := by decide +kernel
theorem dX7_init_5 : decode cX7_init 5 = .ok (.new 7, 3) := by decide +kernel
theorem dX7_init_8 : decode cX7_init 8 = .ok (.dup, 1) := by decide +kernel
theorem dX7_init_9 : decode cX7_init 9 = .ok (.invokespecial 9, 3) := by decide +kernel
theorem dX7_init_12 : decode cX7_init 12 = .ok (.putfield 10, 3) := by decide +kernel
theorem dX7_init_15 : decode cX7_init 15 = .ok (.aload_n 0, 1) := by decide +kernel
theorem dX7_init_16 : decode cX7_init 16 = .ok (.new 16, 3) := by decide +kernel
theorem dX7_init_19 : decode cX7_init 19 = .ok (.dup, 1) := by decide +kernel
theorem dX7_init_20 : decode cX7_init 20 = .ok (.invokespecial 18, 3) := by decide +kernel
theorem dX7_init_23 : decode cX7_init 23 = .ok (.putfield 19, 3) := by decide +kernel
theorem dX7_init_26 : decode cX7_init 26 = .ok (.aload_n 0, 1) := by decide +kernel
theorem dX7_init_27 : decode cX7_init 27 = .ok (.iconst 2, 1) := by decide +kernel
theorem dX7_init_28 : decode cX7_init 28 = .ok (.anewarray 16, 3) := by decide +kernel
theorem dX7_init_31 : decode cX7_init 31 = .ok (.dup, 1) := by decide +kernel
theorem dX7_init_32 : decode cX7_init 32 = .ok (.iconst 0, 1) := by decide +kernel
theorem dX7_init_33 : decode cX7_init 33 = .ok (.new 16, 3) := by decide +kernel
theorem dX7_init_36 : decode cX7_init 36 = .ok (.dup, 1) := by decide +kernel
theorem dX7_init_37 : decode cX7_init 37 = .ok (.invokespecial 18, 3) := by decide +kernel
theorem dX7_init_40 : decode cX7_init 40 = .ok (.aastore, 1) := by decide +kernel
theorem dX7_init_41 : decode cX7_init 41 = .ok (.dup, 1) := by decide +kernel
theorem dX7_init_42 : decode cX7_init 42 = .ok (.iconst 1, 1) := by decide +kernel
theorem dX7_init_43 : decode cX7_init 43 = .ok (.new 16, 3) := by decide +kernel
theorem dX7_init_46 : decode cX7_init 46 = .ok (.dup, 1) := by decide +kernel
theorem dX7_init_47 : decode cX7_init 47 = .ok (.invokespecial 18, 3) := by decide +kernel
theorem dX7_init_50 : decode cX7_init 50 = .ok (.aastore, 1) := by decide +kernel
theorem dX7_init_51 : decode cX7_init 51 = .ok (.putfield 23, 3) := by decide +kernel
theorem dX7_init_54 : decode cX7_init 54 = .ok (.aload_n 0, 1) := by decide +kernel
theorem dX7_init_55 : decode cX7_init 55 = .ok (.new 27, 3) := by decide +kernel
theorem dX7_init_58 : decode cX7_init 58 = .ok (.dup, 1) := by decide +kernel
theorem dX7_init_59 : decode cX7_init 59 = .ok (.invokespecial 29, 3) := by decide +kernel
theorem dX7_init_62 : decode cX7_init 62 = .ok (.putfield 30, 3) := by decide +kernel
theorem dX7_init_65 : decode cX7_init 65 = .ok (.aload_n 0, 1) := by decide +kernel
theorem dX7_init_66 : decode cX7_init 66 = .ok (.new 34, 3) := by decide +kernel
theorem dX7_init_69 : decode cX7_init 69 = .ok (.dup, 1) := by decide +kernel
theorem dX7_init_70 : decode cX7_init 70 = .ok (.invokespecial 36, 3) := by decide +kernel
theorem dX7_init_73 : decode cX7_init 73 = .ok (.putfield 37, 3) := by decide +kernel
theorem dX7_init_76 : decode cX7_init 76 = .ok (.aload_n 0, 1) := by decide +kernel
theorem dX7_init_77 : decode cX7_init 77 = .ok (.new 41, 3) := by decide +kernel
theorem dX7_init_80 : decode cX7_init 80 = .ok (.dup, 1) := by decide +kernel
theorem dX7_init_81 : decode cX7_init 81 = .ok (.invokespecial 43, 3) := by decide +kernel
theorem dX7_init_84 : decode cX7_init 84 = .ok (.putfield 44, 3) := by decide +kernel
theorem dX7_init_87 : decode cX7_init 87 = .ok (.aload_n 0, 1) := by decide +kernel
theorem dX7_init_88 : decode cX7_init 88 = .ok (.new 48, 3) := by decide +kernel
theorem dX7_init_91 : decode cX7_init 91 = .ok (.dup, 1) := by decide +kernel
theorem dX7_init_92 : decode cX7_init 92 = .ok (.invokespecial 50, 3) := by decide +kernel
theorem dX7_init_95 : decode cX7_init 95 = .ok (.putfield 51, 3) := by decide +kernel
theorem dX7_init_98 : decode cX7_init 98 = .ok (.aload_n 0, 1) := by decide +kernel
theorem dX7_init_99 : decode cX7_init 99 = .ok (.new 48, 3) := by decide +kernel
theorem dX7_init_102 : decode cX7_init 102 = .ok (.dup, 1) := by decide +kernel
theorem dX7_init_103 : decode cX7_init 103 = .ok (.invokespecial 50, 3) := by decide +kernel
theorem dX7_init_106 : decode cX7_init 106 = .ok (.putfield 55, 3) := by decide +kernel
theorem dX7_init_109 : decode cX7_init 109 = .ok (.aload_n 0, 1) := by decide +kernel
theorem dX7_init_110 : decode cX7_init 110 = .ok (.lconst 0, 1) := by decide +kernel
theorem dX7_init_111 : decode cX7_init 111 = .ok (.putfield 58, 3) := by decide +kernel
theorem dX7_init_114 : decode cX7_init 114 = .ok (.aload_n 0, 1) := by decide +kernel
theorem dX7_init_115 : decode cX7_init 115 = .ok (.getfield 19, 3) := by decide +kernel
theorem dX7_init_118 : decode cX7_init 118 = .ok (.aload_n 0, 1) := by decide +kernel
theorem dX7_init_119 : decode cX7_init 119 = .ok (.getfield 51, 3) := by decide +kernel
theorem dX7_init_122 : decode cX7_init 122 = .ok (.getfield 62, 3) := by decide +kernel
theorem dX7_init_125 : decode cX7_init 125 = .ok (.aload_n 0, 1) := by decide +kernel
theorem dX7_init_126 : decode cX7_init 126 = .ok (.getfield 51, 3) := by decide +kernel
theorem dX7_init_129 : decode cX7_init 129 = .ok (.getfield 66, 3) := by decide +kernel
theorem dX7_init_132 : decode cX7_init 132 = .ok (.invokevirtual 69, 3) := by decide +kernel
theorem dX7_init_135 : decode cX7_init 135 = .ok (.return_, 1) := by decide +kernel
set_option maxRecDepth 20000 in
theorem ggX7_type_X6_append : GoodIn wsX7_type wsX6_append := goodIn_r _ [6, 7, 8, 18, 19, 20, 21, 22] (by decide +kernel) (by decide +kernel)
set_option maxRecDepth 20000 in
theorem gX7_type_X6_append : GoodIn wsX7_type (wsV RX7 76 RX6 yX6_append wsX6_append) := goodIn_app (goodIn_of _ (by decide +kernel)) ggX7_type_X6_append
theorem dX7_type_0 : decode cX7_type 0 = .ok (.iload_n 3, 1) := by decide +kernel
theorem dX7_type_1 : decode cX7_type 1 = .ok (.iconst 1, 1) := by decide +kernel
theorem dX7_type_2 : decode cX7_type 2 = .ok (.if_icmp .lt 9, 3) := by decide +kernel
theorem dX7_type_5 : decode cX7_type 5 = .ok (.iload_n 3, 1) := by decide +kernel
theorem dX7_type_6 : decode cX7_type 6 = .ok (.bipush 8, 2) := by decide +kernel
theorem dX7_type_8 : decode cX7_type 8 = .ok (.if_icmp .le 5, 3) := by decide +kernel
theorem dX7_type_11 : decode cX7_type 11 = .ok (.iconst (-1), 1) := by decide +kernel
theorem dX7_type_12 : decode cX7_type 12 = .ok (.ireturn, 1) := by decide +kernel
theorem dX7_type_13 : decode cX7_type 13 = .ok (.iload_n 3, 1) := by decide +kernel
theorem dX7_type_14 : decode cX7_type 14 = .ok (.sipush 200, 3) := by decide +kernel
theorem dX7_type_17 : decode cX7_type 17 = .ok (.aload_n 0, 1) := by decide +kernel
theorem dX7_type_18 : decode cX7_type 18 = .ok (.getfield 10, 3) := by decide +kernel
theorem dX7_type_21 : decode cX7_type 21 = .ok (.getfield 73, 3) := by decide +kernel
theorem dX7_type_24 : decode cX7_type 24 = .ok (.isub, 1) := by decide +kernel
theorem dX7_type_25 : decode cX7_type 25 = .ok (.if_icmp .le 6, 3) := by decide +kernel
theorem dX7_type_28 : decode cX7_type 28 = .ok (.bipush (-3), 2) := by decide +kernel
theorem dX7_type_30 : decode cX7_type 30 = .ok (.ireturn, 1) := by decide +kernel
theorem dX7_type_31 : decode cX7_type 31 = .ok (.aload_n 0, 1) := by decide +kernel
theorem dX7_type_32 : decode cX7_type 32 = .ok (.getfield 10, 3) := by decide +kernel
theorem dX7_type_35 : decode cX7_type 35 = .ok (.lload_n 1, 1) := by decide +kernel
theorem dX7_type_36 : decode cX7_type 36 = .ok (.iload_n 3, 1) := by decide +kernel
theorem dX7_type_37 : decode cX7_type 37 = .ok (.invokevirtual 76, 3) := by decide +kernel
theorem dX7_type_40 : decode cX7_type 40 = .ok (.aload_n 0, 1) := by decide +kernel
theorem dX7_type_41 : decode cX7_type 41 = .ok (.getfield 10, 3) := by decide +kernel
theorem dX7_type_44 : decode cX7_type 44 = .ok (.getfield 73, 3) := by decide +kernel
theorem dX7_type_47 : decode cX7_type 47 = .ok (.ireturn, 1) := by decide +kernel
theorem dX7_clear_0 : decode cX7_clear 0 = .ok (.aload_n 0, 1) := by decide +kernel
theorem dX7_clear_1 : decode cX7_clear 1 = .ok (.getfield 10, 3) := by decide +kernel
theorem dX7_clear_4 : decode cX7_clear 4 = .ok (.getfield 73, 3) := by decide +kernel
theorem dX7_clear_7 : decode cX7_clear 7 = .ok (.istore_n 1, 1) := by decide +kernel
theorem dX7_clear_8 : decode cX7_clear 8 = .ok (.aload_n 0, 1) := by decide +kernel
theorem dX7_clear_9 : decode cX7_clear 9 = .ok (.getfield 10, 3) := by decide +kernel
theorem dX7_clear_12 : decode cX7_clear 12 = .ok (.iconst 0, 1) := by decide +kernel
theorem dX7_clear_13 : decode cX7_clear 13 = .ok (.putfield 73, 3) := by decide +kernel
theorem dX7_clear_16 : decode cX7_clear 16 = .ok (.iload_n 1, 1) := by decide +kernel
theorem dX7_clear_17 : decode cX7_clear 17 = .ok (.ireturn, 1) := by decide +kernel
set_option maxRecDepth 20000 in
theorem ggX7_chancery_X6_readInto : GoodIn wsX7_chancery wsX6_readInto := goodIn_r _ [8, 9, 10, 11, 12, 13, 14, 15, 16, 17, 18, 19, 20, 21, 7, 22, 23, 24, 25, 26, 27, 28, 29, 30, 31, 32, 33, 34, 35, 36, 37, 38, 39, 40, 41, 42, 43, 44, 45, 46, 47, 48, 49, 50, 51, 52, 53, 54, 55, 56, 57, 58, 59, 60, 61, 62, 63, 64, 65, 66, 67, 68, 69, 70, 71, 72, 73, 74, 75, 76, 77, 78, 79, 80, 81, 82, 83, 84, 85, 86, 87, 88, 89, 90, 91, 92, 93, 94, 95, 96, 97, 98, 99, 100, 101, 102, 103, 104, 105, 106, 107, 143, 144, 145, 146, 147, 148, 149, 150, 151, 152, 153, 154, 155, 156] (by decide +kernel) (by decide +kernel)
set_option maxRecDepth 20000 in
theorem gX7_chancery_X6_readInto : GoodIn wsX7_chancery (wsV RX7 80 RX6 yX6_readInto wsX6_readInto) := goodIn_app (goodIn_of _ (by decide +kernel)) ggX7_chancery_X6_readInto
set_option maxRecDepth 20000 in
theorem ggX7_chancery_X7_beginAnew : GoodIn wsX7_chancery wsX7_beginAnew := goodIn_r _ [112, 1, 113, 3, 114, 115, 116, 117, 118, 119, 120, 121, 122, 123, 124, 125, 126, 127, 128, 129, 130, 131, 132, 133, 134, 135, 136, 137, 138, 139, 140, 141, 142, 143, 144, 145, 146, 147, 148, 149, 150, 151, 152, 157, 158, 159, 160, 161, 162, 163, 164, 165, 166, 167, 168] (by decide +kernel) (by decide +kernel)
set_option maxRecDepth 20000 in
theorem gX7_chancery_X7_beginAnew : GoodIn wsX7_chancery (wsV RX7 84 RX7 yX7_beginAnew wsX7_beginAnew) := goodIn_app (goodIn_of _ (by decide +kernel)) ggX7_chancery_X7_beginAnew
theorem dX7_chancery_0 : decode cX7_chancery 0 = .ok (.aload_n 0, 1) := by decide +kernel
theorem dX7_chancery_1 : decode cX7_chancery 1 = .ok (.getfield 10, 3) := by decide +kernel
theorem dX7_chancery_4 : decode cX7_chancery 4 = .ok (.aload_n 0, 1) := by decide +kernel
theorem dX7_chancery_5 : decode cX7_chancery 5 = .ok (.getfield 55, 3) := by decide +kernel
theorem dX7_chancery_8 : decode cX7_chancery 8 = .ok (.invokevirtual 80, 3) := by decide +kernel
theorem dX7_chancery_11 : decode cX7_chancery 11 = .ok (.istore_n 1, 1) := by decide +kernel
theorem dX7_chancery_12 : decode cX7_chancery 12 = .ok (.iload_n 1, 1) := by decide +kernel
theorem dX7_chancery_13 : decode cX7_chancery 13 = .ok (.ifCond .ge 5, 3) := by decide +kernel
theorem dX7_chancery_16 : decode cX7_chancery 16 = .ok (.iload_n 1, 1) := by decide +kernel
theorem dX7_chancery_17 : decode cX7_chancery 17 = .ok (.ireturn, 1) := by decide +kernel
theorem dX7_chancery_18 : decode cX7_chancery 18 = .ok (.aload_n 0, 1) := by decide +kernel
theorem dX7_chancery_19 : decode cX7_chancery 19 = .ok (.getfield 51, 3) := by decide +kernel
theorem dX7_chancery_22 : decode cX7_chancery 22 = .ok (.astore_n 2, 1) := by decide +kernel
theorem dX7_chancery_23 : decode cX7_chancery 23 = .ok (.aload_n 0, 1) := by decide +kernel
theorem dX7_chancery_24 : decode cX7_chancery 24 = .ok (.aload_n 0, 1) := by decide +kernel
theorem dX7_chancery_25 : decode cX7_chancery 25 = .ok (.getfield 55, 3) := by decide +kernel
theorem dX7_chancery_28 : decode cX7_chancery 28 = .ok (.putfield 51, 3) := by decide +kernel
theorem dX7_chancery_31 : decode cX7_chancery 31 = .ok (.aload_n 0, 1) := by decide +kernel
theorem dX7_chancery_32 : decode cX7_chancery 32 = .ok (.aload_n 2, 1) := by decide +kernel
theorem dX7_chancery_33 : decode cX7_chancery 33 = .ok (.putfield 55, 3) := by decide +kernel
theorem dX7_chancery_36 : decode cX7_chancery 36 = .ok (.aload_n 0, 1) := by decide +kernel
theorem dX7_chancery_37 : decode cX7_chancery 37 = .ok (.invokevirtual 84, 3) := by decide +kernel
theorem dX7_chancery_40 : decode cX7_chancery 40 = .ok (.iload_n 1, 1) := by decide +kernel
theorem dX7_chancery_41 : decode cX7_chancery 41 = .ok (.ireturn, 1) := by decide +kernel
set_option maxRecDepth 20000 in
theorem ggX7_clerk_X3_find : GoodIn wsX7_clerk wsX3_find := goodIn_r _ [6, 7, 8, 22, 23, 24, 25, 26] (by decide +kernel) (by decide +kernel)
set_option maxRecDepth 20000 in
theorem gX7_clerk_X3_find : GoodIn wsX7_clerk (wsV RX7 87 RX3 yX3_find wsX3_find) := goodIn_app (goodIn_of _ (by decide +kernel)) ggX7_clerk_X3_find
theorem dX7_clerk_0 : decode cX7_clerk 0 = .ok (.aload_n 0, 1) := by decide +kernel
theorem dX7_clerk_1 : decode cX7_clerk 1 = .ok (.getfield 51, 3) := by decide +kernel
theorem dX7_clerk_4 : decode cX7_clerk 4 = .ok (.iload_n 1, 1) := by decide +kernel
theorem dX7_clerk_5 : decode cX7_clerk 5 = .ok (.invokevirtual 87, 3) := by decide +kernel
theorem dX7_clerk_8 : decode cX7_clerk 8 = .ok (.astore_n 3, 1) := by decide +kernel
theorem dX7_clerk_9 : decode cX7_clerk 9 = .ok (.aload_n 3, 1) := by decide +kernel
theorem dX7_clerk_10 : decode cX7_clerk 10 = .ok (.ifnonnull 5, 3) := by decide +kernel
theorem dX7_clerk_13 : decode cX7_clerk 13 = .ok (.iconst (-1), 1) := by decide +kernel
theorem dX7_clerk_14 : decode cX7_clerk 14 = .ok (.ireturn, 1) := by decide +kernel
theorem dX7_clerk_15 : decode cX7_clerk 15 = .ok (.iload_n 2, 1) := by decide +kernel
theorem dX7_clerk_16 : decode cX7_clerk 16 = .ok (.tableswitch 52 0 3 #[32, 37, 42, 47], 32) := by decide +kernel
theorem dX7_clerk_48 : decode cX7_clerk 48 = .ok (.aload_n 3, 1) := by decide +kernel
theorem dX7_clerk_49 : decode cX7_clerk 49 = .ok (.getfield 91, 3) := by decide +kernel
theorem dX7_clerk_52 : decode cX7_clerk 52 = .ok (.ireturn, 1) := by decide +kernel
theorem dX7_clerk_53 : decode cX7_clerk 53 = .ok (.aload_n 3, 1) := by decide +kernel
theorem dX7_clerk_54 : decode cX7_clerk 54 = .ok (.getfield 96, 3) := by decide +kernel
theorem dX7_clerk_57 : decode cX7_clerk 57 = .ok (.ireturn, 1) := by decide +kernel
theorem dX7_clerk_58 : decode cX7_clerk 58 = .ok (.aload_n 3, 1) := by decide +kernel
theorem dX7_clerk_59 : decode cX7_clerk 59 = .ok (.getfield 99, 3) := by decide +kernel
theorem dX7_clerk_62 : decode cX7_clerk 62 = .ok (.ireturn, 1) := by decide +kernel
theorem dX7_clerk_63 : decode cX7_clerk 63 = .ok (.aload_n 3, 1) := by decide +kernel
theorem dX7_clerk_64 : decode cX7_clerk 64 = .ok (.getfield 102, 3) := by decide +kernel
theorem dX7_clerk_67 : decode cX7_clerk 67 = .ok (.ireturn, 1) := by decide +kernel
theorem dX7_clerk_68 : decode cX7_clerk 68 = .ok (.iconst (-1), 1) := by decide +kernel
theorem dX7_clerk_69 : decode cX7_clerk 69 = .ok (.ireturn, 1) := by decide +kernel
theorem dX7_line_0 : decode cX7_line 0 = .ok (.iload_n 1, 1) := by decide +kernel
theorem dX7_line_1 : decode cX7_line 1 = .ok (.ifCond .lt 14, 3) := by decide +kernel
theorem dX7_line_4 : decode cX7_line 4 = .ok (.iload_n 1, 1) := by decide +kernel
theorem dX7_line_5 : decode cX7_line 5 = .ok (.aload_n 0, 1) := by decide +kernel
theorem dX7_line_6 : decode cX7_line 6 = .ok (.getfield 19, 3) := by decide +kernel
theorem dX7_line_9 : decode cX7_line 9 = .ok (.getfield 105, 3) := by decide +kernel
theorem dX7_line_12 : decode cX7_line 12 = .ok (.if_icmp .lt 5, 3) := by decide +kernel
theorem dX7_line_15 : decode cX7_line 15 = .ok (.iconst (-1), 1) := by decide +kernel
theorem dX7_line_16 : decode cX7_line 16 = .ok (.ireturn, 1) := by decide +kernel
theorem dX7_line_17 : decode cX7_line 17 = .ok (.iload_n 2, 1) := by decide +kernel
theorem dX7_line_18 : decode cX7_line 18 = .ok (.tableswitch 56 0 2 #[26, 36, 46], 26) := by decide +kernel
theorem dX7_line_44 : decode cX7_line 44 = .ok (.aload_n 0, 1) := by decide +kernel
theorem dX7_line_45 : decode cX7_line 45 = .ok (.getfield 19, 3) := by decide +kernel
theorem dX7_line_48 : decode cX7_line 48 = .ok (.getfield 108, 3) := by decide +kernel
theorem dX7_line_51 : decode cX7_line 51 = .ok (.iload_n 1, 1) := by decide +kernel
theorem dX7_line_52 : decode cX7_line 52 = .ok (.iaload, 1) := by decide +kernel
theorem dX7_line_53 : decode cX7_line 53 = .ok (.ireturn, 1) := by decide +kernel
theorem dX7_line_54 : decode cX7_line 54 = .ok (.aload_n 0, 1) := by decide +kernel
theorem dX7_line_55 : decode cX7_line 55 = .ok (.getfield 19, 3) := by decide +kernel
theorem dX7_line_58 : decode cX7_line 58 = .ok (.getfield 112, 3) := by decide +kernel
theorem dX7_line_61 : decode cX7_line 61 = .ok (.iload_n 1, 1) := by decide +kernel
theorem dX7_line_62 : decode cX7_line 62 = .ok (.iaload, 1) := by decide +kernel
theorem dX7_line_63 : decode cX7_line 63 = .ok (.ireturn, 1) := by decide +kernel
theorem dX7_line_64 : decode cX7_line 64 = .ok (.aload_n 0, 1) := by decide +kernel
theorem dX7_line_65 : decode cX7_line 65 = .ok (.getfield 19, 3) := by decide +kernel
theorem dX7_line_68 : decode cX7_line 68 = .ok (.getfield 115, 3) := by decide +kernel
theorem dX7_line_71 : decode cX7_line 71 = .ok (.iload_n 1, 1) := by decide +kernel
theorem dX7_line_72 : decode cX7_line 72 = .ok (.iaload, 1) := by decide +kernel
theorem dX7_line_73 : decode cX7_line 73 = .ok (.ireturn, 1) := by decide +kernel
theorem dX7_line_74 : decode cX7_line 74 = .ok (.iconst (-1), 1) := by decide +kernel
theorem dX7_line_75 : decode cX7_line 75 = .ok (.ireturn, 1) := by decide +kernel
set_option maxRecDepth 20000 in
theorem ggX7_makes_X3_find : GoodIn wsX7_makes wsX3_find := goodIn_r _ [6, 7, 8, 49, 50, 51, 52, 53] (by decide +kernel) (by decide +kernel)
set_option maxRecDepth 20000 in
theorem gX7_makes_X3_find : GoodIn wsX7_makes (wsV RX7 87 RX3 yX3_find wsX3_find) := goodIn_app (goodIn_of _ (by decide +kernel)) ggX7_makes_X3_find
set_option maxRecDepth 20000 in
theorem ggX7_makes_X7_isLine : GoodIn wsX7_makes wsX7_isLine := goodIn_r _ [12, 13, 14, 11, 15] (by decide +kernel) (by decide +kernel)
set_option maxRecDepth 20000 in
theorem gX7_makes_X7_isLine : GoodIn wsX7_makes (va_wsS RX7 118 yX7_isLine wsX7_isLine) := goodIn_app (goodIn_of _ (by decide +kernel)) ggX7_makes_X7_isLine
set_option maxRecDepth 20000 in
theorem ggX7_makes_X0_toneBehind : GoodIn wsX7_makes wsX0_toneBehind := goodIn_r _ [20, 21, 22, 11, 23, 24, 25, 26, 27, 28, 29, 30, 54, 55, 56, 57] (by decide +kernel) (by decide +kernel)
set_option maxRecDepth 20000 in
theorem gX7_makes_X0_toneBehind : GoodIn wsX7_makes (wsV RX7 122 RX0 yX0_toneBehind wsX0_toneBehind) := goodIn_app (goodIn_of _ (by decide +kernel)) ggX7_makes_X0_toneBehind
set_option maxRecDepth 20000 in
theorem ggX7_makes_X0_marksBehind : GoodIn wsX7_makes wsX0_marksBehind := goodIn_r _ [34, 35, 36, 54, 55, 56, 57] (by decide +kernel) (by decide +kernel)
set_option maxRecDepth 20000 in
theorem gX7_makes_X0_marksBehind : GoodIn wsX7_makes (wsV RX7 126 RX0 yX0_marksBehind wsX0_marksBehind) := goodIn_app (goodIn_of _ (by decide +kernel)) ggX7_makes_X0_marksBehind
set_option maxRecDepth 20000 in
theorem ggX7_makes_X7_told : GoodIn wsX7_makes wsX7_told := goodIn_r _ [39] (by decide +kernel) (by decide +kernel)
set_option maxRecDepth 20000 in
theorem gX7_makes_X7_told : GoodIn wsX7_makes (va_wsS RX7 129 yX7_told wsX7_told) := goodIn_app (goodIn_of _ (by decide +kernel)) ggX7_makes_X7_told
theorem dX7_makes_0 : decode cX7_makes 0 = .ok (.aload_n 0, 1) := by decide +kernel
theorem dX7_makes_1 : decode cX7_makes 1 = .ok (.getfield 51, 3) := by decide +kernel
theorem dX7_makes_4 : decode cX7_makes 4 = .ok (.iload_n 1, 1) := by decide +kernel
theorem dX7_makes_5 : decode cX7_makes 5 = .ok (.invokevirtual 87, 3) := by decide +kernel
theorem dX7_makes_8 : decode cX7_makes 8 = .ok (.astore 4, 2) := by decide +kernel
theorem dX7_makes_10 : decode cX7_makes 10 = .ok (.aload 4, 2) := by decide +kernel
theorem dX7_makes_12 : decode cX7_makes 12 = .ok (.ifnull 11, 3) := by decide +kernel
theorem dX7_makes_15 : decode cX7_makes 15 = .ok (.iload_n 2, 1) := by decide +kernel
theorem dX7_makes_16 : decode cX7_makes 16 = .ok (.iload_n 3, 1) := by decide +kernel
theorem dX7_makes_17 : decode cX7_makes 17 = .ok (.invokestatic 118, 3) := by decide +kernel
theorem dX7_makes_20 : decode cX7_makes 20 = .ok (.ifCond .ne 5, 3) := by decide +kernel
theorem dX7_makes_23 : decode cX7_makes 23 = .ok (.iconst (-1), 1) := by decide +kernel
theorem dX7_makes_24 : decode cX7_makes 24 = .ok (.ireturn, 1) := by decide +kernel
theorem dX7_makes_25 : decode cX7_makes 25 = .ok (.aload 4, 2) := by decide +kernel
theorem dX7_makes_27 : decode cX7_makes 27 = .ok (.iload_n 2, 1) := by decide +kernel
theorem dX7_makes_28 : decode cX7_makes 28 = .ok (.invokevirtual 122, 3) := by decide +kernel
theorem dX7_makes_31 : decode cX7_makes 31 = .ok (.aload 4, 2) := by decide +kernel
theorem dX7_makes_33 : decode cX7_makes 33 = .ok (.iload_n 3, 1) := by decide +kernel
theorem dX7_makes_34 : decode cX7_makes 34 = .ok (.invokevirtual 126, 3) := by decide +kernel
theorem dX7_makes_37 : decode cX7_makes 37 = .ok (.invokestatic 129, 3) := by decide +kernel
theorem dX7_makes_40 : decode cX7_makes 40 = .ok (.ireturn, 1) := by decide +kernel
set_option maxRecDepth 20000 in
theorem ggX7_write_X3_find : GoodIn wsX7_write wsX3_find := goodIn_r _ [7, 8, 9, 80, 81, 82, 83, 84] (by decide +kernel) (by decide +kernel)
set_option maxRecDepth 20000 in
theorem gX7_write_X3_find : GoodIn wsX7_write (wsV RX7 87 RX3 yX3_find wsX3_find) := goodIn_app (goodIn_of _ (by decide +kernel)) ggX7_write_X3_find
set_option maxRecDepth 20000 in
theorem ggX7_write_X2_isFull : GoodIn wsX7_write wsX2_isFull := goodIn_r _ [14, 15, 85, 86, 87, 88, 89] (by decide +kernel) (by decide +kernel)
set_option maxRecDepth 20000 in
theorem gX7_write_X2_isFull : GoodIn wsX7_write (wsV RX7 133 RX2 yX2_isFull wsX2_isFull) := goodIn_app (goodIn_of _ (by decide +kernel)) ggX7_write_X2_isFull
set_option maxRecDepth 20000 in
theorem ggX7_write_X2_lastTone : GoodIn wsX7_write wsX2_lastTone := goodIn_r _ [19, 20, 15, 21, 22, 23, 13, 24, 85, 86, 87, 88, 89] (by decide +kernel) (by decide +kernel)
set_option maxRecDepth 20000 in
theorem gX7_write_X2_lastTone : GoodIn wsX7_write (wsV RX7 137 RX2 yX2_lastTone wsX2_lastTone) := goodIn_app (goodIn_of _ (by decide +kernel)) ggX7_write_X2_lastTone
set_option maxRecDepth 20000 in
theorem ggX7_write_X2_lastMarks : GoodIn wsX7_write wsX2_lastMarks := goodIn_r _ [28, 29, 15, 21, 22, 23, 13, 24, 85, 86, 87, 88, 89] (by decide +kernel) (by decide +kernel)
set_option maxRecDepth 20000 in
theorem gX7_write_X2_lastMarks : GoodIn wsX7_write (wsV RX7 141 RX2 yX2_lastMarks wsX2_lastMarks) := goodIn_app (goodIn_of _ (by decide +kernel)) ggX7_write_X2_lastMarks
set_option maxRecDepth 20000 in
theorem ggX7_write_X2_draw : GoodIn wsX7_write wsX2_draw := goodIn_r _ [33, 34, 35, 85, 86, 87, 88, 89] (by decide +kernel) (by decide +kernel)
set_option maxRecDepth 20000 in
theorem gX7_write_X2_draw : GoodIn wsX7_write (wsV RX7 144 RX2 yX2_draw wsX2_draw) := goodIn_app (goodIn_of _ (by decide +kernel)) ggX7_write_X2_draw
set_option maxRecDepth 20000 in
theorem ggX7_write_X0_toneBehind : GoodIn wsX7_write wsX0_toneBehind := goodIn_r _ [40, 41, 42, 43, 44, 45, 46, 47, 48, 49, 50, 51, 76, 77, 78, 79] (by decide +kernel) (by decide +kernel)
set_option maxRecDepth 20000 in
theorem gX7_write_X0_toneBehind : GoodIn wsX7_write (wsV RX7 122 RX0 yX0_toneBehind wsX0_toneBehind) := goodIn_app (goodIn_of _ (by decide +kernel)) ggX7_write_X0_toneBehind
set_option maxRecDepth 20000 in
theorem ggX7_write_X0_marksBehind : GoodIn wsX7_write wsX0_marksBehind := goodIn_r _ [55, 56, 57, 76, 77, 78, 79] (by decide +kernel) (by decide +kernel)
set_option maxRecDepth 20000 in
theorem gX7_write_X0_marksBehind : GoodIn wsX7_write (wsV RX7 126 RX0 yX0_marksBehind wsX0_marksBehind) := goodIn_app (goodIn_of _ (by decide +kernel)) ggX7_write_X0_marksBehind
set_option maxRecDepth 20000 in
theorem ggX7_write_X2_add : GoodIn wsX7_write wsX2_add := goodIn_r _ [61, 20, 15, 29, 62, 63, 11, 12, 13, 14, 85, 86, 87, 88, 89] (by decide +kernel) (by decide +kernel)
set_option maxRecDepth 20000 in
theorem gX7_write_X2_add : GoodIn wsX7_write (wsV RX7 147 RX2 yX2_add wsX2_add) := goodIn_app (goodIn_of _ (by decide +kernel)) ggX7_write_X2_add
set_option maxRecDepth 20000 in
theorem ggX7_write_X7_told : GoodIn wsX7_write wsX7_told := goodIn_r _ [66] (by decide +kernel) (by decide +kernel)
set_option maxRecDepth 20000 in
theorem gX7_write_X7_told : GoodIn wsX7_write (va_wsS RX7 129 yX7_told wsX7_told) := goodIn_app (goodIn_of _ (by decide +kernel)) ggX7_write_X7_told
theorem dX7_write_0 : decode cX7_write 0 = .ok (.aload_n 0, 1) := by decide +kernel
theorem dX7_write_1 : decode cX7_write 1 = .ok (.getfield 51, 3) := by decide +kernel
theorem dX7_write_4 : decode cX7_write 4 = .ok (.iload_n 1, 1) := by decide +kernel
theorem dX7_write_5 : decode cX7_write 5 = .ok (.invokevirtual 87, 3) := by decide +kernel
theorem dX7_write_8 : decode cX7_write 8 = .ok (.astore_n 2, 1) := by decide +kernel
theorem dX7_write_9 : decode cX7_write 9 = .ok (.aload_n 2, 1) := by decide +kernel
theorem dX7_write_10 : decode cX7_write 10 = .ok (.ifnonnull 5, 3) := by decide +kernel
theorem dX7_write_13 : decode cX7_write 13 = .ok (.iconst (-1), 1) := by decide +kernel
theorem dX7_write_14 : decode cX7_write 14 = .ok (.ireturn, 1) := by decide +kernel
theorem dX7_write_15 : decode cX7_write 15 = .ok (.aload_n 0, 1) := by decide +kernel
theorem dX7_write_16 : decode cX7_write 16 = .ok (.getfield 19, 3) := by decide +kernel
theorem dX7_write_19 : decode cX7_write 19 = .ok (.invokevirtual 133, 3) := by decide +kernel
theorem dX7_write_22 : decode cX7_write 22 = .ok (.ifCond .eq 6, 3) := by decide +kernel
theorem dX7_write_25 : decode cX7_write 25 = .ok (.bipush (-3), 2) := by decide +kernel
theorem dX7_write_27 : decode cX7_write 27 = .ok (.ireturn, 1) := by decide +kernel
theorem dX7_write_28 : decode cX7_write 28 = .ok (.aload_n 0, 1) := by decide +kernel
theorem dX7_write_29 : decode cX7_write 29 = .ok (.getfield 19, 3) := by decide +kernel
theorem dX7_write_32 : decode cX7_write 32 = .ok (.invokevirtual 137, 3) := by decide +kernel
theorem dX7_write_35 : decode cX7_write 35 = .ok (.istore_n 3, 1) := by decide +kernel
theorem dX7_write_36 : decode cX7_write 36 = .ok (.aload_n 0, 1) := by decide +kernel
theorem dX7_write_37 : decode cX7_write 37 = .ok (.getfield 19, 3) := by decide +kernel
theorem dX7_write_40 : decode cX7_write 40 = .ok (.invokevirtual 141, 3) := by decide +kernel
theorem dX7_write_43 : decode cX7_write 43 = .ok (.istore 4, 2) := by decide +kernel
theorem dX7_write_45 : decode cX7_write 45 = .ok (.aload_n 0, 1) := by decide +kernel
theorem dX7_write_46 : decode cX7_write 46 = .ok (.getfield 19, 3) := by decide +kernel
theorem dX7_write_49 : decode cX7_write 49 = .ok (.invokevirtual 144, 3) := by decide +kernel
theorem dX7_write_52 : decode cX7_write 52 = .ok (.aload_n 2, 1) := by decide +kernel
theorem dX7_write_53 : decode cX7_write 53 = .ok (.getfield 102, 3) := by decide +kernel
theorem dX7_write_56 : decode cX7_write 56 = .ok (.if_icmp .ge 17, 3) := by decide +kernel
theorem dX7_write_59 : decode cX7_write 59 = .ok (.aload_n 2, 1) := by decide +kernel
theorem dX7_write_60 : decode cX7_write 60 = .ok (.iload_n 3, 1) := by decide +kernel
theorem dX7_write_61 : decode cX7_write 61 = .ok (.invokevirtual 122, 3) := by decide +kernel
theorem dX7_write_64 : decode cX7_write 64 = .ok (.istore_n 3, 1) := by decide +kernel
theorem dX7_write_65 : decode cX7_write 65 = .ok (.aload_n 2, 1) := by decide +kernel
theorem dX7_write_66 : decode cX7_write 66 = .ok (.iload 4, 2) := by decide +kernel
theorem dX7_write_68 : decode cX7_write 68 = .ok (.invokevirtual 126, 3) := by decide +kernel
theorem dX7_write_71 : decode cX7_write 71 = .ok (.istore 4, 2) := by decide +kernel
theorem dX7_write_73 : decode cX7_write 73 = .ok (.aload_n 0, 1) := by decide +kernel
theorem dX7_write_74 : decode cX7_write 74 = .ok (.getfield 19, 3) := by decide +kernel
theorem dX7_write_77 : decode cX7_write 77 = .ok (.iload_n 3, 1) := by decide +kernel
theorem dX7_write_78 : decode cX7_write 78 = .ok (.iload 4, 2) := by decide +kernel
theorem dX7_write_80 : decode cX7_write 80 = .ok (.iload_n 1, 1) := by decide +kernel
theorem dX7_write_81 : decode cX7_write 81 = .ok (.invokevirtual 147, 3) := by decide +kernel
theorem dX7_write_84 : decode cX7_write 84 = .ok (.iload_n 3, 1) := by decide +kernel
theorem dX7_write_85 : decode cX7_write 85 = .ok (.iload 4, 2) := by decide +kernel
theorem dX7_write_87 : decode cX7_write 87 = .ok (.invokestatic 129, 3) := by decide +kernel
theorem dX7_write_90 : decode cX7_write 90 = .ok (.ireturn, 1) := by decide +kernel
set_option maxRecDepth 20000 in
theorem ggX7_forge_X7_isLine : GoodIn wsX7_forge wsX7_isLine := goodIn_r _ [5, 6, 7, 4, 8] (by decide +kernel) (by decide +kernel)
set_option maxRecDepth 20000 in
theorem gX7_forge_X7_isLine : GoodIn wsX7_forge (va_wsS RX7 118 yX7_isLine wsX7_isLine) := goodIn_app (goodIn_of _ (by decide +kernel)) ggX7_forge_X7_isLine
set_option maxRecDepth 20000 in
theorem ggX7_forge_X2_isFull : GoodIn wsX7_forge wsX2_isFull := goodIn_r _ [13, 14, 32, 33, 34, 35, 36] (by decide +kernel) (by decide +kernel)
set_option maxRecDepth 20000 in
theorem gX7_forge_X2_isFull : GoodIn wsX7_forge (wsV RX7 133 RX2 yX2_isFull wsX2_isFull) := goodIn_app (goodIn_of _ (by decide +kernel)) ggX7_forge_X2_isFull
set_option maxRecDepth 20000 in
theorem ggX7_forge_X2_add : GoodIn wsX7_forge wsX2_add := goodIn_r _ [18, 19, 14, 20, 21, 22, 10, 11, 12, 13, 32, 33, 34, 35, 36] (by decide +kernel) (by decide +kernel)
set_option maxRecDepth 20000 in
theorem gX7_forge_X2_add : GoodIn wsX7_forge (wsV RX7 147 RX2 yX2_add wsX2_add) := goodIn_app (goodIn_of _ (by decide +kernel)) ggX7_forge_X2_add
theorem dX7_forge_0 : decode cX7_forge 0 = .ok (.iload_n 1, 1) := by decide +kernel
theorem dX7_forge_1 : decode cX7_forge 1 = .ok (.iload_n 2, 1) := by decide +kernel
theorem dX7_forge_2 : decode cX7_forge 2 = .ok (.invokestatic 118, 3) := by decide +kernel
theorem dX7_forge_5 : decode cX7_forge 5 = .ok (.ifCond .ne 5, 3) := by decide +kernel
theorem dX7_forge_8 : decode cX7_forge 8 = .ok (.iconst (-1), 1) := by decide +kernel
theorem dX7_forge_9 : decode cX7_forge 9 = .ok (.ireturn, 1) := by decide +kernel
theorem dX7_forge_10 : decode cX7_forge 10 = .ok (.aload_n 0, 1) := by decide +kernel
theorem dX7_forge_11 : decode cX7_forge 11 = .ok (.getfield 19, 3) := by decide +kernel
theorem dX7_forge_14 : decode cX7_forge 14 = .ok (.invokevirtual 133, 3) := by decide +kernel
theorem dX7_forge_17 : decode cX7_forge 17 = .ok (.ifCond .eq 6, 3) := by decide +kernel
theorem dX7_forge_20 : decode cX7_forge 20 = .ok (.bipush (-3), 2) := by decide +kernel
theorem dX7_forge_22 : decode cX7_forge 22 = .ok (.ireturn, 1) := by decide +kernel
theorem dX7_forge_23 : decode cX7_forge 23 = .ok (.aload_n 0, 1) := by decide +kernel
theorem dX7_forge_24 : decode cX7_forge 24 = .ok (.getfield 19, 3) := by decide +kernel
theorem dX7_forge_27 : decode cX7_forge 27 = .ok (.iload_n 1, 1) := by decide +kernel
theorem dX7_forge_28 : decode cX7_forge 28 = .ok (.iload_n 2, 1) := by decide +kernel
theorem dX7_forge_29 : decode cX7_forge 29 = .ok (.bipush (-9), 2) := by decide +kernel
theorem dX7_forge_31 : decode cX7_forge 31 = .ok (.invokevirtual 147, 3) := by decide +kernel
theorem dX7_forge_34 : decode cX7_forge 34 = .ok (.aload_n 0, 1) := by decide +kernel
theorem dX7_forge_35 : decode cX7_forge 35 = .ok (.getfield 19, 3) := by decide +kernel
theorem dX7_forge_38 : decode cX7_forge 38 = .ok (.getfield 105, 3) := by decide +kernel
theorem dX7_forge_41 : decode cX7_forge 41 = .ok (.ireturn, 1) := by decide +kernel
theorem dX7_undo_0 : decode cX7_undo 0 = .ok (.aload_n 0, 1) := by decide +kernel
theorem dX7_undo_1 : decode cX7_undo 1 = .ok (.getfield 19, 3) := by decide +kernel
theorem dX7_undo_4 : decode cX7_undo 4 = .ok (.getfield 105, 3) := by decide +kernel
theorem dX7_undo_7 : decode cX7_undo 7 = .ok (.iconst 1, 1) := by decide +kernel
theorem dX7_undo_8 : decode cX7_undo 8 = .ok (.if_icmp .gt 6, 3) := by decide +kernel
theorem dX7_undo_11 : decode cX7_undo 11 = .ok (.bipush (-2), 2) := by decide +kernel
theorem dX7_undo_13 : decode cX7_undo 13 = .ok (.ireturn, 1) := by decide +kernel
theorem dX7_undo_14 : decode cX7_undo 14 = .ok (.aload_n 0, 1) := by decide +kernel
theorem dX7_undo_15 : decode cX7_undo 15 = .ok (.getfield 19, 3) := by decide +kernel
theorem dX7_undo_18 : decode cX7_undo 18 = .ok (.dup, 1) := by decide +kernel
theorem dX7_undo_19 : decode cX7_undo 19 = .ok (.getfield 105, 3) := by decide +kernel
theorem dX7_undo_22 : decode cX7_undo 22 = .ok (.iconst 1, 1) := by decide +kernel
theorem dX7_undo_23 : decode cX7_undo 23 = .ok (.isub, 1) := by decide +kernel
theorem dX7_undo_24 : decode cX7_undo 24 = .ok (.putfield 105, 3) := by decide +kernel
theorem dX7_undo_27 : decode cX7_undo 27 = .ok (.aload_n 0, 1) := by decide +kernel
theorem dX7_undo_28 : decode cX7_undo 28 = .ok (.getfield 19, 3) := by decide +kernel
theorem dX7_undo_31 : decode cX7_undo 31 = .ok (.getfield 105, 3) := by decide +kernel
theorem dX7_undo_34 : decode cX7_undo 34 = .ok (.ireturn, 1) := by decide +kernel
theorem dX7_lot_0 : decode cX7_lot 0 = .ok (.aload_n 0, 1) := by decide +kernel
theorem dX7_lot_1 : decode cX7_lot 1 = .ok (.getfield 19, 3) := by decide +kernel
theorem dX7_lot_4 : decode cX7_lot 4 = .ok (.getfield 151, 3) := by decide +kernel
theorem dX7_lot_7 : decode cX7_lot 7 = .ok (.istore_n 2, 1) := by decide +kernel
theorem dX7_lot_8 : decode cX7_lot 8 = .ok (.aload_n 0, 1) := by decide +kernel
theorem dX7_lot_9 : decode cX7_lot 9 = .ok (.getfield 19, 3) := by decide +kernel
theorem dX7_lot_12 : decode cX7_lot 12 = .ok (.iload_n 1, 1) := by decide +kernel
theorem dX7_lot_13 : decode cX7_lot 13 = .ok (.putfield 151, 3) := by decide +kernel
theorem dX7_lot_16 : decode cX7_lot 16 = .ok (.iload_n 2, 1) := by decide +kernel
theorem dX7_lot_17 : decode cX7_lot 17 = .ok (.ireturn, 1) := by decide +kernel
set_option maxRecDepth 20000 in
theorem ggX7_turned_X7_isWarm : GoodIn wsX7_turned wsX7_isWarm := goodIn_r _ [5] (by decide +kernel) (by decide +kernel)
set_option maxRecDepth 20000 in
theorem gX7_turned_X7_isWarm : GoodIn wsX7_turned (va_wsS RX7 154 yX7_isWarm wsX7_isWarm) := goodIn_app (goodIn_of _ (by decide +kernel)) ggX7_turned_X7_isWarm
theorem dX7_turned_0 : decode cX7_turned 0 = .ok (.aload_n 0, 1) := by decide +kernel
theorem dX7_turned_1 : decode cX7_turned 1 = .ok (.getfield 19, 3) := by decide +kernel
theorem dX7_turned_4 : decode cX7_turned 4 = .ok (.getfield 108, 3) := by decide +kernel
theorem dX7_turned_7 : decode cX7_turned 7 = .ok (.iconst 0, 1) := by decide +kernel
theorem dX7_turned_8 : decode cX7_turned 8 = .ok (.iaload, 1) := by decide +kernel
theorem dX7_turned_9 : decode cX7_turned 9 = .ok (.invokestatic 154, 3) := by decide +kernel
theorem dX7_turned_12 : decode cX7_turned 12 = .ok (.istore_n 1, 1) := by decide +kernel
theorem dX7_turned_13 : decode cX7_turned 13 = .ok (.iconst 1, 1) := by decide +kernel
theorem dX7_turned_14 : decode cX7_turned 14 = .ok (.istore_n 2, 1) := by decide +kernel
theorem dX7_turned_15 : decode cX7_turned 15 = .ok (.iload_n 2, 1) := by decide +kernel
theorem dX7_turned_16 : decode cX7_turned 16 = .ok (.aload_n 0, 1) := by decide +kernel
theorem dX7_turned_17 : decode cX7_turned 17 = .ok (.getfield 19, 3) := by decide +kernel
theorem dX7_turned_20 : decode cX7_turned 20 = .ok (.getfield 105, 3) := by decide +kernel
theorem dX7_turned_23 : decode cX7_turned 23 = .ok (.if_icmp .ge 27, 3) := by decide +kernel
theorem dX7_turned_26 : decode cX7_turned 26 = .ok (.aload_n 0, 1) := by decide +kernel
theorem dX7_turned_27 : decode cX7_turned 27 = .ok (.getfield 19, 3) := by decide +kernel
theorem dX7_turned_30 : decode cX7_turned 30 = .ok (.getfield 108, 3) := by decide +kernel
theorem dX7_turned_33 : decode cX7_turned 33 = .ok (.iload_n 2, 1) := by decide +kernel
theorem dX7_turned_34 : decode cX7_turned 34 = .ok (.iaload, 1) := by decide +kernel
theorem dX7_turned_35 : decode cX7_turned 35 = .ok (.invokestatic 154, 3) := by decide +kernel
theorem dX7_turned_38 : decode cX7_turned 38 = .ok (.iload_n 1, 1) := by decide +kernel
theorem dX7_turned_39 : decode cX7_turned 39 = .ok (.if_icmp .eq 5, 3) := by decide +kernel
theorem dX7_turned_42 : decode cX7_turned 42 = .ok (.iload_n 2, 1) := by decide +kernel
theorem dX7_turned_43 : decode cX7_turned 43 = .ok (.ireturn, 1) := by decide +kernel
theorem dX7_turned_44 : decode cX7_turned 44 = .ok (.iinc 2 1, 3) := by decide +kernel
theorem dX7_turned_47 : decode cX7_turned 47 = .ok (.goto (-32), 3) := by decide +kernel
theorem dX7_turned_50 : decode cX7_turned 50 = .ok (.bipush (-9), 2) := by decide +kernel
theorem dX7_turned_52 : decode cX7_turned 52 = .ok (.ireturn, 1) := by decide +kernel
set_option maxRecDepth 20000 in
theorem ggX7_who_X7_hasLineAhead : GoodIn wsX7_who wsX7_hasLineAhead := goodIn_r _ [5, 6, 53, 54, 55, 56, 57, 58, 59, 60, 61, 62, 63, 64, 65, 66] (by decide +kernel) (by decide +kernel)
set_option maxRecDepth 20000 in
theorem gX7_who_X7_hasLineAhead : GoodIn wsX7_who (wsV RX7 158 RX7 yX7_hasLineAhead wsX7_hasLineAhead) := goodIn_app (goodIn_of _ (by decide +kernel)) ggX7_who_X7_hasLineAhead
set_option maxRecDepth 20000 in
theorem ggX7_who_X7_writersOf : GoodIn wsX7_who wsX7_writersOf := goodIn_r _ [10, 11, 12, 13, 14, 4, 15, 6, 16, 17, 18, 19, 20, 21, 22, 1, 2, 3, 5, 23, 24, 25, 26, 27, 28, 29, 30, 31, 32, 33, 34, 35, 36, 37, 38, 39, 40, 41, 42, 43, 44, 45, 46, 47, 48, 53, 54, 55, 56, 57, 58, 59, 60, 61, 67, 68, 69, 70, 71, 62, 63, 64, 65, 66, 72, 73, 74, 75] (by decide +kernel) (by decide +kernel)
set_option maxRecDepth 20000 in
theorem gX7_who_X7_writersOf : GoodIn wsX7_who (wsV RX7 161 RX7 yX7_writersOf wsX7_writersOf) := goodIn_app (goodIn_of _ (by decide +kernel)) ggX7_who_X7_writersOf
set_option maxRecDepth 20000 in
theorem ggX7_who_X7_likeliestOf : GoodIn wsX7_who wsX7_likeliestOf := goodIn_r _ [52, 11, 12, 13, 14, 4, 15, 6, 16, 17, 18, 19, 20, 21, 22, 1, 2, 3, 5, 23, 24, 25, 26, 27, 28, 29, 30, 31, 32, 33, 34, 35, 36, 37, 38, 39, 40, 41, 42, 43, 44, 45, 46, 47, 48, 53, 54, 55, 56, 57, 58, 59, 60, 61, 67, 68, 69, 70, 71, 62, 63, 64, 65, 66, 72, 73, 74, 75] (by decide +kernel) (by decide +kernel)
set_option maxRecDepth 20000 in
theorem gX7_who_X7_likeliestOf : GoodIn wsX7_who (wsV RX7 164 RX7 yX7_likeliestOf wsX7_likeliestOf) := goodIn_app (goodIn_of _ (by decide +kernel)) ggX7_who_X7_likeliestOf
theorem dX7_who_0 : decode cX7_who 0 = .ok (.aload_n 0, 1) := by decide +kernel
theorem dX7_who_1 : decode cX7_who 1 = .ok (.iload_n 1, 1) := by decide +kernel
theorem dX7_who_2 : decode cX7_who 2 = .ok (.invokevirtual 158, 3) := by decide +kernel
theorem dX7_who_5 : decode cX7_who 5 = .ok (.ifCond .ne 5, 3) := by decide +kernel
theorem dX7_who_8 : decode cX7_who 8 = .ok (.iconst (-1), 1) := by decide +kernel
theorem dX7_who_9 : decode cX7_who 9 = .ok (.ireturn, 1) := by decide +kernel
theorem dX7_who_10 : decode cX7_who 10 = .ok (.iload_n 2, 1) := by decide +kernel
theorem dX7_who_11 : decode cX7_who 11 = .ok (.lookupswitch 37 #[(0, 25), (1, 31)], 25) := by decide +kernel
theorem dX7_who_36 : decode cX7_who 36 = .ok (.aload_n 0, 1) := by decide +kernel
theorem dX7_who_37 : decode cX7_who 37 = .ok (.iload_n 1, 1) := by decide +kernel
theorem dX7_who_38 : decode cX7_who 38 = .ok (.invokevirtual 161, 3) := by decide +kernel
theorem dX7_who_41 : decode cX7_who 41 = .ok (.ireturn, 1) := by decide +kernel
theorem dX7_who_42 : decode cX7_who 42 = .ok (.aload_n 0, 1) := by decide +kernel
theorem dX7_who_43 : decode cX7_who 43 = .ok (.iload_n 1, 1) := by decide +kernel
theorem dX7_who_44 : decode cX7_who 44 = .ok (.invokevirtual 164, 3) := by decide +kernel
theorem dX7_who_47 : decode cX7_who 47 = .ok (.ireturn, 1) := by decide +kernel
theorem dX7_who_48 : decode cX7_who 48 = .ok (.iconst (-1), 1) := by decide +kernel
theorem dX7_who_49 : decode cX7_who 49 = .ok (.ireturn, 1) := by decide +kernel
set_option maxRecDepth 20000 in
theorem ggX7_rows_X7_writersOf : GoodIn wsX7_rows wsX7_writersOf := goodIn_r _ [6, 7, 8, 9, 10, 5, 11, 1, 12, 13, 14, 15, 16, 17, 18, 19, 20, 21, 22, 23, 24, 25, 26, 27, 28, 29, 30, 31, 32, 33, 34, 35, 36, 37, 38, 39, 40, 41, 42, 43, 44, 45, 46, 47, 48, 56, 57, 58, 59, 60, 61, 62, 63, 64, 70, 71, 72, 73, 74, 65, 66, 67, 68, 69, 75, 76, 77, 78] (by decide +kernel) (by decide +kernel)
set_option maxRecDepth 20000 in
theorem gX7_rows_X7_writersOf : GoodIn wsX7_rows (wsV RX7 161 RX7 yX7_writersOf wsX7_writersOf) := goodIn_app (goodIn_of _ (by decide +kernel)) ggX7_rows_X7_writersOf
set_option maxRecDepth 20000 in
theorem ggX7_rows_J6_bitCount_0f7a4 : GoodIn wsX7_rows wsJ6_bitCount_0f7a4 := goodIn_r _ [52, 53, 54, 55] (by decide +kernel) (by decide +kernel)
set_option maxRecDepth 20000 in
theorem gX7_rows_J6_bitCount_0f7a4 : GoodIn wsX7_rows (va_wsS RX7 167 yJ6_bitCount_0f7a4 wsJ6_bitCount_0f7a4) := goodIn_app (goodIn_of _ (by decide +kernel)) ggX7_rows_J6_bitCount_0f7a4
theorem dX7_rows_0 : decode cX7_rows 0 = .ok (.iconst 1, 1) := by decide +kernel
theorem dX7_rows_1 : decode cX7_rows 1 = .ok (.istore_n 1, 1) := by decide +kernel
theorem dX7_rows_2 : decode cX7_rows 2 = .ok (.iconst 1, 1) := by decide +kernel
theorem dX7_rows_3 : decode cX7_rows 3 = .ok (.istore_n 2, 1) := by decide +kernel
theorem dX7_rows_4 : decode cX7_rows 4 = .ok (.iload_n 2, 1) := by decide +kernel
theorem dX7_rows_5 : decode cX7_rows 5 = .ok (.aload_n 0, 1) := by decide +kernel
theorem dX7_rows_6 : decode cX7_rows 6 = .ok (.getfield 19, 3) := by decide +kernel
theorem dX7_rows_9 : decode cX7_rows 9 = .ok (.getfield 105, 3) := by decide +kernel
theorem dX7_rows_12 : decode cX7_rows 12 = .ok (.if_icmp .ge 20, 3) := by decide +kernel
theorem dX7_rows_15 : decode cX7_rows 15 = .ok (.iload_n 1, 1) := by decide +kernel
theorem dX7_rows_16 : decode cX7_rows 16 = .ok (.aload_n 0, 1) := by decide +kernel
theorem dX7_rows_17 : decode cX7_rows 17 = .ok (.iload_n 2, 1) := by decide +kernel
theorem dX7_rows_18 : decode cX7_rows 18 = .ok (.invokevirtual 161, 3) := by decide +kernel
theorem dX7_rows_21 : decode cX7_rows 21 = .ok (.invokestatic 167, 3) := by decide +kernel
theorem dX7_rows_24 : decode cX7_rows 24 = .ok (.imul, 1) := by decide +kernel
theorem dX7_rows_25 : decode cX7_rows 25 = .ok (.istore_n 1, 1) := by decide +kernel
theorem dX7_rows_26 : decode cX7_rows 26 = .ok (.iinc 2 1, 3) := by decide +kernel
theorem dX7_rows_29 : decode cX7_rows 29 = .ok (.goto (-25), 3) := by decide +kernel
theorem dX7_rows_32 : decode cX7_rows 32 = .ok (.iload_n 1, 1) := by decide +kernel
theorem dX7_rows_33 : decode cX7_rows 33 = .ok (.ireturn, 1) := by decide +kernel
set_option maxRecDepth 20000 in
theorem ggX7_odds_X3_find : GoodIn wsX7_odds wsX3_find := goodIn_r _ [6, 7, 8, 61, 62, 63, 64, 65] (by decide +kernel) (by decide +kernel)
set_option maxRecDepth 20000 in
theorem gX7_odds_X3_find : GoodIn wsX7_odds (wsV RX7 87 RX3 yX3_find wsX3_find) := goodIn_app (goodIn_of _ (by decide +kernel)) ggX7_odds_X3_find
set_option maxRecDepth 20000 in
theorem ggX7_odds_X7_hasLineAhead : GoodIn wsX7_odds wsX7_hasLineAhead := goodIn_r _ [13, 14, 52, 53, 54, 55, 56, 57, 58, 59, 60, 66, 67, 68, 69, 70] (by decide +kernel) (by decide +kernel)
set_option maxRecDepth 20000 in
theorem gX7_odds_X7_hasLineAhead : GoodIn wsX7_odds (wsV RX7 158 RX7 yX7_hasLineAhead wsX7_hasLineAhead) := goodIn_app (goodIn_of _ (by decide +kernel)) ggX7_odds_X7_hasLineAhead
set_option maxRecDepth 20000 in
theorem ggX7_odds_X7_waysOfAll : GoodIn wsX7_odds wsX7_waysOfAll := goodIn_r _ [18, 1, 19, 20, 21, 12, 22, 14, 2, 3, 4, 5, 6, 7, 8, 9, 10, 11, 13, 23, 24, 25, 26, 27, 28, 29, 30, 31, 32, 33, 34, 35, 36, 37, 38, 39, 40, 41, 42, 43, 44, 45, 46, 47, 48, 52, 53, 54, 55, 56, 57, 58, 59, 60, 61, 62, 63, 64, 65, 66, 67, 68, 69, 70, 71, 72, 73, 74] (by decide +kernel) (by decide +kernel)
set_option maxRecDepth 20000 in
theorem gX7_odds_X7_waysOfAll : GoodIn wsX7_odds (wsV RX7 172 RX7 yX7_waysOfAll wsX7_waysOfAll) := goodIn_app (goodIn_of _ (by decide +kernel)) ggX7_odds_X7_waysOfAll
set_option maxRecDepth 20000 in
theorem ggX7_odds_X7_waysOf : GoodIn wsX7_odds wsX7_waysOf := goodIn_r _ [22, 1, 14, 2, 3, 4, 5, 6, 7, 8, 9, 10, 11, 12, 13, 23, 24, 25, 26, 27, 28, 29, 30, 31, 32, 33, 34, 35, 36, 37, 38, 39, 40, 41, 42, 43, 44, 45, 46, 47, 48, 52, 53, 54, 55, 56, 57, 58, 59, 60, 66, 67, 68, 69, 70, 61, 62, 63, 64, 65, 71, 72, 73, 74] (by decide +kernel) (by decide +kernel)
set_option maxRecDepth 20000 in
theorem gX7_odds_X7_waysOf : GoodIn wsX7_odds (wsV RX7 175 RX7 yX7_waysOf wsX7_waysOf) := goodIn_app (goodIn_of _ (by decide +kernel)) ggX7_odds_X7_waysOf
set_option maxRecDepth 20000 in
theorem ggX7_odds_X7_sharedDivisor : GoodIn wsX7_odds wsX7_sharedDivisor := goodIn_r _ [51] (by decide +kernel) (by decide +kernel)
set_option maxRecDepth 20000 in
theorem gX7_odds_X7_sharedDivisor : GoodIn wsX7_odds (va_wsS RX7 178 yX7_sharedDivisor wsX7_sharedDivisor) := goodIn_app (goodIn_of _ (by decide +kernel)) ggX7_odds_X7_sharedDivisor
theorem dX7_odds_0 : decode cX7_odds 0 = .ok (.aload_n 0, 1) := by decide +kernel
theorem dX7_odds_1 : decode cX7_odds 1 = .ok (.getfield 51, 3) := by decide +kernel
theorem dX7_odds_4 : decode cX7_odds 4 = .ok (.iload_n 1, 1) := by decide +kernel
theorem dX7_odds_5 : decode cX7_odds 5 = .ok (.invokevirtual 87, 3) := by decide +kernel
theorem dX7_odds_8 : decode cX7_odds 8 = .ok (.ifnull 20, 3) := by decide +kernel
theorem dX7_odds_11 : decode cX7_odds 11 = .ok (.aload_n 0, 1) := by decide +kernel
theorem dX7_odds_12 : decode cX7_odds 12 = .ok (.iload_n 2, 1) := by decide +kernel
theorem dX7_odds_13 : decode cX7_odds 13 = .ok (.invokevirtual 158, 3) := by decide +kernel
theorem dX7_odds_16 : decode cX7_odds 16 = .ok (.ifCond .eq 12, 3) := by decide +kernel
theorem dX7_odds_19 : decode cX7_odds 19 = .ok (.iload_n 3, 1) := by decide +kernel
theorem dX7_odds_20 : decode cX7_odds 20 = .ok (.ifCond .lt 8, 3) := by decide +kernel
theorem dX7_odds_23 : decode cX7_odds 23 = .ok (.iload_n 3, 1) := by decide +kernel
theorem dX7_odds_24 : decode cX7_odds 24 = .ok (.iconst 1, 1) := by decide +kernel
theorem dX7_odds_25 : decode cX7_odds 25 = .ok (.if_icmp .le 5, 3) := by decide +kernel
theorem dX7_odds_28 : decode cX7_odds 28 = .ok (.iconst (-1), 1) := by decide +kernel
theorem dX7_odds_29 : decode cX7_odds 29 = .ok (.ireturn, 1) := by decide +kernel
theorem dX7_odds_30 : decode cX7_odds 30 = .ok (.aload_n 0, 1) := by decide +kernel
theorem dX7_odds_31 : decode cX7_odds 31 = .ok (.iload_n 2, 1) := by decide +kernel
theorem dX7_odds_32 : decode cX7_odds 32 = .ok (.invokevirtual 172, 3) := by decide +kernel
theorem dX7_odds_35 : decode cX7_odds 35 = .ok (.istore 4, 2) := by decide +kernel
theorem dX7_odds_37 : decode cX7_odds 37 = .ok (.iload 4, 2) := by decide +kernel
theorem dX7_odds_39 : decode cX7_odds 39 = .ok (.ifCond .gt 6, 3) := by decide +kernel
theorem dX7_odds_42 : decode cX7_odds 42 = .ok (.bipush (-2), 2) := by decide +kernel
theorem dX7_odds_44 : decode cX7_odds 44 = .ok (.ireturn, 1) := by decide +kernel
theorem dX7_odds_45 : decode cX7_odds 45 = .ok (.aload_n 0, 1) := by decide +kernel
theorem dX7_odds_46 : decode cX7_odds 46 = .ok (.iload_n 1, 1) := by decide +kernel
theorem dX7_odds_47 : decode cX7_odds 47 = .ok (.iload_n 2, 1) := by decide +kernel
theorem dX7_odds_48 : decode cX7_odds 48 = .ok (.invokevirtual 175, 3) := by decide +kernel
theorem dX7_odds_51 : decode cX7_odds 51 = .ok (.istore 5, 2) := by decide +kernel
theorem dX7_odds_53 : decode cX7_odds 53 = .ok (.iload 4, 2) := by decide +kernel
theorem dX7_odds_55 : decode cX7_odds 55 = .ok (.iload 5, 2) := by decide +kernel
theorem dX7_odds_57 : decode cX7_odds 57 = .ok (.invokestatic 178, 3) := by decide +kernel
theorem dX7_odds_60 : decode cX7_odds 60 = .ok (.istore 6, 2) := by decide +kernel
theorem dX7_odds_62 : decode cX7_odds 62 = .ok (.iload_n 3, 1) := by decide +kernel
theorem dX7_odds_63 : decode cX7_odds 63 = .ok (.ifCond .ne 8, 3) := by decide +kernel
theorem dX7_odds_66 : decode cX7_odds 66 = .ok (.iload 5, 2) := by decide +kernel
theorem dX7_odds_68 : decode cX7_odds 68 = .ok (.goto 5, 3) := by decide +kernel
theorem dX7_odds_71 : decode cX7_odds 71 = .ok (.iload 4, 2) := by decide +kernel
theorem dX7_odds_73 : decode cX7_odds 73 = .ok (.iload 6, 2) := by decide +kernel
theorem dX7_odds_75 : decode cX7_odds 75 = .ok (.idiv, 1) := by decide +kernel
theorem dX7_odds_76 : decode cX7_odds 76 = .ok (.ireturn, 1) := by decide +kernel
set_option maxRecDepth 20000 in
theorem ggX7_order_X3_hasAll : GoodIn wsX7_order wsX3_hasAll := goodIn_r _ [8, 9, 95, 96, 97, 98, 99] (by decide +kernel) (by decide +kernel)
set_option maxRecDepth 20000 in
theorem gX7_order_X3_hasAll : GoodIn wsX7_order (wsV RX7 181 RX3 yX3_hasAll wsX3_hasAll) := goodIn_app (goodIn_of _ (by decide +kernel)) ggX7_order_X3_hasAll
set_option maxRecDepth 20000 in
theorem ggX7_order_X7_isTone : GoodIn wsX7_order wsX7_isTone := goodIn_r _ [13] (by decide +kernel) (by decide +kernel)
set_option maxRecDepth 20000 in
theorem gX7_order_X7_isTone : GoodIn wsX7_order (va_wsS RX7 184 yX7_isTone wsX7_isTone) := goodIn_app (goodIn_of _ (by decide +kernel)) ggX7_order_X7_isTone
set_option maxRecDepth 20000 in
theorem ggX7_order_X2_lastTone : GoodIn wsX7_order wsX2_lastTone := goodIn_r _ [18, 19, 20, 21, 22, 23, 17, 24, 100, 101, 102, 103, 104] (by decide +kernel) (by decide +kernel)
set_option maxRecDepth 20000 in
theorem gX7_order_X2_lastTone : GoodIn wsX7_order (wsV RX7 137 RX2 yX2_lastTone wsX2_lastTone) := goodIn_app (goodIn_of _ (by decide +kernel)) ggX7_order_X2_lastTone
set_option maxRecDepth 20000 in
theorem ggX7_order_X4_seek : GoodIn wsX7_order wsX4_seek := goodIn_r _ [29, 30, 31, 32, 33, 28, 34, 35, 36, 37, 38, 39, 40, 41, 42, 43, 44, 45, 46, 47, 48, 49, 50, 7, 51, 9, 52, 53, 54, 55, 56, 57, 58, 59, 12, 60, 61, 62, 63, 64, 65, 66, 67, 68, 69, 70, 71, 72, 73, 74, 75, 76, 77, 78, 79, 80, 81, 105, 106, 107, 108, 95, 96, 97, 98, 99, 109, 110, 111, 112] (by decide +kernel) (by decide +kernel)
set_option maxRecDepth 20000 in
theorem gX7_order_X4_seek : GoodIn wsX7_order (wsV RX7 187 RX4 yX4_seek wsX4_seek) := goodIn_app (goodIn_of _ (by decide +kernel)) ggX7_order_X4_seek
set_option maxRecDepth 20000 in
theorem ggX7_order_X4_answer : GoodIn wsX7_order wsX4_answer := goodIn_r _ [85, 30, 35, 69, 105, 106, 107, 108] (by decide +kernel) (by decide +kernel)
set_option maxRecDepth 20000 in
theorem gX7_order_X4_answer : GoodIn wsX7_order (wsV RX7 191 RX4 yX4_answer wsX4_answer) := goodIn_app (goodIn_of _ (by decide +kernel)) ggX7_order_X4_answer
theorem dX7_order_0 : decode cX7_order 0 = .ok (.aload_n 0, 1) := by decide +kernel
theorem dX7_order_1 : decode cX7_order 1 = .ok (.getfield 51, 3) := by decide +kernel
theorem dX7_order_4 : decode cX7_order 4 = .ok (.iload_n 1, 1) := by decide +kernel
theorem dX7_order_5 : decode cX7_order 5 = .ok (.invokevirtual 181, 3) := by decide +kernel
theorem dX7_order_8 : decode cX7_order 8 = .ok (.ifCond .eq 15, 3) := by decide +kernel
theorem dX7_order_11 : decode cX7_order 11 = .ok (.iload_n 2, 1) := by decide +kernel
theorem dX7_order_12 : decode cX7_order 12 = .ok (.invokestatic 184, 3) := by decide +kernel
theorem dX7_order_15 : decode cX7_order 15 = .ok (.ifCond .eq 8, 3) := by decide +kernel
theorem dX7_order_18 : decode cX7_order 18 = .ok (.iload_n 3, 1) := by decide +kernel
theorem dX7_order_19 : decode cX7_order 19 = .ok (.iconst (-1), 1) := by decide +kernel
theorem dX7_order_20 : decode cX7_order 20 = .ok (.if_icmp .ge 5, 3) := by decide +kernel
theorem dX7_order_23 : decode cX7_order 23 = .ok (.iconst (-1), 1) := by decide +kernel
theorem dX7_order_24 : decode cX7_order 24 = .ok (.ireturn, 1) := by decide +kernel
theorem dX7_order_25 : decode cX7_order 25 = .ok (.aload_n 0, 1) := by decide +kernel
theorem dX7_order_26 : decode cX7_order 26 = .ok (.getfield 44, 3) := by decide +kernel
theorem dX7_order_29 : decode cX7_order 29 = .ok (.aload_n 0, 1) := by decide +kernel
theorem dX7_order_30 : decode cX7_order 30 = .ok (.getfield 51, 3) := by decide +kernel
theorem dX7_order_33 : decode cX7_order 33 = .ok (.iload_n 1, 1) := by decide +kernel
theorem dX7_order_34 : decode cX7_order 34 = .ok (.aload_n 0, 1) := by decide +kernel
theorem dX7_order_35 : decode cX7_order 35 = .ok (.getfield 19, 3) := by decide +kernel
theorem dX7_order_38 : decode cX7_order 38 = .ok (.invokevirtual 137, 3) := by decide +kernel
theorem dX7_order_41 : decode cX7_order 41 = .ok (.iload_n 2, 1) := by decide +kernel
theorem dX7_order_42 : decode cX7_order 42 = .ok (.iconst 0, 1) := by decide +kernel
theorem dX7_order_43 : decode cX7_order 43 = .ok (.invokevirtual 187, 3) := by decide +kernel
theorem dX7_order_46 : decode cX7_order 46 = .ok (.aload_n 0, 1) := by decide +kernel
theorem dX7_order_47 : decode cX7_order 47 = .ok (.getfield 44, 3) := by decide +kernel
theorem dX7_order_50 : decode cX7_order 50 = .ok (.iload_n 3, 1) := by decide +kernel
theorem dX7_order_51 : decode cX7_order 51 = .ok (.invokevirtual 191, 3) := by decide +kernel
theorem dX7_order_54 : decode cX7_order 54 = .ok (.ireturn, 1) := by decide +kernel
set_option maxRecDepth 20000 in
theorem ggX7_drift_X3_hasAll : GoodIn wsX7_drift wsX3_hasAll := goodIn_r _ [8, 9, 92, 93, 94, 95, 96] (by decide +kernel) (by decide +kernel)
set_option maxRecDepth 20000 in
theorem gX7_drift_X3_hasAll : GoodIn wsX7_drift (wsV RX7 181 RX3 yX3_hasAll wsX3_hasAll) := goodIn_app (goodIn_of _ (by decide +kernel)) ggX7_drift_X3_hasAll
set_option maxRecDepth 20000 in
theorem ggX7_drift_X2_lastTone : GoodIn wsX7_drift wsX2_lastTone := goodIn_r _ [14, 15, 16, 17, 18, 19, 13, 20, 97, 98, 99, 100, 101] (by decide +kernel) (by decide +kernel)
set_option maxRecDepth 20000 in
theorem gX7_drift_X2_lastTone : GoodIn wsX7_drift (wsV RX7 137 RX2 yX2_lastTone wsX2_lastTone) := goodIn_app (goodIn_of _ (by decide +kernel)) ggX7_drift_X2_lastTone
set_option maxRecDepth 20000 in
theorem ggX7_drift_X4_seek : GoodIn wsX7_drift wsX4_seek := goodIn_r _ [25, 26, 27, 28, 29, 24, 30, 31, 32, 33, 34, 35, 36, 37, 38, 39, 40, 41, 42, 43, 44, 45, 46, 7, 47, 9, 48, 49, 50, 51, 52, 53, 54, 55, 56, 57, 58, 59, 60, 61, 62, 63, 64, 65, 66, 67, 68, 69, 70, 71, 72, 73, 74, 75, 76, 77, 78, 102, 103, 104, 105, 92, 93, 94, 95, 96, 106, 107, 108, 109] (by decide +kernel) (by decide +kernel)
set_option maxRecDepth 20000 in
theorem gX7_drift_X4_seek : GoodIn wsX7_drift (wsV RX7 187 RX4 yX4_seek wsX4_seek) := goodIn_app (goodIn_of _ (by decide +kernel)) ggX7_drift_X4_seek
set_option maxRecDepth 20000 in
theorem ggX7_drift_X4_answer : GoodIn wsX7_drift wsX4_answer := goodIn_r _ [82, 26, 31, 66, 102, 103, 104, 105] (by decide +kernel) (by decide +kernel)
set_option maxRecDepth 20000 in
theorem gX7_drift_X4_answer : GoodIn wsX7_drift (wsV RX7 191 RX4 yX4_answer wsX4_answer) := goodIn_app (goodIn_of _ (by decide +kernel)) ggX7_drift_X4_answer
theorem dX7_drift_0 : decode cX7_drift 0 = .ok (.aload_n 0, 1) := by decide +kernel
theorem dX7_drift_1 : decode cX7_drift 1 = .ok (.getfield 51, 3) := by decide +kernel
theorem dX7_drift_4 : decode cX7_drift 4 = .ok (.iload_n 1, 1) := by decide +kernel
theorem dX7_drift_5 : decode cX7_drift 5 = .ok (.invokevirtual 181, 3) := by decide +kernel
theorem dX7_drift_8 : decode cX7_drift 8 = .ok (.ifCond .eq 8, 3) := by decide +kernel
theorem dX7_drift_11 : decode cX7_drift 11 = .ok (.iload_n 2, 1) := by decide +kernel
theorem dX7_drift_12 : decode cX7_drift 12 = .ok (.iconst (-1), 1) := by decide +kernel
theorem dX7_drift_13 : decode cX7_drift 13 = .ok (.if_icmp .ge 5, 3) := by decide +kernel
theorem dX7_drift_16 : decode cX7_drift 16 = .ok (.iconst (-1), 1) := by decide +kernel
theorem dX7_drift_17 : decode cX7_drift 17 = .ok (.ireturn, 1) := by decide +kernel
theorem dX7_drift_18 : decode cX7_drift 18 = .ok (.aload_n 0, 1) := by decide +kernel
theorem dX7_drift_19 : decode cX7_drift 19 = .ok (.getfield 44, 3) := by decide +kernel
theorem dX7_drift_22 : decode cX7_drift 22 = .ok (.aload_n 0, 1) := by decide +kernel
theorem dX7_drift_23 : decode cX7_drift 23 = .ok (.getfield 51, 3) := by decide +kernel
theorem dX7_drift_26 : decode cX7_drift 26 = .ok (.iload_n 1, 1) := by decide +kernel
theorem dX7_drift_27 : decode cX7_drift 27 = .ok (.aload_n 0, 1) := by decide +kernel
theorem dX7_drift_28 : decode cX7_drift 28 = .ok (.getfield 19, 3) := by decide +kernel
theorem dX7_drift_31 : decode cX7_drift 31 = .ok (.invokevirtual 137, 3) := by decide +kernel
theorem dX7_drift_34 : decode cX7_drift 34 = .ok (.aload_n 0, 1) := by decide +kernel
theorem dX7_drift_35 : decode cX7_drift 35 = .ok (.getfield 19, 3) := by decide +kernel
theorem dX7_drift_38 : decode cX7_drift 38 = .ok (.invokevirtual 137, 3) := by decide +kernel
theorem dX7_drift_41 : decode cX7_drift 41 = .ok (.iconst 1, 1) := by decide +kernel
theorem dX7_drift_42 : decode cX7_drift 42 = .ok (.invokevirtual 187, 3) := by decide +kernel
theorem dX7_drift_45 : decode cX7_drift 45 = .ok (.aload_n 0, 1) := by decide +kernel
theorem dX7_drift_46 : decode cX7_drift 46 = .ok (.getfield 44, 3) := by decide +kernel
theorem dX7_drift_49 : decode cX7_drift 49 = .ok (.iload_n 2, 1) := by decide +kernel
theorem dX7_drift_50 : decode cX7_drift 50 = .ok (.invokevirtual 191, 3) := by decide +kernel
theorem dX7_drift_53 : decode cX7_drift 53 = .ok (.ireturn, 1) := by decide +kernel
set_option maxRecDepth 20000 in
theorem ggX7_sign_X7_isLine : GoodIn wsX7_sign wsX7_isLine := goodIn_r _ [5, 6, 7, 4, 8] (by decide +kernel) (by decide +kernel)
set_option maxRecDepth 20000 in
theorem gX7_sign_X7_isLine : GoodIn wsX7_sign (va_wsS RX7 118 yX7_isLine wsX7_isLine) := goodIn_app (goodIn_of _ (by decide +kernel)) ggX7_sign_X7_isLine
set_option maxRecDepth 20000 in
theorem ggX7_sign_X5_isFull : GoodIn wsX7_sign wsX5_isFull := goodIn_r _ [13, 14, 33, 34, 35, 36, 37] (by decide +kernel) (by decide +kernel)
set_option maxRecDepth 20000 in
theorem gX7_sign_X5_isFull : GoodIn wsX7_sign (wsV RX7 194 RX5 yX5_isFull wsX5_isFull) := goodIn_app (goodIn_of _ (by decide +kernel)) ggX7_sign_X5_isFull
set_option maxRecDepth 20000 in
theorem ggX7_sign_X5_add : GoodIn wsX7_sign wsX5_add := goodIn_r _ [18, 19, 14, 20, 21, 22, 23, 10, 11, 12, 13, 33, 34, 35, 36, 37] (by decide +kernel) (by decide +kernel)
set_option maxRecDepth 20000 in
theorem gX7_sign_X5_add : GoodIn wsX7_sign (wsV RX7 195 RX5 yX5_add wsX5_add) := goodIn_app (goodIn_of _ (by decide +kernel)) ggX7_sign_X5_add
theorem dX7_sign_0 : decode cX7_sign 0 = .ok (.iload_n 1, 1) := by decide +kernel
theorem dX7_sign_1 : decode cX7_sign 1 = .ok (.iload_n 2, 1) := by decide +kernel
theorem dX7_sign_2 : decode cX7_sign 2 = .ok (.invokestatic 118, 3) := by decide +kernel
theorem dX7_sign_5 : decode cX7_sign 5 = .ok (.ifCond .eq 12, 3) := by decide +kernel
theorem dX7_sign_8 : decode cX7_sign 8 = .ok (.iload_n 3, 1) := by decide +kernel
theorem dX7_sign_9 : decode cX7_sign 9 = .ok (.iload 4, 2) := by decide +kernel
theorem dX7_sign_11 : decode cX7_sign 11 = .ok (.invokestatic 118, 3) := by decide +kernel
theorem dX7_sign_14 : decode cX7_sign 14 = .ok (.ifCond .ne 5, 3) := by decide +kernel
theorem dX7_sign_17 : decode cX7_sign 17 = .ok (.iconst (-1), 1) := by decide +kernel
theorem dX7_sign_18 : decode cX7_sign 18 = .ok (.ireturn, 1) := by decide +kernel
theorem dX7_sign_19 : decode cX7_sign 19 = .ok (.aload_n 0, 1) := by decide +kernel
theorem dX7_sign_20 : decode cX7_sign 20 = .ok (.getfield 30, 3) := by decide +kernel
theorem dX7_sign_23 : decode cX7_sign 23 = .ok (.invokevirtual 194, 3) := by decide +kernel
theorem dX7_sign_26 : decode cX7_sign 26 = .ok (.ifCond .eq 6, 3) := by decide +kernel
theorem dX7_sign_29 : decode cX7_sign 29 = .ok (.bipush (-3), 2) := by decide +kernel
theorem dX7_sign_31 : decode cX7_sign 31 = .ok (.ireturn, 1) := by decide +kernel
theorem dX7_sign_32 : decode cX7_sign 32 = .ok (.aload_n 0, 1) := by decide +kernel
theorem dX7_sign_33 : decode cX7_sign 33 = .ok (.getfield 30, 3) := by decide +kernel
theorem dX7_sign_36 : decode cX7_sign 36 = .ok (.iload_n 1, 1) := by decide +kernel
theorem dX7_sign_37 : decode cX7_sign 37 = .ok (.iload_n 2, 1) := by decide +kernel
theorem dX7_sign_38 : decode cX7_sign 38 = .ok (.iload_n 3, 1) := by decide +kernel
theorem dX7_sign_39 : decode cX7_sign 39 = .ok (.iload 4, 2) := by decide +kernel
theorem dX7_sign_41 : decode cX7_sign 41 = .ok (.invokevirtual 195, 3) := by decide +kernel
theorem dX7_sign_44 : decode cX7_sign 44 = .ok (.aload_n 0, 1) := by decide +kernel
theorem dX7_sign_45 : decode cX7_sign 45 = .ok (.getfield 30, 3) := by decide +kernel
theorem dX7_sign_48 : decode cX7_sign 48 = .ok (.getfield 198, 3) := by decide +kernel
theorem dX7_sign_51 : decode cX7_sign 51 = .ok (.ireturn, 1) := by decide +kernel
set_option maxRecDepth 20000 in
theorem ggX7_learnt_X5_fitOneHabit : GoodIn wsX7_learnt wsX5_fitOneHabit := goodIn_r _ [6, 7, 8, 9, 5, 10, 11, 12, 13, 14, 15, 16, 17, 18, 19, 20, 21, 22, 23, 24, 25, 26, 27, 28, 29, 30, 31, 32, 33, 34, 35, 36, 37, 38, 39, 40, 41, 66, 67, 68, 69, 70] (by decide +kernel) (by decide +kernel)
set_option maxRecDepth 20000 in
theorem gX7_learnt_X5_fitOneHabit : GoodIn wsX7_learnt (wsV RX7 201 RX5 yX5_fitOneHabit wsX5_fitOneHabit) := goodIn_app (goodIn_of _ (by decide +kernel)) ggX7_learnt_X5_fitOneHabit
set_option maxRecDepth 20000 in
theorem ggX7_learnt_X5_leastLean : GoodIn wsX7_learnt wsX5_leastLean := goodIn_r _ [10, 11, 12, 13, 5, 14, 15, 16, 17, 18, 19, 20, 21, 22, 23, 24, 25, 26, 27, 66, 67, 68, 69, 70] (by decide +kernel) (by decide +kernel)
set_option maxRecDepth 20000 in
theorem gX7_learnt_X5_leastLean : GoodIn wsX7_learnt (wsV RX7 204 RX5 yX5_leastLean wsX5_leastLean) := goodIn_app (goodIn_of _ (by decide +kernel)) ggX7_learnt_X5_leastLean
set_option maxRecDepth 20000 in
theorem ggX7_learnt_X5_greatestLean : GoodIn wsX7_learnt wsX5_greatestLean := goodIn_r _ [46, 11, 12, 13, 5, 14, 15, 16, 17, 18, 19, 20, 21, 22, 23, 24, 25, 26, 27, 66, 67, 68, 69, 70] (by decide +kernel) (by decide +kernel)
set_option maxRecDepth 20000 in
theorem gX7_learnt_X5_greatestLean : GoodIn wsX7_learnt (wsV RX7 207 RX5 yX5_greatestLean wsX5_greatestLean) := goodIn_app (goodIn_of _ (by decide +kernel)) ggX7_learnt_X5_greatestLean
set_option maxRecDepth 20000 in
theorem ggX7_learnt_X5_mustSet : GoodIn wsX7_learnt wsX5_mustSet := goodIn_r _ [50, 28, 29, 30, 5, 31, 15, 32, 33, 34, 35, 36, 37, 38, 39, 40, 41, 66, 67, 68, 69, 70] (by decide +kernel) (by decide +kernel)
set_option maxRecDepth 20000 in
theorem gX7_learnt_X5_mustSet : GoodIn wsX7_learnt (wsV RX7 210 RX5 yX5_mustSet wsX5_mustSet) := goodIn_app (goodIn_of _ (by decide +kernel)) ggX7_learnt_X5_mustSet
set_option maxRecDepth 20000 in
theorem ggX7_learnt_X5_mustDrop : GoodIn wsX7_learnt wsX5_mustDrop := goodIn_r _ [54, 33, 34, 35, 5, 36, 15, 32, 28, 29, 30, 31, 37, 38, 39, 40, 41, 66, 67, 68, 69, 70] (by decide +kernel) (by decide +kernel)
set_option maxRecDepth 20000 in
theorem gX7_learnt_X5_mustDrop : GoodIn wsX7_learnt (wsV RX7 213 RX5 yX5_mustDrop wsX5_mustDrop) := goodIn_app (goodIn_of _ (by decide +kernel)) ggX7_learnt_X5_mustDrop
set_option maxRecDepth 20000 in
theorem ggX7_learnt_X5_maySet : GoodIn wsX7_learnt wsX5_maySet := goodIn_r _ [31, 15, 32, 66, 67, 68, 69, 70] (by decide +kernel) (by decide +kernel)
set_option maxRecDepth 20000 in
theorem gX7_learnt_X5_maySet : GoodIn wsX7_learnt (wsV RX7 216 RX5 yX5_maySet wsX5_maySet) := goodIn_app (goodIn_of _ (by decide +kernel)) ggX7_learnt_X5_maySet
set_option maxRecDepth 20000 in
theorem ggX7_learnt_X5_mayDrop : GoodIn wsX7_learnt wsX5_mayDrop := goodIn_r _ [36, 15, 32, 66, 67, 68, 69, 70] (by decide +kernel) (by decide +kernel)
set_option maxRecDepth 20000 in
theorem gX7_learnt_X5_mayDrop : GoodIn wsX7_learnt (wsV RX7 219 RX5 yX5_mayDrop wsX5_mayDrop) := goodIn_app (goodIn_of _ (by decide +kernel)) ggX7_learnt_X5_mayDrop
theorem dX7_learnt_0 : decode cX7_learnt 0 = .ok (.iload_n 1, 1) := by decide +kernel
theorem dX7_learnt_1 : decode cX7_learnt 1 = .ok (.ifCond .lt 8, 3) := by decide +kernel
theorem dX7_learnt_4 : decode cX7_learnt 4 = .ok (.iload_n 1, 1) := by decide +kernel
theorem dX7_learnt_5 : decode cX7_learnt 5 = .ok (.iconst 5, 1) := by decide +kernel
theorem dX7_learnt_6 : decode cX7_learnt 6 = .ok (.if_icmp .le 5, 3) := by decide +kernel
theorem dX7_learnt_9 : decode cX7_learnt 9 = .ok (.iconst (-1), 1) := by decide +kernel
theorem dX7_learnt_10 : decode cX7_learnt 10 = .ok (.ireturn, 1) := by decide +kernel
theorem dX7_learnt_11 : decode cX7_learnt 11 = .ok (.aload_n 0, 1) := by decide +kernel
theorem dX7_learnt_12 : decode cX7_learnt 12 = .ok (.getfield 30, 3) := by decide +kernel
theorem dX7_learnt_15 : decode cX7_learnt 15 = .ok (.invokevirtual 201, 3) := by decide +kernel
theorem dX7_learnt_18 : decode cX7_learnt 18 = .ok (.ifCond .ne 6, 3) := by decide +kernel
theorem dX7_learnt_21 : decode cX7_learnt 21 = .ok (.bipush (-9), 2) := by decide +kernel
theorem dX7_learnt_23 : decode cX7_learnt 23 = .ok (.ireturn, 1) := by decide +kernel
theorem dX7_learnt_24 : decode cX7_learnt 24 = .ok (.iload_n 1, 1) := by decide +kernel
theorem dX7_learnt_25 : decode cX7_learnt 25 = .ok (.tableswitch 75 0 4 #[35, 43, 51, 59, 67], 35) := by decide +kernel
theorem dX7_learnt_60 : decode cX7_learnt 60 = .ok (.aload_n 0, 1) := by decide +kernel
theorem dX7_learnt_61 : decode cX7_learnt 61 = .ok (.getfield 30, 3) := by decide +kernel
theorem dX7_learnt_64 : decode cX7_learnt 64 = .ok (.invokevirtual 204, 3) := by decide +kernel
theorem dX7_learnt_67 : decode cX7_learnt 67 = .ok (.ireturn, 1) := by decide +kernel
theorem dX7_learnt_68 : decode cX7_learnt 68 = .ok (.aload_n 0, 1) := by decide +kernel
theorem dX7_learnt_69 : decode cX7_learnt 69 = .ok (.getfield 30, 3) := by decide +kernel
theorem dX7_learnt_72 : decode cX7_learnt 72 = .ok (.invokevirtual 207, 3) := by decide +kernel
theorem dX7_learnt_75 : decode cX7_learnt 75 = .ok (.ireturn, 1) := by decide +kernel
theorem dX7_learnt_76 : decode cX7_learnt 76 = .ok (.aload_n 0, 1) := by decide +kernel
theorem dX7_learnt_77 : decode cX7_learnt 77 = .ok (.getfield 30, 3) := by decide +kernel
theorem dX7_learnt_80 : decode cX7_learnt 80 = .ok (.invokevirtual 210, 3) := by decide +kernel
theorem dX7_learnt_83 : decode cX7_learnt 83 = .ok (.ireturn, 1) := by decide +kernel
theorem dX7_learnt_84 : decode cX7_learnt 84 = .ok (.aload_n 0, 1) := by decide +kernel
theorem dX7_learnt_85 : decode cX7_learnt 85 = .ok (.getfield 30, 3) := by decide +kernel
theorem dX7_learnt_88 : decode cX7_learnt 88 = .ok (.invokevirtual 213, 3) := by decide +kernel
theorem dX7_learnt_91 : decode cX7_learnt 91 = .ok (.ireturn, 1) := by decide +kernel
theorem dX7_learnt_92 : decode cX7_learnt 92 = .ok (.aload_n 0, 1) := by decide +kernel
theorem dX7_learnt_93 : decode cX7_learnt 93 = .ok (.getfield 30, 3) := by decide +kernel
theorem dX7_learnt_96 : decode cX7_learnt 96 = .ok (.invokevirtual 216, 3) := by decide +kernel
theorem dX7_learnt_99 : decode cX7_learnt 99 = .ok (.ireturn, 1) := by decide +kernel
theorem dX7_learnt_100 : decode cX7_learnt 100 = .ok (.aload_n 0, 1) := by decide +kernel
theorem dX7_learnt_101 : decode cX7_learnt 101 = .ok (.getfield 30, 3) := by decide +kernel
theorem dX7_learnt_104 : decode cX7_learnt 104 = .ok (.invokevirtual 219, 3) := by decide +kernel
theorem dX7_learnt_107 : decode cX7_learnt 107 = .ok (.ireturn, 1) := by decide +kernel
theorem dX7_forget_0 : decode cX7_forget 0 = .ok (.aload_n 0, 1) := by decide +kernel
theorem dX7_forget_1 : decode cX7_forget 1 = .ok (.getfield 30, 3) := by decide +kernel
theorem dX7_forget_4 : decode cX7_forget 4 = .ok (.getfield 198, 3) := by decide +kernel
theorem dX7_forget_7 : decode cX7_forget 7 = .ok (.istore_n 1, 1) := by decide +kernel
theorem dX7_forget_8 : decode cX7_forget 8 = .ok (.aload_n 0, 1) := by decide +kernel
theorem dX7_forget_9 : decode cX7_forget 9 = .ok (.getfield 30, 3) := by decide +kernel
theorem dX7_forget_12 : decode cX7_forget 12 = .ok (.iconst 0, 1) := by decide +kernel
theorem dX7_forget_13 : decode cX7_forget 13 = .ok (.putfield 198, 3) := by decide +kernel
theorem dX7_forget_16 : decode cX7_forget 16 = .ok (.iload_n 1, 1) := by decide +kernel
theorem dX7_forget_17 : decode cX7_forget 17 = .ok (.ireturn, 1) := by decide +kernel
set_option maxRecDepth 20000 in
theorem ggX7_copy_X1_isFull : GoodIn wsX7_copy wsX1_isFull := goodIn_r _ [6, 7, 23, 24] (by decide +kernel) (by decide +kernel)
set_option maxRecDepth 20000 in
theorem gX7_copy_X1_isFull : GoodIn wsX7_copy (wsV RX7 222 RX1 yX1_isFull wsX1_isFull) := goodIn_app (goodIn_of _ (by decide +kernel)) ggX7_copy_X1_isFull
set_option maxRecDepth 20000 in
theorem ggX7_copy_X1_add : GoodIn wsX7_copy wsX1_add := goodIn_r _ [11, 12, 7, 13, 3, 4, 5, 6, 23, 24] (by decide +kernel) (by decide +kernel)
set_option maxRecDepth 20000 in
theorem gX7_copy_X1_add : GoodIn wsX7_copy (wsV RX7 223 RX1 yX1_add wsX1_add) := goodIn_app (goodIn_of _ (by decide +kernel)) ggX7_copy_X1_add
theorem dX7_copy_0 : decode cX7_copy 0 = .ok (.iload_n 1, 1) := by decide +kernel
theorem dX7_copy_1 : decode cX7_copy 1 = .ok (.ifCond .lt 10, 3) := by decide +kernel
theorem dX7_copy_4 : decode cX7_copy 4 = .ok (.iload_n 1, 1) := by decide +kernel
theorem dX7_copy_5 : decode cX7_copy 5 = .ok (.sipush 255, 3) := by decide +kernel
theorem dX7_copy_8 : decode cX7_copy 8 = .ok (.if_icmp .le 5, 3) := by decide +kernel
theorem dX7_copy_11 : decode cX7_copy 11 = .ok (.iconst (-1), 1) := by decide +kernel
theorem dX7_copy_12 : decode cX7_copy 12 = .ok (.ireturn, 1) := by decide +kernel
theorem dX7_copy_13 : decode cX7_copy 13 = .ok (.aload_n 0, 1) := by decide +kernel
theorem dX7_copy_14 : decode cX7_copy 14 = .ok (.getfield 37, 3) := by decide +kernel
theorem dX7_copy_17 : decode cX7_copy 17 = .ok (.invokevirtual 222, 3) := by decide +kernel
theorem dX7_copy_20 : decode cX7_copy 20 = .ok (.ifCond .eq 6, 3) := by decide +kernel
theorem dX7_copy_23 : decode cX7_copy 23 = .ok (.bipush (-3), 2) := by decide +kernel
theorem dX7_copy_25 : decode cX7_copy 25 = .ok (.ireturn, 1) := by decide +kernel
theorem dX7_copy_26 : decode cX7_copy 26 = .ok (.aload_n 0, 1) := by decide +kernel
theorem dX7_copy_27 : decode cX7_copy 27 = .ok (.getfield 37, 3) := by decide +kernel
theorem dX7_copy_30 : decode cX7_copy 30 = .ok (.iload_n 1, 1) := by decide +kernel
theorem dX7_copy_31 : decode cX7_copy 31 = .ok (.invokevirtual 223, 3) := by decide +kernel
theorem dX7_copy_34 : decode cX7_copy 34 = .ok (.aload_n 0, 1) := by decide +kernel
theorem dX7_copy_35 : decode cX7_copy 35 = .ok (.getfield 37, 3) := by decide +kernel
theorem dX7_copy_38 : decode cX7_copy 38 = .ok (.getfield 226, 3) := by decide +kernel
theorem dX7_copy_41 : decode cX7_copy 41 = .ok (.iconst 1, 1) := by decide +kernel
theorem dX7_copy_42 : decode cX7_copy 42 = .ok (.isub, 1) := by decide +kernel
theorem dX7_copy_43 : decode cX7_copy 43 = .ok (.ireturn, 1) := by decide +kernel
set_option maxRecDepth 20000 in
theorem ggX7_came_X1_originOf : GoodIn wsX7_came wsX1_originOf := goodIn_r _ [6, 7, 8, 9, 10, 11, 5, 12, 13, 14, 15, 16, 17, 18, 19, 34, 35] (by decide +kernel) (by decide +kernel)
set_option maxRecDepth 20000 in
theorem gX7_came_X1_originOf : GoodIn wsX7_came (wsV RX7 230 RX1 yX1_originOf wsX1_originOf) := goodIn_app (goodIn_of _ (by decide +kernel)) ggX7_came_X1_originOf
set_option maxRecDepth 20000 in
theorem ggX7_came_X1_depthOf : GoodIn wsX7_came wsX1_depthOf := goodIn_r _ [23, 24, 3, 4, 5, 6, 7, 8, 9, 10, 11, 12, 13, 14, 15, 16, 17, 18, 19, 34, 35] (by decide +kernel) (by decide +kernel)
set_option maxRecDepth 20000 in
theorem gX7_came_X1_depthOf : GoodIn wsX7_came (wsV RX7 233 RX1 yX1_depthOf wsX1_depthOf) := goodIn_app (goodIn_of _ (by decide +kernel)) ggX7_came_X1_depthOf
theorem dX7_came_0 : decode cX7_came 0 = .ok (.iload_n 1, 1) := by decide +kernel
theorem dX7_came_1 : decode cX7_came 1 = .ok (.ifCond .lt 14, 3) := by decide +kernel
theorem dX7_came_4 : decode cX7_came 4 = .ok (.iload_n 1, 1) := by decide +kernel
theorem dX7_came_5 : decode cX7_came 5 = .ok (.aload_n 0, 1) := by decide +kernel
theorem dX7_came_6 : decode cX7_came 6 = .ok (.getfield 37, 3) := by decide +kernel
theorem dX7_came_9 : decode cX7_came 9 = .ok (.getfield 226, 3) := by decide +kernel
theorem dX7_came_12 : decode cX7_came 12 = .ok (.if_icmp .lt 5, 3) := by decide +kernel
theorem dX7_came_15 : decode cX7_came 15 = .ok (.iconst (-1), 1) := by decide +kernel
theorem dX7_came_16 : decode cX7_came 16 = .ok (.ireturn, 1) := by decide +kernel
theorem dX7_came_17 : decode cX7_came 17 = .ok (.iload_n 2, 1) := by decide +kernel
theorem dX7_came_18 : decode cX7_came 18 = .ok (.tableswitch 54 0 2 #[26, 36, 45], 26) := by decide +kernel
theorem dX7_came_44 : decode cX7_came 44 = .ok (.aload_n 0, 1) := by decide +kernel
theorem dX7_came_45 : decode cX7_came 45 = .ok (.getfield 37, 3) := by decide +kernel
theorem dX7_came_48 : decode cX7_came 48 = .ok (.getfield 227, 3) := by decide +kernel
theorem dX7_came_51 : decode cX7_came 51 = .ok (.iload_n 1, 1) := by decide +kernel
theorem dX7_came_52 : decode cX7_came 52 = .ok (.iaload, 1) := by decide +kernel
theorem dX7_came_53 : decode cX7_came 53 = .ok (.ireturn, 1) := by decide +kernel
theorem dX7_came_54 : decode cX7_came 54 = .ok (.aload_n 0, 1) := by decide +kernel
theorem dX7_came_55 : decode cX7_came 55 = .ok (.getfield 37, 3) := by decide +kernel
theorem dX7_came_58 : decode cX7_came 58 = .ok (.iload_n 1, 1) := by decide +kernel
theorem dX7_came_59 : decode cX7_came 59 = .ok (.invokevirtual 230, 3) := by decide +kernel
theorem dX7_came_62 : decode cX7_came 62 = .ok (.ireturn, 1) := by decide +kernel
theorem dX7_came_63 : decode cX7_came 63 = .ok (.aload_n 0, 1) := by decide +kernel
theorem dX7_came_64 : decode cX7_came 64 = .ok (.getfield 37, 3) := by decide +kernel
theorem dX7_came_67 : decode cX7_came 67 = .ok (.iload_n 1, 1) := by decide +kernel
theorem dX7_came_68 : decode cX7_came 68 = .ok (.invokevirtual 233, 3) := by decide +kernel
theorem dX7_came_71 : decode cX7_came 71 = .ok (.ireturn, 1) := by decide +kernel
theorem dX7_came_72 : decode cX7_came 72 = .ok (.iconst (-1), 1) := by decide +kernel
theorem dX7_came_73 : decode cX7_came 73 = .ok (.ireturn, 1) := by decide +kernel
set_option maxRecDepth 20000 in
theorem ggX7_firsts_X1_originOf : GoodIn wsX7_firsts wsX1_originOf := goodIn_r _ [6, 7, 8, 9, 10, 11, 5, 12, 13, 14, 15, 16, 17, 18, 19, 29, 30] (by decide +kernel) (by decide +kernel)
set_option maxRecDepth 20000 in
theorem gX7_firsts_X1_originOf : GoodIn wsX7_firsts (wsV RX7 230 RX1 yX1_originOf wsX1_originOf) := goodIn_app (goodIn_of _ (by decide +kernel)) ggX7_firsts_X1_originOf
theorem dX7_firsts_0 : decode cX7_firsts 0 = .ok (.iconst 0, 1) := by decide +kernel
theorem dX7_firsts_1 : decode cX7_firsts 1 = .ok (.istore_n 1, 1) := by decide +kernel
theorem dX7_firsts_2 : decode cX7_firsts 2 = .ok (.iconst 0, 1) := by decide +kernel
theorem dX7_firsts_3 : decode cX7_firsts 3 = .ok (.istore_n 2, 1) := by decide +kernel
theorem dX7_firsts_4 : decode cX7_firsts 4 = .ok (.iload_n 2, 1) := by decide +kernel
theorem dX7_firsts_5 : decode cX7_firsts 5 = .ok (.aload_n 0, 1) := by decide +kernel
theorem dX7_firsts_6 : decode cX7_firsts 6 = .ok (.getfield 37, 3) := by decide +kernel
theorem dX7_firsts_9 : decode cX7_firsts 9 = .ok (.getfield 226, 3) := by decide +kernel
theorem dX7_firsts_12 : decode cX7_firsts 12 = .ok (.if_icmp .ge 28, 3) := by decide +kernel
theorem dX7_firsts_15 : decode cX7_firsts 15 = .ok (.aload_n 0, 1) := by decide +kernel
theorem dX7_firsts_16 : decode cX7_firsts 16 = .ok (.getfield 37, 3) := by decide +kernel
theorem dX7_firsts_19 : decode cX7_firsts 19 = .ok (.iload_n 2, 1) := by decide +kernel
theorem dX7_firsts_20 : decode cX7_firsts 20 = .ok (.invokevirtual 230, 3) := by decide +kernel
theorem dX7_firsts_23 : decode cX7_firsts 23 = .ok (.bipush (-9), 2) := by decide +kernel
theorem dX7_firsts_25 : decode cX7_firsts 25 = .ok (.if_icmp .ne 9, 3) := by decide +kernel
theorem dX7_firsts_28 : decode cX7_firsts 28 = .ok (.iload_n 1, 1) := by decide +kernel
theorem dX7_firsts_29 : decode cX7_firsts 29 = .ok (.iconst 1, 1) := by decide +kernel
theorem dX7_firsts_30 : decode cX7_firsts 30 = .ok (.iload_n 2, 1) := by decide +kernel
theorem dX7_firsts_31 : decode cX7_firsts 31 = .ok (.ishl, 1) := by decide +kernel
theorem dX7_firsts_32 : decode cX7_firsts 32 = .ok (.ior, 1) := by decide +kernel
theorem dX7_firsts_33 : decode cX7_firsts 33 = .ok (.istore_n 1, 1) := by decide +kernel
theorem dX7_firsts_34 : decode cX7_firsts 34 = .ok (.iinc 2 1, 3) := by decide +kernel
theorem dX7_firsts_37 : decode cX7_firsts 37 = .ok (.goto (-33), 3) := by decide +kernel
theorem dX7_firsts_40 : decode cX7_firsts 40 = .ok (.iload_n 1, 1) := by decide +kernel
theorem dX7_firsts_41 : decode cX7_firsts 41 = .ok (.ireturn, 1) := by decide +kernel
theorem dX7_burn_0 : decode cX7_burn 0 = .ok (.aload_n 0, 1) := by decide +kernel
theorem dX7_burn_1 : decode cX7_burn 1 = .ok (.getfield 37, 3) := by decide +kernel
theorem dX7_burn_4 : decode cX7_burn 4 = .ok (.getfield 226, 3) := by decide +kernel
theorem dX7_burn_7 : decode cX7_burn 7 = .ok (.istore_n 1, 1) := by decide +kernel
theorem dX7_burn_8 : decode cX7_burn 8 = .ok (.aload_n 0, 1) := by decide +kernel
theorem dX7_burn_9 : decode cX7_burn 9 = .ok (.getfield 37, 3) := by decide +kernel
theorem dX7_burn_12 : decode cX7_burn 12 = .ok (.iconst 0, 1) := by decide +kernel
theorem dX7_burn_13 : decode cX7_burn 13 = .ok (.putfield 226, 3) := by decide +kernel
theorem dX7_burn_16 : decode cX7_burn 16 = .ok (.iload_n 1, 1) := by decide +kernel
theorem dX7_burn_17 : decode cX7_burn 17 = .ok (.ireturn, 1) := by decide +kernel
set_option maxRecDepth 20000 in
theorem ggX7_rate_X3_find : GoodIn wsX7_rate wsX3_find := goodIn_r _ [7, 8, 9, 57, 58, 59, 60, 61] (by decide +kernel) (by decide +kernel)
set_option maxRecDepth 20000 in
theorem gX7_rate_X3_find : GoodIn wsX7_rate (wsV RX7 87 RX3 yX3_find wsX3_find) := goodIn_app (goodIn_of _ (by decide +kernel)) ggX7_rate_X3_find
set_option maxRecDepth 20000 in
theorem ggX7_rate_X7_asClerk : GoodIn wsX7_rate wsX7_asClerk := goodIn_r _ [14, 15, 48, 49, 50, 51, 52, 53, 54, 55, 56, 62, 63, 64, 65] (by decide +kernel) (by decide +kernel)
set_option maxRecDepth 20000 in
theorem gX7_rate_X7_asClerk : GoodIn wsX7_rate (wsV RX7 237 RX7 yX7_asClerk wsX7_asClerk) := goodIn_app (goodIn_of _ (by decide +kernel)) ggX7_rate_X7_asClerk
set_option maxRecDepth 20000 in
theorem ggX7_rate_X7_asTwin : GoodIn wsX7_rate wsX7_asTwin := goodIn_r _ [19, 15, 20, 10, 11, 12, 13, 14, 21, 22, 23, 24, 25, 26, 27, 48, 49, 50, 51, 52, 53, 54, 55, 56, 62, 63, 64, 65] (by decide +kernel) (by decide +kernel)
set_option maxRecDepth 20000 in
theorem gX7_rate_X7_asTwin : GoodIn wsX7_rate (wsV RX7 241 RX7 yX7_asTwin wsX7_asTwin) := goodIn_app (goodIn_of _ (by decide +kernel)) ggX7_rate_X7_asTwin
set_option maxRecDepth 20000 in
theorem ggX7_rate_X7_asMocker : GoodIn wsX7_rate wsX7_asMocker := goodIn_r _ [31, 15, 32, 10, 11, 12, 13, 14, 21, 22, 23, 24, 25, 26, 27, 48, 49, 50, 51, 52, 53, 54, 55, 56, 62, 63, 64, 65] (by decide +kernel) (by decide +kernel)
set_option maxRecDepth 20000 in
theorem gX7_rate_X7_asMocker : GoodIn wsX7_rate (wsV RX7 244 RX7 yX7_asMocker wsX7_asMocker) := goodIn_app (goodIn_of _ (by decide +kernel)) ggX7_rate_X7_asMocker
set_option maxRecDepth 20000 in
theorem ggX7_rate_X7_asConstant : GoodIn wsX7_rate wsX7_asConstant := goodIn_r _ [36, 15, 37, 16, 17, 18, 13, 19, 20, 10, 11, 12, 14, 21, 22, 23, 24, 25, 26, 27, 48, 49, 50, 51, 52, 53, 54, 55, 56, 62, 63, 64, 65] (by decide +kernel) (by decide +kernel)
set_option maxRecDepth 20000 in
theorem gX7_rate_X7_asConstant : GoodIn wsX7_rate (wsV RX7 247 RX7 yX7_asConstant wsX7_asConstant) := goodIn_app (goodIn_of _ (by decide +kernel)) ggX7_rate_X7_asConstant
set_option maxRecDepth 20000 in
theorem ggX7_rate_X7_asLeft : GoodIn wsX7_rate wsX7_asLeft := goodIn_r _ [41, 15, 42, 28, 29, 30, 13, 31, 32, 10, 11, 12, 14, 21, 22, 23, 24, 25, 26, 27, 48, 49, 50, 51, 52, 53, 54, 55, 56, 62, 63, 64, 65] (by decide +kernel) (by decide +kernel)
set_option maxRecDepth 20000 in
theorem gX7_rate_X7_asLeft : GoodIn wsX7_rate (wsV RX7 250 RX7 yX7_asLeft wsX7_asLeft) := goodIn_app (goodIn_of _ (by decide +kernel)) ggX7_rate_X7_asLeft
set_option maxRecDepth 20000 in
theorem ggX7_rate_X7_asHasty : GoodIn wsX7_rate wsX7_asHasty := goodIn_r _ [46, 15, 47, 10, 11, 12, 13, 14, 48, 49, 50, 51, 52, 53, 54, 55, 56, 62, 63, 64, 65] (by decide +kernel) (by decide +kernel)
set_option maxRecDepth 20000 in
theorem gX7_rate_X7_asHasty : GoodIn wsX7_rate (wsV RX7 254 RX7 yX7_asHasty wsX7_asHasty) := goodIn_app (goodIn_of _ (by decide +kernel)) ggX7_rate_X7_asHasty
theorem dX7_rate_0 : decode cX7_rate 0 = .ok (.aload_n 0, 1) := by decide +kernel
theorem dX7_rate_1 : decode cX7_rate 1 = .ok (.getfield 51, 3) := by decide +kernel
theorem dX7_rate_4 : decode cX7_rate 4 = .ok (.iload_n 2, 1) := by decide +kernel
theorem dX7_rate_5 : decode cX7_rate 5 = .ok (.invokevirtual 87, 3) := by decide +kernel
theorem dX7_rate_8 : decode cX7_rate 8 = .ok (.astore_n 3, 1) := by decide +kernel
theorem dX7_rate_9 : decode cX7_rate 9 = .ok (.aload_n 3, 1) := by decide +kernel
theorem dX7_rate_10 : decode cX7_rate 10 = .ok (.ifnonnull 6, 3) := by decide +kernel
theorem dX7_rate_13 : decode cX7_rate 13 = .ok (.ldc 236, 2) := by decide +kernel
theorem dX7_rate_15 : decode cX7_rate 15 = .ok (.ireturn, 1) := by decide +kernel
theorem dX7_rate_16 : decode cX7_rate 16 = .ok (.iload_n 1, 1) := by decide +kernel
theorem dX7_rate_17 : decode cX7_rate 17 = .ok (.tableswitch 76 0 5 #[39, 45, 51, 57, 63, 70], 39) := by decide +kernel
theorem dX7_rate_56 : decode cX7_rate 56 = .ok (.aload_n 0, 1) := by decide +kernel
theorem dX7_rate_57 : decode cX7_rate 57 = .ok (.aload_n 3, 1) := by decide +kernel
theorem dX7_rate_58 : decode cX7_rate 58 = .ok (.invokevirtual 237, 3) := by decide +kernel
theorem dX7_rate_61 : decode cX7_rate 61 = .ok (.ireturn, 1) := by decide +kernel
theorem dX7_rate_62 : decode cX7_rate 62 = .ok (.aload_n 0, 1) := by decide +kernel
theorem dX7_rate_63 : decode cX7_rate 63 = .ok (.aload_n 3, 1) := by decide +kernel
theorem dX7_rate_64 : decode cX7_rate 64 = .ok (.invokevirtual 241, 3) := by decide +kernel
theorem dX7_rate_67 : decode cX7_rate 67 = .ok (.ireturn, 1) := by decide +kernel
theorem dX7_rate_68 : decode cX7_rate 68 = .ok (.aload_n 0, 1) := by decide +kernel
theorem dX7_rate_69 : decode cX7_rate 69 = .ok (.aload_n 3, 1) := by decide +kernel
theorem dX7_rate_70 : decode cX7_rate 70 = .ok (.invokevirtual 244, 3) := by decide +kernel
theorem dX7_rate_73 : decode cX7_rate 73 = .ok (.ireturn, 1) := by decide +kernel
theorem dX7_rate_74 : decode cX7_rate 74 = .ok (.aload_n 0, 1) := by decide +kernel
theorem dX7_rate_75 : decode cX7_rate 75 = .ok (.aload_n 3, 1) := by decide +kernel
theorem dX7_rate_76 : decode cX7_rate 76 = .ok (.invokevirtual 247, 3) := by decide +kernel
theorem dX7_rate_79 : decode cX7_rate 79 = .ok (.ireturn, 1) := by decide +kernel
theorem dX7_rate_80 : decode cX7_rate 80 = .ok (.aload_n 0, 1) := by decide +kernel
theorem dX7_rate_81 : decode cX7_rate 81 = .ok (.aload_n 3, 1) := by decide +kernel
theorem dX7_rate_82 : decode cX7_rate 82 = .ok (.iload_n 2, 1) := by decide +kernel
theorem dX7_rate_83 : decode cX7_rate 83 = .ok (.invokevirtual 250, 3) := by decide +kernel
theorem dX7_rate_86 : decode cX7_rate 86 = .ok (.ireturn, 1) := by decide +kernel
theorem dX7_rate_87 : decode cX7_rate 87 = .ok (.aload_n 0, 1) := by decide +kernel
theorem dX7_rate_88 : decode cX7_rate 88 = .ok (.aload_n 3, 1) := by decide +kernel
theorem dX7_rate_89 : decode cX7_rate 89 = .ok (.invokevirtual 254, 3) := by decide +kernel
theorem dX7_rate_92 : decode cX7_rate 92 = .ok (.ireturn, 1) := by decide +kernel
theorem dX7_rate_93 : decode cX7_rate 93 = .ok (.ldc 236, 2) := by decide +kernel
theorem dX7_rate_95 : decode cX7_rate 95 = .ok (.ireturn, 1) := by decide +kernel
set_option maxRecDepth 20000 in
theorem ggX7_keep_X2_become : GoodIn wsX7_keep wsX2_become := goodIn_r _ [7, 8, 9, 10, 11, 12, 13, 14, 15, 16, 26, 27, 28, 29, 30] (by decide +kernel) (by decide +kernel)
set_option maxRecDepth 20000 in
theorem gX7_keep_X2_become : GoodIn wsX7_keep (wsV RX7 257 RX2 yX2_become wsX2_become) := goodIn_app (goodIn_of _ (by decide +kernel)) ggX7_keep_X2_become
theorem dX7_keep_0 : decode cX7_keep 0 = .ok (.iload_n 1, 1) := by decide +kernel
theorem dX7_keep_1 : decode cX7_keep 1 = .ok (.ifCond .lt 8, 3) := by decide +kernel
theorem dX7_keep_4 : decode cX7_keep 4 = .ok (.iload_n 1, 1) := by decide +kernel
theorem dX7_keep_5 : decode cX7_keep 5 = .ok (.iconst 2, 1) := by decide +kernel
theorem dX7_keep_6 : decode cX7_keep 6 = .ok (.if_icmp .lt 5, 3) := by decide +kernel
theorem dX7_keep_9 : decode cX7_keep 9 = .ok (.iconst (-1), 1) := by decide +kernel
theorem dX7_keep_10 : decode cX7_keep 10 = .ok (.ireturn, 1) := by decide +kernel
theorem dX7_keep_11 : decode cX7_keep 11 = .ok (.aload_n 0, 1) := by decide +kernel
theorem dX7_keep_12 : decode cX7_keep 12 = .ok (.getfield 23, 3) := by decide +kernel
theorem dX7_keep_15 : decode cX7_keep 15 = .ok (.iload_n 1, 1) := by decide +kernel
theorem dX7_keep_16 : decode cX7_keep 16 = .ok (.aaload, 1) := by decide +kernel
theorem dX7_keep_17 : decode cX7_keep 17 = .ok (.aload_n 0, 1) := by decide +kernel
theorem dX7_keep_18 : decode cX7_keep 18 = .ok (.getfield 19, 3) := by decide +kernel
theorem dX7_keep_21 : decode cX7_keep 21 = .ok (.invokevirtual 257, 3) := by decide +kernel
theorem dX7_keep_24 : decode cX7_keep 24 = .ok (.aload_n 0, 1) := by decide +kernel
theorem dX7_keep_25 : decode cX7_keep 25 = .ok (.getfield 19, 3) := by decide +kernel
theorem dX7_keep_28 : decode cX7_keep 28 = .ok (.getfield 105, 3) := by decide +kernel
theorem dX7_keep_31 : decode cX7_keep 31 = .ok (.ireturn, 1) := by decide +kernel
set_option maxRecDepth 20000 in
theorem ggX7_back_X2_isBlank : GoodIn wsX7_back wsX2_isBlank := goodIn_r _ [7, 8, 30, 31, 32, 33, 34] (by decide +kernel) (by decide +kernel)
set_option maxRecDepth 20000 in
theorem gX7_back_X2_isBlank : GoodIn wsX7_back (wsV RX7 261 RX2 yX2_isBlank wsX2_isBlank) := goodIn_app (goodIn_of _ (by decide +kernel)) ggX7_back_X2_isBlank
set_option maxRecDepth 20000 in
theorem ggX7_back_X2_become : GoodIn wsX7_back wsX2_become := goodIn_r _ [12, 13, 14, 15, 16, 17, 18, 19, 8, 20, 30, 31, 32, 33, 34] (by decide +kernel) (by decide +kernel)
set_option maxRecDepth 20000 in
theorem gX7_back_X2_become : GoodIn wsX7_back (wsV RX7 257 RX2 yX2_become wsX2_become) := goodIn_app (goodIn_of _ (by decide +kernel)) ggX7_back_X2_become
theorem dX7_back_0 : decode cX7_back 0 = .ok (.iload_n 1, 1) := by decide +kernel
theorem dX7_back_1 : decode cX7_back 1 = .ok (.ifCond .lt 8, 3) := by decide +kernel
theorem dX7_back_4 : decode cX7_back 4 = .ok (.iload_n 1, 1) := by decide +kernel
theorem dX7_back_5 : decode cX7_back 5 = .ok (.iconst 2, 1) := by decide +kernel
theorem dX7_back_6 : decode cX7_back 6 = .ok (.if_icmp .lt 5, 3) := by decide +kernel
theorem dX7_back_9 : decode cX7_back 9 = .ok (.iconst (-1), 1) := by decide +kernel
theorem dX7_back_10 : decode cX7_back 10 = .ok (.ireturn, 1) := by decide +kernel
theorem dX7_back_11 : decode cX7_back 11 = .ok (.aload_n 0, 1) := by decide +kernel
theorem dX7_back_12 : decode cX7_back 12 = .ok (.getfield 23, 3) := by decide +kernel
theorem dX7_back_15 : decode cX7_back 15 = .ok (.iload_n 1, 1) := by decide +kernel
theorem dX7_back_16 : decode cX7_back 16 = .ok (.aaload, 1) := by decide +kernel
theorem dX7_back_17 : decode cX7_back 17 = .ok (.invokevirtual 261, 3) := by decide +kernel
theorem dX7_back_20 : decode cX7_back 20 = .ok (.ifCond .eq 6, 3) := by decide +kernel
theorem dX7_back_23 : decode cX7_back 23 = .ok (.bipush (-2), 2) := by decide +kernel
theorem dX7_back_25 : decode cX7_back 25 = .ok (.ireturn, 1) := by decide +kernel
theorem dX7_back_26 : decode cX7_back 26 = .ok (.aload_n 0, 1) := by decide +kernel
theorem dX7_back_27 : decode cX7_back 27 = .ok (.getfield 19, 3) := by decide +kernel
theorem dX7_back_30 : decode cX7_back 30 = .ok (.aload_n 0, 1) := by decide +kernel
theorem dX7_back_31 : decode cX7_back 31 = .ok (.getfield 23, 3) := by decide +kernel
theorem dX7_back_34 : decode cX7_back 34 = .ok (.iload_n 1, 1) := by decide +kernel
theorem dX7_back_35 : decode cX7_back 35 = .ok (.aaload, 1) := by decide +kernel
theorem dX7_back_36 : decode cX7_back 36 = .ok (.invokevirtual 257, 3) := by decide +kernel
theorem dX7_back_39 : decode cX7_back 39 = .ok (.aload_n 0, 1) := by decide +kernel
theorem dX7_back_40 : decode cX7_back 40 = .ok (.getfield 19, 3) := by decide +kernel
theorem dX7_back_43 : decode cX7_back 43 = .ok (.getfield 105, 3) := by decide +kernel
theorem dX7_back_46 : decode cX7_back 46 = .ok (.ireturn, 1) := by decide +kernel
theorem dX7_count_0 : decode cX7_count 0 = .ok (.iload_n 1, 1) := by decide +kernel
theorem dX7_count_1 : decode cX7_count 1 = .ok (.tableswitch 75 0 4 #[35, 43, 51, 59, 67], 35) := by decide +kernel
theorem dX7_count_36 : decode cX7_count 36 = .ok (.aload_n 0, 1) := by decide +kernel
theorem dX7_count_37 : decode cX7_count 37 = .ok (.getfield 51, 3) := by decide +kernel
theorem dX7_count_40 : decode cX7_count 40 = .ok (.getfield 264, 3) := by decide +kernel
theorem dX7_count_43 : decode cX7_count 43 = .ok (.ireturn, 1) := by decide +kernel
theorem dX7_count_44 : decode cX7_count 44 = .ok (.aload_n 0, 1) := by decide +kernel
theorem dX7_count_45 : decode cX7_count 45 = .ok (.getfield 19, 3) := by decide +kernel
theorem dX7_count_48 : decode cX7_count 48 = .ok (.getfield 105, 3) := by decide +kernel
theorem dX7_count_51 : decode cX7_count 51 = .ok (.ireturn, 1) := by decide +kernel
theorem dX7_count_52 : decode cX7_count 52 = .ok (.aload_n 0, 1) := by decide +kernel
theorem dX7_count_53 : decode cX7_count 53 = .ok (.getfield 30, 3) := by decide +kernel
theorem dX7_count_56 : decode cX7_count 56 = .ok (.getfield 198, 3) := by decide +kernel
theorem dX7_count_59 : decode cX7_count 59 = .ok (.ireturn, 1) := by decide +kernel
theorem dX7_count_60 : decode cX7_count 60 = .ok (.aload_n 0, 1) := by decide +kernel
theorem dX7_count_61 : decode cX7_count 61 = .ok (.getfield 37, 3) := by decide +kernel
theorem dX7_count_64 : decode cX7_count 64 = .ok (.getfield 226, 3) := by decide +kernel
theorem dX7_count_67 : decode cX7_count 67 = .ok (.ireturn, 1) := by decide +kernel
theorem dX7_count_68 : decode cX7_count 68 = .ok (.aload_n 0, 1) := by decide +kernel
theorem dX7_count_69 : decode cX7_count 69 = .ok (.getfield 10, 3) := by decide +kernel
theorem dX7_count_72 : decode cX7_count 72 = .ok (.getfield 73, 3) := by decide +kernel
theorem dX7_count_75 : decode cX7_count 75 = .ok (.ireturn, 1) := by decide +kernel
theorem dX7_count_76 : decode cX7_count 76 = .ok (.iconst (-1), 1) := by decide +kernel
theorem dX7_count_77 : decode cX7_count 77 = .ok (.ireturn, 1) := by decide +kernel
theorem dX7_trace_0 : decode cX7_trace 0 = .ok (.aload_n 0, 1) := by decide +kernel
theorem dX7_trace_1 : decode cX7_trace 1 = .ok (.getfield 58, 3) := by decide +kernel
theorem dX7_trace_4 : decode cX7_trace 4 = .ok (.lreturn, 1) := by decide +kernel
set_option maxRecDepth 20000 in
theorem ggX7_beginAnew_X2_begin : GoodIn wsX7_beginAnew wsX2_begin := goodIn_r _ [11, 12, 13, 14, 15, 10, 16, 17, 18, 19, 20, 21, 22, 23, 50, 51, 52, 53, 54] (by decide +kernel) (by decide +kernel)
set_option maxRecDepth 20000 in
theorem gX7_beginAnew_X2_begin : GoodIn wsX7_beginAnew (wsV RX7 69 RX2 yX2_begin wsX2_begin) := goodIn_app (goodIn_of _ (by decide +kernel)) ggX7_beginAnew_X2_begin
theorem dX7_beginAnew_0 : decode cX7_beginAnew 0 = .ok (.aload_n 0, 1) := by decide +kernel
theorem dX7_beginAnew_1 : decode cX7_beginAnew 1 = .ok (.getfield 10, 3) := by decide +kernel
theorem dX7_beginAnew_4 : decode cX7_beginAnew 4 = .ok (.iconst 0, 1) := by decide +kernel
theorem dX7_beginAnew_5 : decode cX7_beginAnew 5 = .ok (.putfield 73, 3) := by decide +kernel
theorem dX7_beginAnew_8 : decode cX7_beginAnew 8 = .ok (.aload_n 0, 1) := by decide +kernel
theorem dX7_beginAnew_9 : decode cX7_beginAnew 9 = .ok (.getfield 19, 3) := by decide +kernel
theorem dX7_beginAnew_12 : decode cX7_beginAnew 12 = .ok (.aload_n 0, 1) := by decide +kernel
theorem dX7_beginAnew_13 : decode cX7_beginAnew 13 = .ok (.getfield 51, 3) := by decide +kernel
theorem dX7_beginAnew_16 : decode cX7_beginAnew 16 = .ok (.getfield 62, 3) := by decide +kernel
theorem dX7_beginAnew_19 : decode cX7_beginAnew 19 = .ok (.aload_n 0, 1) := by decide +kernel
theorem dX7_beginAnew_20 : decode cX7_beginAnew 20 = .ok (.getfield 51, 3) := by decide +kernel
theorem dX7_beginAnew_23 : decode cX7_beginAnew 23 = .ok (.getfield 66, 3) := by decide +kernel
theorem dX7_beginAnew_26 : decode cX7_beginAnew 26 = .ok (.invokevirtual 69, 3) := by decide +kernel
theorem dX7_beginAnew_29 : decode cX7_beginAnew 29 = .ok (.aload_n 0, 1) := by decide +kernel
theorem dX7_beginAnew_30 : decode cX7_beginAnew 30 = .ok (.getfield 30, 3) := by decide +kernel
theorem dX7_beginAnew_33 : decode cX7_beginAnew 33 = .ok (.iconst 0, 1) := by decide +kernel
theorem dX7_beginAnew_34 : decode cX7_beginAnew 34 = .ok (.putfield 198, 3) := by decide +kernel
theorem dX7_beginAnew_37 : decode cX7_beginAnew 37 = .ok (.aload_n 0, 1) := by decide +kernel
theorem dX7_beginAnew_38 : decode cX7_beginAnew 38 = .ok (.getfield 37, 3) := by decide +kernel
theorem dX7_beginAnew_41 : decode cX7_beginAnew 41 = .ok (.iconst 0, 1) := by decide +kernel
theorem dX7_beginAnew_42 : decode cX7_beginAnew 42 = .ok (.putfield 226, 3) := by decide +kernel
theorem dX7_beginAnew_45 : decode cX7_beginAnew 45 = .ok (.iconst 0, 1) := by decide +kernel
theorem dX7_beginAnew_46 : decode cX7_beginAnew 46 = .ok (.istore_n 1, 1) := by decide +kernel
theorem dX7_beginAnew_47 : decode cX7_beginAnew 47 = .ok (.iload_n 1, 1) := by decide +kernel
theorem dX7_beginAnew_48 : decode cX7_beginAnew 48 = .ok (.iconst 2, 1) := by decide +kernel
theorem dX7_beginAnew_49 : decode cX7_beginAnew 49 = .ok (.if_icmp .ge 19, 3) := by decide +kernel
theorem dX7_beginAnew_52 : decode cX7_beginAnew 52 = .ok (.aload_n 0, 1) := by decide +kernel
theorem dX7_beginAnew_53 : decode cX7_beginAnew 53 = .ok (.getfield 23, 3) := by decide +kernel
theorem dX7_beginAnew_56 : decode cX7_beginAnew 56 = .ok (.iload_n 1, 1) := by decide +kernel
theorem dX7_beginAnew_57 : decode cX7_beginAnew 57 = .ok (.aaload, 1) := by decide +kernel
theorem dX7_beginAnew_58 : decode cX7_beginAnew 58 = .ok (.iconst 0, 1) := by decide +kernel
theorem dX7_beginAnew_59 : decode cX7_beginAnew 59 = .ok (.putfield 105, 3) := by decide +kernel
theorem dX7_beginAnew_62 : decode cX7_beginAnew 62 = .ok (.iinc 1 1, 3) := by decide +kernel
theorem dX7_beginAnew_65 : decode cX7_beginAnew 65 = .ok (.goto (-18), 3) := by decide +kernel
theorem dX7_beginAnew_68 : decode cX7_beginAnew 68 = .ok (.return_, 1) := by decide +kernel
theorem dX7_isTone_0 : decode cX7_isTone 0 = .ok (.iload_n 0, 1) := by decide +kernel
theorem dX7_isTone_1 : decode cX7_isTone 1 = .ok (.ifCond .lt 13, 3) := by decide +kernel
theorem dX7_isTone_4 : decode cX7_isTone 4 = .ok (.iload_n 0, 1) := by decide +kernel
theorem dX7_isTone_5 : decode cX7_isTone 5 = .ok (.bipush 9, 2) := by decide +kernel
theorem dX7_isTone_7 : decode cX7_isTone 7 = .ok (.if_icmp .gt 7, 3) := by decide +kernel
theorem dX7_isTone_10 : decode cX7_isTone 10 = .ok (.iconst 1, 1) := by decide +kernel
theorem dX7_isTone_11 : decode cX7_isTone 11 = .ok (.goto 4, 3) := by decide +kernel
theorem dX7_isTone_14 : decode cX7_isTone 14 = .ok (.iconst 0, 1) := by decide +kernel
theorem dX7_isTone_15 : decode cX7_isTone 15 = .ok (.ireturn, 1) := by decide +kernel
set_option maxRecDepth 20000 in
theorem ggX7_isLine_X7_isTone : GoodIn wsX7_isLine wsX7_isTone := goodIn_r _ [4] (by decide +kernel) (by decide +kernel)
set_option maxRecDepth 20000 in
theorem gX7_isLine_X7_isTone : GoodIn wsX7_isLine (va_wsS RX7 184 yX7_isTone wsX7_isTone) := goodIn_app (goodIn_of _ (by decide +kernel)) ggX7_isLine_X7_isTone
theorem dX7_isLine_0 : decode cX7_isLine 0 = .ok (.iload_n 0, 1) := by decide +kernel
theorem dX7_isLine_1 : decode cX7_isLine 1 = .ok (.invokestatic 184, 3) := by decide +kernel
theorem dX7_isLine_4 : decode cX7_isLine 4 = .ok (.ifCond .eq 17, 3) := by decide +kernel
theorem dX7_isLine_7 : decode cX7_isLine 7 = .ok (.iload_n 1, 1) := by decide +kernel
theorem dX7_isLine_8 : decode cX7_isLine 8 = .ok (.ifCond .lt 13, 3) := by decide +kernel
theorem dX7_isLine_11 : decode cX7_isLine 11 = .ok (.iload_n 1, 1) := by decide +kernel
theorem dX7_isLine_12 : decode cX7_isLine 12 = .ok (.bipush 7, 2) := by decide +kernel
theorem dX7_isLine_14 : decode cX7_isLine 14 = .ok (.if_icmp .gt 7, 3) := by decide +kernel
theorem dX7_isLine_17 : decode cX7_isLine 17 = .ok (.iconst 1, 1) := by decide +kernel
theorem dX7_isLine_18 : decode cX7_isLine 18 = .ok (.goto 4, 3) := by decide +kernel
theorem dX7_isLine_21 : decode cX7_isLine 21 = .ok (.iconst 0, 1) := by decide +kernel
theorem dX7_isLine_22 : decode cX7_isLine 22 = .ok (.ireturn, 1) := by decide +kernel
theorem dX7_isWarm_0 : decode cX7_isWarm 0 = .ok (.iload_n 0, 1) := by decide +kernel
theorem dX7_isWarm_1 : decode cX7_isWarm 1 = .ok (.iconst 5, 1) := by decide +kernel
theorem dX7_isWarm_2 : decode cX7_isWarm 2 = .ok (.if_icmp .lt 7, 3) := by decide +kernel
theorem dX7_isWarm_5 : decode cX7_isWarm 5 = .ok (.iconst 1, 1) := by decide +kernel
theorem dX7_isWarm_6 : decode cX7_isWarm 6 = .ok (.goto 4, 3) := by decide +kernel
theorem dX7_isWarm_9 : decode cX7_isWarm 9 = .ok (.iconst 0, 1) := by decide +kernel
theorem dX7_isWarm_10 : decode cX7_isWarm 10 = .ok (.ireturn, 1) := by decide +kernel
theorem dX7_leant_0 : decode cX7_leant 0 = .ok (.iconst 0, 1) := by decide +kernel
theorem dX7_leant_1 : decode cX7_leant 1 = .ok (.bipush 9, 2) := by decide +kernel
theorem dX7_leant_3 : decode cX7_leant 3 = .ok (.iload_n 0, 1) := by decide +kernel
theorem dX7_leant_4 : decode cX7_leant 4 = .ok (.iload_n 1, 1) := by decide +kernel
theorem dX7_leant_5 : decode cX7_leant 5 = .ok (.iadd, 1) := by decide +kernel
theorem dX7_leant_6 : decode cX7_leant 6 = .ok (.iconst 4, 1) := by decide +kernel
theorem dX7_leant_7 : decode cX7_leant 7 = .ok (.isub, 1) := by decide +kernel
theorem dX7_leant_8 : decode cX7_leant 8 = .ok (.invokestatic 265, 3) := by decide +kernel
theorem dX7_leant_11 : decode cX7_leant 11 = .ok (.invokestatic 270, 3) := by decide +kernel
theorem dX7_leant_14 : decode cX7_leant 14 = .ok (.ireturn, 1) := by decide +kernel
theorem dX7_told_0 : decode cX7_told 0 = .ok (.iload_n 0, 1) := by decide +kernel
theorem dX7_told_1 : decode cX7_told 1 = .ok (.bipush 10, 2) := by decide +kernel
theorem dX7_told_3 : decode cX7_told 3 = .ok (.iload_n 1, 1) := by decide +kernel
theorem dX7_told_4 : decode cX7_told 4 = .ok (.imul, 1) := by decide +kernel
theorem dX7_told_5 : decode cX7_told 5 = .ok (.iadd, 1) := by decide +kernel
theorem dX7_told_6 : decode cX7_told 6 = .ok (.ireturn, 1) := by decide +kernel
theorem dX7_hasLineAhead_0 : decode cX7_hasLineAhead 0 = .ok (.iload_n 1, 1) := by decide +kernel
theorem dX7_hasLineAhead_1 : decode cX7_hasLineAhead 1 = .ok (.iconst 1, 1) := by decide +kernel
theorem dX7_hasLineAhead_2 : decode cX7_hasLineAhead 2 = .ok (.if_icmp .lt 18, 3) := by decide +kernel
theorem dX7_hasLineAhead_5 : decode cX7_hasLineAhead 5 = .ok (.iload_n 1, 1) := by decide +kernel
theorem dX7_hasLineAhead_6 : decode cX7_hasLineAhead 6 = .ok (.aload_n 0, 1) := by decide +kernel
theorem dX7_hasLineAhead_7 : decode cX7_hasLineAhead 7 = .ok (.getfield 19, 3) := by decide +kernel
theorem dX7_hasLineAhead_10 : decode cX7_hasLineAhead 10 = .ok (.getfield 105, 3) := by decide +kernel
theorem dX7_hasLineAhead_13 : decode cX7_hasLineAhead 13 = .ok (.if_icmp .ge 7, 3) := by decide +kernel
theorem dX7_hasLineAhead_16 : decode cX7_hasLineAhead 16 = .ok (.iconst 1, 1) := by decide +kernel
theorem dX7_hasLineAhead_17 : decode cX7_hasLineAhead 17 = .ok (.goto 4, 3) := by decide +kernel
theorem dX7_hasLineAhead_20 : decode cX7_hasLineAhead 20 = .ok (.iconst 0, 1) := by decide +kernel
theorem dX7_hasLineAhead_21 : decode cX7_hasLineAhead 21 = .ok (.ireturn, 1) := by decide +kernel
set_option maxRecDepth 20000 in
theorem ggX7_waysOf_X3_find : GoodIn wsX7_waysOf wsX3_find := goodIn_r _ [7, 8, 9, 55, 56, 57, 58, 59] (by decide +kernel) (by decide +kernel)
set_option maxRecDepth 20000 in
theorem gX7_waysOf_X3_find : GoodIn wsX7_waysOf (wsV RX7 87 RX3 yX3_find wsX3_find) := goodIn_app (goodIn_of _ (by decide +kernel)) ggX7_waysOf_X3_find
set_option maxRecDepth 20000 in
theorem ggX7_waysOf_X7_hasLineAhead : GoodIn wsX7_waysOf wsX7_hasLineAhead := goodIn_r _ [14, 2, 41, 42, 43, 44, 45, 46, 47, 48, 49, 50, 51, 52, 53, 54] (by decide +kernel) (by decide +kernel)
set_option maxRecDepth 20000 in
theorem gX7_waysOf_X7_hasLineAhead : GoodIn wsX7_waysOf (wsV RX7 158 RX7 yX7_hasLineAhead wsX7_hasLineAhead) := goodIn_app (goodIn_of _ (by decide +kernel)) ggX7_waysOf_X7_hasLineAhead
set_option maxRecDepth 20000 in
theorem ggX7_waysOf_X0_waysTo : GoodIn wsX7_waysOf wsX0_waysTo := goodIn_r _ [19, 20, 21, 22, 23, 18, 24, 25, 26, 13, 27, 28, 29, 30, 31, 32, 33, 34, 35, 36, 37, 38, 39, 40, 60, 61, 62, 63] (by decide +kernel) (by decide +kernel)
set_option maxRecDepth 20000 in
theorem gX7_waysOf_X0_waysTo : GoodIn wsX7_waysOf (wsV RX7 273 RX0 yX0_waysTo wsX0_waysTo) := goodIn_app (goodIn_of _ (by decide +kernel)) ggX7_waysOf_X0_waysTo
theorem dX7_waysOf_0 : decode cX7_waysOf 0 = .ok (.aload_n 0, 1) := by decide +kernel
theorem dX7_waysOf_1 : decode cX7_waysOf 1 = .ok (.getfield 51, 3) := by decide +kernel
theorem dX7_waysOf_4 : decode cX7_waysOf 4 = .ok (.iload_n 1, 1) := by decide +kernel
theorem dX7_waysOf_5 : decode cX7_waysOf 5 = .ok (.invokevirtual 87, 3) := by decide +kernel
theorem dX7_waysOf_8 : decode cX7_waysOf 8 = .ok (.astore_n 3, 1) := by decide +kernel
theorem dX7_waysOf_9 : decode cX7_waysOf 9 = .ok (.aload_n 3, 1) := by decide +kernel
theorem dX7_waysOf_10 : decode cX7_waysOf 10 = .ok (.ifnull 11, 3) := by decide +kernel
theorem dX7_waysOf_13 : decode cX7_waysOf 13 = .ok (.aload_n 0, 1) := by decide +kernel
theorem dX7_waysOf_14 : decode cX7_waysOf 14 = .ok (.iload_n 2, 1) := by decide +kernel
theorem dX7_waysOf_15 : decode cX7_waysOf 15 = .ok (.invokevirtual 158, 3) := by decide +kernel
theorem dX7_waysOf_18 : decode cX7_waysOf 18 = .ok (.ifCond .ne 5, 3) := by decide +kernel
theorem dX7_waysOf_21 : decode cX7_waysOf 21 = .ok (.iconst 0, 1) := by decide +kernel
theorem dX7_waysOf_22 : decode cX7_waysOf 22 = .ok (.ireturn, 1) := by decide +kernel
theorem dX7_waysOf_23 : decode cX7_waysOf 23 = .ok (.aload_n 0, 1) := by decide +kernel
theorem dX7_waysOf_24 : decode cX7_waysOf 24 = .ok (.getfield 19, 3) := by decide +kernel
theorem dX7_waysOf_27 : decode cX7_waysOf 27 = .ok (.getfield 108, 3) := by decide +kernel
theorem dX7_waysOf_30 : decode cX7_waysOf 30 = .ok (.iload_n 2, 1) := by decide +kernel
theorem dX7_waysOf_31 : decode cX7_waysOf 31 = .ok (.iconst 1, 1) := by decide +kernel
theorem dX7_waysOf_32 : decode cX7_waysOf 32 = .ok (.isub, 1) := by decide +kernel
theorem dX7_waysOf_33 : decode cX7_waysOf 33 = .ok (.iaload, 1) := by decide +kernel
theorem dX7_waysOf_34 : decode cX7_waysOf 34 = .ok (.istore 4, 2) := by decide +kernel
theorem dX7_waysOf_36 : decode cX7_waysOf 36 = .ok (.aload_n 0, 1) := by decide +kernel
theorem dX7_waysOf_37 : decode cX7_waysOf 37 = .ok (.getfield 19, 3) := by decide +kernel
theorem dX7_waysOf_40 : decode cX7_waysOf 40 = .ok (.getfield 112, 3) := by decide +kernel
theorem dX7_waysOf_43 : decode cX7_waysOf 43 = .ok (.iload_n 2, 1) := by decide +kernel
theorem dX7_waysOf_44 : decode cX7_waysOf 44 = .ok (.iconst 1, 1) := by decide +kernel
theorem dX7_waysOf_45 : decode cX7_waysOf 45 = .ok (.isub, 1) := by decide +kernel
theorem dX7_waysOf_46 : decode cX7_waysOf 46 = .ok (.iaload, 1) := by decide +kernel
theorem dX7_waysOf_47 : decode cX7_waysOf 47 = .ok (.istore 5, 2) := by decide +kernel
theorem dX7_waysOf_49 : decode cX7_waysOf 49 = .ok (.aload_n 3, 1) := by decide +kernel
theorem dX7_waysOf_50 : decode cX7_waysOf 50 = .ok (.iload 4, 2) := by decide +kernel
theorem dX7_waysOf_52 : decode cX7_waysOf 52 = .ok (.iload 5, 2) := by decide +kernel
theorem dX7_waysOf_54 : decode cX7_waysOf 54 = .ok (.aload_n 0, 1) := by decide +kernel
theorem dX7_waysOf_55 : decode cX7_waysOf 55 = .ok (.getfield 19, 3) := by decide +kernel
theorem dX7_waysOf_58 : decode cX7_waysOf 58 = .ok (.getfield 108, 3) := by decide +kernel
theorem dX7_waysOf_61 : decode cX7_waysOf 61 = .ok (.iload_n 2, 1) := by decide +kernel
theorem dX7_waysOf_62 : decode cX7_waysOf 62 = .ok (.iaload, 1) := by decide +kernel
theorem dX7_waysOf_63 : decode cX7_waysOf 63 = .ok (.aload_n 0, 1) := by decide +kernel
theorem dX7_waysOf_64 : decode cX7_waysOf 64 = .ok (.getfield 19, 3) := by decide +kernel
theorem dX7_waysOf_67 : decode cX7_waysOf 67 = .ok (.getfield 112, 3) := by decide +kernel
theorem dX7_waysOf_70 : decode cX7_waysOf 70 = .ok (.iload_n 2, 1) := by decide +kernel
theorem dX7_waysOf_71 : decode cX7_waysOf 71 = .ok (.iaload, 1) := by decide +kernel
theorem dX7_waysOf_72 : decode cX7_waysOf 72 = .ok (.invokevirtual 273, 3) := by decide +kernel
theorem dX7_waysOf_75 : decode cX7_waysOf 75 = .ok (.ireturn, 1) := by decide +kernel
set_option maxRecDepth 20000 in
theorem ggX7_waysOfAll_X7_waysOf : GoodIn wsX7_waysOfAll wsX7_waysOf := goodIn_r _ [6, 1, 7, 8, 9, 10, 11, 12, 13, 14, 15, 16, 17, 5, 18, 19, 20, 21, 22, 23, 24, 25, 26, 27, 28, 29, 30, 31, 32, 33, 34, 35, 36, 37, 38, 39, 40, 41, 42, 43, 44, 45, 46, 47, 48, 49, 50, 51, 52, 53, 59, 60, 61, 62, 63, 54, 55, 56, 57, 58, 64, 65, 66, 67] (by decide +kernel) (by decide +kernel)
set_option maxRecDepth 20000 in
theorem gX7_waysOfAll_X7_waysOf : GoodIn wsX7_waysOfAll (wsV RX7 175 RX7 yX7_waysOf wsX7_waysOf) := goodIn_app (goodIn_of _ (by decide +kernel)) ggX7_waysOfAll_X7_waysOf
theorem dX7_waysOfAll_0 : decode cX7_waysOfAll 0 = .ok (.iconst 0, 1) := by decide +kernel
theorem dX7_waysOfAll_1 : decode cX7_waysOfAll 1 = .ok (.istore_n 2, 1) := by decide +kernel
theorem dX7_waysOfAll_2 : decode cX7_waysOfAll 2 = .ok (.iconst 0, 1) := by decide +kernel
theorem dX7_waysOfAll_3 : decode cX7_waysOfAll 3 = .ok (.istore_n 3, 1) := by decide +kernel
theorem dX7_waysOfAll_4 : decode cX7_waysOfAll 4 = .ok (.iload_n 3, 1) := by decide +kernel
theorem dX7_waysOfAll_5 : decode cX7_waysOfAll 5 = .ok (.aload_n 0, 1) := by decide +kernel
theorem dX7_waysOfAll_6 : decode cX7_waysOfAll 6 = .ok (.getfield 51, 3) := by decide +kernel
theorem dX7_waysOfAll_9 : decode cX7_waysOfAll 9 = .ok (.getfield 264, 3) := by decide +kernel
theorem dX7_waysOfAll_12 : decode cX7_waysOfAll 12 = .ok (.if_icmp .ge 18, 3) := by decide +kernel
theorem dX7_waysOfAll_15 : decode cX7_waysOfAll 15 = .ok (.iload_n 2, 1) := by decide +kernel
theorem dX7_waysOfAll_16 : decode cX7_waysOfAll 16 = .ok (.aload_n 0, 1) := by decide +kernel
theorem dX7_waysOfAll_17 : decode cX7_waysOfAll 17 = .ok (.iload_n 3, 1) := by decide +kernel
theorem dX7_waysOfAll_18 : decode cX7_waysOfAll 18 = .ok (.iload_n 1, 1) := by decide +kernel
theorem dX7_waysOfAll_19 : decode cX7_waysOfAll 19 = .ok (.invokevirtual 175, 3) := by decide +kernel
theorem dX7_waysOfAll_22 : decode cX7_waysOfAll 22 = .ok (.iadd, 1) := by decide +kernel
theorem dX7_waysOfAll_23 : decode cX7_waysOfAll 23 = .ok (.istore_n 2, 1) := by decide +kernel
theorem dX7_waysOfAll_24 : decode cX7_waysOfAll 24 = .ok (.iinc 3 1, 3) := by decide +kernel
theorem dX7_waysOfAll_27 : decode cX7_waysOfAll 27 = .ok (.goto (-23), 3) := by decide +kernel
theorem dX7_waysOfAll_30 : decode cX7_waysOfAll 30 = .ok (.iload_n 2, 1) := by decide +kernel
theorem dX7_waysOfAll_31 : decode cX7_waysOfAll 31 = .ok (.ireturn, 1) := by decide +kernel
set_option maxRecDepth 20000 in
theorem ggX7_writersOf_X7_waysOf : GoodIn wsX7_writersOf wsX7_waysOf := goodIn_r _ [6, 1, 7, 8, 9, 10, 11, 12, 13, 14, 15, 16, 17, 5, 18, 19, 20, 21, 22, 23, 24, 25, 26, 27, 28, 29, 30, 31, 32, 33, 34, 35, 36, 37, 38, 39, 40, 41, 42, 43, 44, 45, 46, 47, 48, 49, 50, 51, 52, 53, 59, 60, 61, 62, 63, 54, 55, 56, 57, 58, 64, 65, 66, 67] (by decide +kernel) (by decide +kernel)
set_option maxRecDepth 20000 in
theorem gX7_writersOf_X7_waysOf : GoodIn wsX7_writersOf (wsV RX7 175 RX7 yX7_waysOf wsX7_waysOf) := goodIn_app (goodIn_of _ (by decide +kernel)) ggX7_writersOf_X7_waysOf
theorem dX7_writersOf_0 : decode cX7_writersOf 0 = .ok (.iconst 0, 1) := by decide +kernel
theorem dX7_writersOf_1 : decode cX7_writersOf 1 = .ok (.istore_n 2, 1) := by decide +kernel
theorem dX7_writersOf_2 : decode cX7_writersOf 2 = .ok (.iconst 0, 1) := by decide +kernel
theorem dX7_writersOf_3 : decode cX7_writersOf 3 = .ok (.istore_n 3, 1) := by decide +kernel
theorem dX7_writersOf_4 : decode cX7_writersOf 4 = .ok (.iload_n 3, 1) := by decide +kernel
theorem dX7_writersOf_5 : decode cX7_writersOf 5 = .ok (.aload_n 0, 1) := by decide +kernel
theorem dX7_writersOf_6 : decode cX7_writersOf 6 = .ok (.getfield 51, 3) := by decide +kernel
theorem dX7_writersOf_9 : decode cX7_writersOf 9 = .ok (.getfield 264, 3) := by decide +kernel
theorem dX7_writersOf_12 : decode cX7_writersOf 12 = .ok (.if_icmp .ge 24, 3) := by decide +kernel
theorem dX7_writersOf_15 : decode cX7_writersOf 15 = .ok (.aload_n 0, 1) := by decide +kernel
theorem dX7_writersOf_16 : decode cX7_writersOf 16 = .ok (.iload_n 3, 1) := by decide +kernel
theorem dX7_writersOf_17 : decode cX7_writersOf 17 = .ok (.iload_n 1, 1) := by decide +kernel
theorem dX7_writersOf_18 : decode cX7_writersOf 18 = .ok (.invokevirtual 175, 3) := by decide +kernel
theorem dX7_writersOf_21 : decode cX7_writersOf 21 = .ok (.ifCond .le 9, 3) := by decide +kernel
theorem dX7_writersOf_24 : decode cX7_writersOf 24 = .ok (.iload_n 2, 1) := by decide +kernel
theorem dX7_writersOf_25 : decode cX7_writersOf 25 = .ok (.iconst 1, 1) := by decide +kernel
theorem dX7_writersOf_26 : decode cX7_writersOf 26 = .ok (.iload_n 3, 1) := by decide +kernel
theorem dX7_writersOf_27 : decode cX7_writersOf 27 = .ok (.ishl, 1) := by decide +kernel
theorem dX7_writersOf_28 : decode cX7_writersOf 28 = .ok (.ior, 1) := by decide +kernel
theorem dX7_writersOf_29 : decode cX7_writersOf 29 = .ok (.istore_n 2, 1) := by decide +kernel
theorem dX7_writersOf_30 : decode cX7_writersOf 30 = .ok (.iinc 3 1, 3) := by decide +kernel
theorem dX7_writersOf_33 : decode cX7_writersOf 33 = .ok (.goto (-29), 3) := by decide +kernel
theorem dX7_writersOf_36 : decode cX7_writersOf 36 = .ok (.iload_n 2, 1) := by decide +kernel
theorem dX7_writersOf_37 : decode cX7_writersOf 37 = .ok (.ireturn, 1) := by decide +kernel
set_option maxRecDepth 20000 in
theorem ggX7_likeliestOf_X7_waysOf : GoodIn wsX7_likeliestOf wsX7_waysOf := goodIn_r _ [6, 1, 7, 8, 9, 10, 11, 12, 13, 14, 15, 16, 17, 5, 18, 19, 20, 21, 22, 23, 24, 25, 26, 27, 28, 29, 30, 31, 32, 33, 34, 35, 36, 37, 38, 39, 40, 41, 42, 43, 44, 45, 46, 47, 48, 49, 50, 51, 52, 53, 59, 60, 61, 62, 63, 54, 55, 56, 57, 58, 64, 65, 66, 67] (by decide +kernel) (by decide +kernel)
set_option maxRecDepth 20000 in
theorem gX7_likeliestOf_X7_waysOf : GoodIn wsX7_likeliestOf (wsV RX7 175 RX7 yX7_waysOf wsX7_waysOf) := goodIn_app (goodIn_of _ (by decide +kernel)) ggX7_likeliestOf_X7_waysOf
theorem dX7_likeliestOf_0 : decode cX7_likeliestOf 0 = .ok (.bipush (-9), 2) := by decide +kernel
theorem dX7_likeliestOf_2 : decode cX7_likeliestOf 2 = .ok (.istore_n 2, 1) := by decide +kernel
theorem dX7_likeliestOf_3 : decode cX7_likeliestOf 3 = .ok (.iconst 0, 1) := by decide +kernel
theorem dX7_likeliestOf_4 : decode cX7_likeliestOf 4 = .ok (.istore_n 3, 1) := by decide +kernel
theorem dX7_likeliestOf_5 : decode cX7_likeliestOf 5 = .ok (.iconst 0, 1) := by decide +kernel
theorem dX7_likeliestOf_6 : decode cX7_likeliestOf 6 = .ok (.istore 4, 2) := by decide +kernel
theorem dX7_likeliestOf_8 : decode cX7_likeliestOf 8 = .ok (.iload 4, 2) := by decide +kernel
theorem dX7_likeliestOf_10 : decode cX7_likeliestOf 10 = .ok (.aload_n 0, 1) := by decide +kernel
theorem dX7_likeliestOf_11 : decode cX7_likeliestOf 11 = .ok (.getfield 51, 3) := by decide +kernel
theorem dX7_likeliestOf_14 : decode cX7_likeliestOf 14 = .ok (.getfield 264, 3) := by decide +kernel
theorem dX7_likeliestOf_17 : decode cX7_likeliestOf 17 = .ok (.if_icmp .ge 30, 3) := by decide +kernel
theorem dX7_likeliestOf_20 : decode cX7_likeliestOf 20 = .ok (.aload_n 0, 1) := by decide +kernel
theorem dX7_likeliestOf_21 : decode cX7_likeliestOf 21 = .ok (.iload 4, 2) := by decide +kernel
theorem dX7_likeliestOf_23 : decode cX7_likeliestOf 23 = .ok (.iload_n 1, 1) := by decide +kernel
theorem dX7_likeliestOf_24 : decode cX7_likeliestOf 24 = .ok (.invokevirtual 175, 3) := by decide +kernel
theorem dX7_likeliestOf_27 : decode cX7_likeliestOf 27 = .ok (.istore 5, 2) := by decide +kernel
theorem dX7_likeliestOf_29 : decode cX7_likeliestOf 29 = .ok (.iload 5, 2) := by decide +kernel
theorem dX7_likeliestOf_31 : decode cX7_likeliestOf 31 = .ok (.iload_n 3, 1) := by decide +kernel
theorem dX7_likeliestOf_32 : decode cX7_likeliestOf 32 = .ok (.if_icmp .le 9, 3) := by decide +kernel
theorem dX7_likeliestOf_35 : decode cX7_likeliestOf 35 = .ok (.iload 5, 2) := by decide +kernel
theorem dX7_likeliestOf_37 : decode cX7_likeliestOf 37 = .ok (.istore_n 3, 1) := by decide +kernel
theorem dX7_likeliestOf_38 : decode cX7_likeliestOf 38 = .ok (.iload 4, 2) := by decide +kernel
theorem dX7_likeliestOf_40 : decode cX7_likeliestOf 40 = .ok (.istore_n 2, 1) := by decide +kernel
theorem dX7_likeliestOf_41 : decode cX7_likeliestOf 41 = .ok (.iinc 4 1, 3) := by decide +kernel
theorem dX7_likeliestOf_44 : decode cX7_likeliestOf 44 = .ok (.goto (-36), 3) := by decide +kernel
theorem dX7_likeliestOf_47 : decode cX7_likeliestOf 47 = .ok (.iload_n 2, 1) := by decide +kernel
theorem dX7_likeliestOf_48 : decode cX7_likeliestOf 48 = .ok (.ireturn, 1) := by decide +kernel
theorem dX7_sharedDivisor_0 : decode cX7_sharedDivisor 0 = .ok (.iconst 1, 1) := by decide +kernel
theorem dX7_sharedDivisor_1 : decode cX7_sharedDivisor 1 = .ok (.istore_n 2, 1) := by decide +kernel
theorem dX7_sharedDivisor_2 : decode cX7_sharedDivisor 2 = .ok (.iconst 2, 1) := by decide +kernel
theorem dX7_sharedDivisor_3 : decode cX7_sharedDivisor 3 = .ok (.istore_n 3, 1) := by decide +kernel
theorem dX7_sharedDivisor_4 : decode cX7_sharedDivisor 4 = .ok (.iload_n 3, 1) := by decide +kernel
theorem dX7_sharedDivisor_5 : decode cX7_sharedDivisor 5 = .ok (.iload_n 0, 1) := by decide +kernel
theorem dX7_sharedDivisor_6 : decode cX7_sharedDivisor 6 = .ok (.if_icmp .gt 23, 3) := by decide +kernel
theorem dX7_sharedDivisor_9 : decode cX7_sharedDivisor 9 = .ok (.iload_n 0, 1) := by decide +kernel
theorem dX7_sharedDivisor_10 : decode cX7_sharedDivisor 10 = .ok (.iload_n 3, 1) := by decide +kernel
theorem dX7_sharedDivisor_11 : decode cX7_sharedDivisor 11 = .ok (.irem, 1) := by decide +kernel
theorem dX7_sharedDivisor_12 : decode cX7_sharedDivisor 12 = .ok (.ifCond .ne 11, 3) := by decide +kernel
theorem dX7_sharedDivisor_15 : decode cX7_sharedDivisor 15 = .ok (.iload_n 1, 1) := by decide +kernel
theorem dX7_sharedDivisor_16 : decode cX7_sharedDivisor 16 = .ok (.iload_n 3, 1) := by decide +kernel
theorem dX7_sharedDivisor_17 : decode cX7_sharedDivisor 17 = .ok (.irem, 1) := by decide +kernel
theorem dX7_sharedDivisor_18 : decode cX7_sharedDivisor 18 = .ok (.ifCond .ne 5, 3) := by decide +kernel
theorem dX7_sharedDivisor_21 : decode cX7_sharedDivisor 21 = .ok (.iload_n 3, 1) := by decide +kernel
theorem dX7_sharedDivisor_22 : decode cX7_sharedDivisor 22 = .ok (.istore_n 2, 1) := by decide +kernel
theorem dX7_sharedDivisor_23 : decode cX7_sharedDivisor 23 = .ok (.iinc 3 1, 3) := by decide +kernel
theorem dX7_sharedDivisor_26 : decode cX7_sharedDivisor 26 = .ok (.goto (-22), 3) := by decide +kernel
theorem dX7_sharedDivisor_29 : decode cX7_sharedDivisor 29 = .ok (.iload_n 2, 1) := by decide +kernel
theorem dX7_sharedDivisor_30 : decode cX7_sharedDivisor 30 = .ok (.ireturn, 1) := by decide +kernel
theorem dX7_asClerk_0 : decode cX7_asClerk 0 = .ok (.aload_n 0, 1) := by decide +kernel
theorem dX7_asClerk_1 : decode cX7_asClerk 1 = .ok (.dup, 1) := by decide +kernel
theorem dX7_asClerk_2 : decode cX7_asClerk 2 = .ok (.getfield 58, 3) := by decide +kernel
theorem dX7_asClerk_5 : decode cX7_asClerk 5 = .ok (.lconst 1, 1) := by decide +kernel
theorem dX7_asClerk_6 : decode cX7_asClerk 6 = .ok (.ladd, 1) := by decide +kernel
theorem dX7_asClerk_7 : decode cX7_asClerk 7 = .ok (.putfield 58, 3) := by decide +kernel
theorem dX7_asClerk_10 : decode cX7_asClerk 10 = .ok (.aload_n 1, 1) := by decide +kernel
theorem dX7_asClerk_11 : decode cX7_asClerk 11 = .ok (.getfield 91, 3) := by decide +kernel
theorem dX7_asClerk_14 : decode cX7_asClerk 14 = .ok (.iconst 4, 1) := by decide +kernel
theorem dX7_asClerk_15 : decode cX7_asClerk 15 = .ok (.isub, 1) := by decide +kernel
theorem dX7_asClerk_16 : decode cX7_asClerk 16 = .ok (.ireturn, 1) := by decide +kernel
set_option maxRecDepth 20000 in
theorem ggX7_asTwin_X7_asClerk : GoodIn wsX7_asTwin wsX7_asClerk := goodIn_r _ [7, 1, 15, 16, 17, 18, 19, 20, 21, 22, 23, 24, 25, 26, 27] (by decide +kernel) (by decide +kernel)
set_option maxRecDepth 20000 in
theorem gX7_asTwin_X7_asClerk : GoodIn wsX7_asTwin (wsV RX7 237 RX7 yX7_asClerk wsX7_asClerk) := goodIn_app (goodIn_of _ (by decide +kernel)) ggX7_asTwin_X7_asClerk
set_option maxRecDepth 20000 in
theorem ggX7_asTwin_J6_bitCount_0f7a4 : GoodIn wsX7_asTwin wsJ6_bitCount_0f7a4 := goodIn_r _ [11, 12, 13, 14] (by decide +kernel) (by decide +kernel)
set_option maxRecDepth 20000 in
theorem gX7_asTwin_J6_bitCount_0f7a4 : GoodIn wsX7_asTwin (va_wsS RX7 167 yJ6_bitCount_0f7a4 wsJ6_bitCount_0f7a4) := goodIn_app (goodIn_of _ (by decide +kernel)) ggX7_asTwin_J6_bitCount_0f7a4
theorem dX7_asTwin_0 : decode cX7_asTwin 0 = .ok (.aload_n 0, 1) := by decide +kernel
theorem dX7_asTwin_1 : decode cX7_asTwin 1 = .ok (.dup, 1) := by decide +kernel
theorem dX7_asTwin_2 : decode cX7_asTwin 2 = .ok (.getfield 58, 3) := by decide +kernel
theorem dX7_asTwin_5 : decode cX7_asTwin 5 = .ok (.ldc2_w 277, 3) := by decide +kernel
theorem dX7_asTwin_8 : decode cX7_asTwin 8 = .ok (.ladd, 1) := by decide +kernel
theorem dX7_asTwin_9 : decode cX7_asTwin 9 = .ok (.putfield 58, 3) := by decide +kernel
theorem dX7_asTwin_12 : decode cX7_asTwin 12 = .ok (.aload_n 0, 1) := by decide +kernel
theorem dX7_asTwin_13 : decode cX7_asTwin 13 = .ok (.aload_n 1, 1) := by decide +kernel
theorem dX7_asTwin_14 : decode cX7_asTwin 14 = .ok (.invokevirtual 237, 3) := by decide +kernel
theorem dX7_asTwin_17 : decode cX7_asTwin 17 = .ok (.aload_n 1, 1) := by decide +kernel
theorem dX7_asTwin_18 : decode cX7_asTwin 18 = .ok (.getfield 96, 3) := by decide +kernel
theorem dX7_asTwin_21 : decode cX7_asTwin 21 = .ok (.invokestatic 167, 3) := by decide +kernel
theorem dX7_asTwin_24 : decode cX7_asTwin 24 = .ok (.iadd, 1) := by decide +kernel
theorem dX7_asTwin_25 : decode cX7_asTwin 25 = .ok (.ireturn, 1) := by decide +kernel
set_option maxRecDepth 20000 in
theorem ggX7_asMocker_X7_asClerk : GoodIn wsX7_asMocker wsX7_asClerk := goodIn_r _ [7, 1, 15, 16, 17, 18, 19, 20, 21, 22, 23, 24, 25, 26, 27] (by decide +kernel) (by decide +kernel)
set_option maxRecDepth 20000 in
theorem gX7_asMocker_X7_asClerk : GoodIn wsX7_asMocker (wsV RX7 237 RX7 yX7_asClerk wsX7_asClerk) := goodIn_app (goodIn_of _ (by decide +kernel)) ggX7_asMocker_X7_asClerk
set_option maxRecDepth 20000 in
theorem ggX7_asMocker_J6_bitCount_0f7a4 : GoodIn wsX7_asMocker wsJ6_bitCount_0f7a4 := goodIn_r _ [11, 12, 13, 14] (by decide +kernel) (by decide +kernel)
set_option maxRecDepth 20000 in
theorem gX7_asMocker_J6_bitCount_0f7a4 : GoodIn wsX7_asMocker (va_wsS RX7 167 yJ6_bitCount_0f7a4 wsJ6_bitCount_0f7a4) := goodIn_app (goodIn_of _ (by decide +kernel)) ggX7_asMocker_J6_bitCount_0f7a4
theorem dX7_asMocker_0 : decode cX7_asMocker 0 = .ok (.aload_n 0, 1) := by decide +kernel
theorem dX7_asMocker_1 : decode cX7_asMocker 1 = .ok (.dup, 1) := by decide +kernel
theorem dX7_asMocker_2 : decode cX7_asMocker 2 = .ok (.getfield 58, 3) := by decide +kernel
theorem dX7_asMocker_5 : decode cX7_asMocker 5 = .ok (.ldc2_w 279, 3) := by decide +kernel
theorem dX7_asMocker_8 : decode cX7_asMocker 8 = .ok (.ladd, 1) := by decide +kernel
theorem dX7_asMocker_9 : decode cX7_asMocker 9 = .ok (.putfield 58, 3) := by decide +kernel
theorem dX7_asMocker_12 : decode cX7_asMocker 12 = .ok (.aload_n 0, 1) := by decide +kernel
theorem dX7_asMocker_13 : decode cX7_asMocker 13 = .ok (.aload_n 1, 1) := by decide +kernel
theorem dX7_asMocker_14 : decode cX7_asMocker 14 = .ok (.invokevirtual 237, 3) := by decide +kernel
theorem dX7_asMocker_17 : decode cX7_asMocker 17 = .ok (.aload_n 1, 1) := by decide +kernel
theorem dX7_asMocker_18 : decode cX7_asMocker 18 = .ok (.getfield 99, 3) := by decide +kernel
theorem dX7_asMocker_21 : decode cX7_asMocker 21 = .ok (.invokestatic 167, 3) := by decide +kernel
theorem dX7_asMocker_24 : decode cX7_asMocker 24 = .ok (.isub, 1) := by decide +kernel
theorem dX7_asMocker_25 : decode cX7_asMocker 25 = .ok (.ireturn, 1) := by decide +kernel
set_option maxRecDepth 20000 in
theorem ggX7_asConstant_X7_asTwin : GoodIn wsX7_asConstant wsX7_asTwin := goodIn_r _ [7, 1, 8, 9, 10, 11, 6, 12, 13, 14, 15, 16, 17, 18, 19, 20, 21, 22, 23, 24, 25, 26, 27, 28, 29, 30, 31, 32] (by decide +kernel) (by decide +kernel)
set_option maxRecDepth 20000 in
theorem gX7_asConstant_X7_asTwin : GoodIn wsX7_asConstant (wsV RX7 241 RX7 yX7_asTwin wsX7_asTwin) := goodIn_app (goodIn_of _ (by decide +kernel)) ggX7_asConstant_X7_asTwin
theorem dX7_asConstant_0 : decode cX7_asConstant 0 = .ok (.aload_n 0, 1) := by decide +kernel
theorem dX7_asConstant_1 : decode cX7_asConstant 1 = .ok (.dup, 1) := by decide +kernel
theorem dX7_asConstant_2 : decode cX7_asConstant 2 = .ok (.getfield 58, 3) := by decide +kernel
theorem dX7_asConstant_5 : decode cX7_asConstant 5 = .ok (.ldc2_w 281, 3) := by decide +kernel
theorem dX7_asConstant_8 : decode cX7_asConstant 8 = .ok (.ladd, 1) := by decide +kernel
theorem dX7_asConstant_9 : decode cX7_asConstant 9 = .ok (.putfield 58, 3) := by decide +kernel
theorem dX7_asConstant_12 : decode cX7_asConstant 12 = .ok (.iconst 2, 1) := by decide +kernel
theorem dX7_asConstant_13 : decode cX7_asConstant 13 = .ok (.aload_n 0, 1) := by decide +kernel
theorem dX7_asConstant_14 : decode cX7_asConstant 14 = .ok (.aload_n 1, 1) := by decide +kernel
theorem dX7_asConstant_15 : decode cX7_asConstant 15 = .ok (.invokevirtual 241, 3) := by decide +kernel
theorem dX7_asConstant_18 : decode cX7_asConstant 18 = .ok (.imul, 1) := by decide +kernel
theorem dX7_asConstant_19 : decode cX7_asConstant 19 = .ok (.ireturn, 1) := by decide +kernel
set_option maxRecDepth 20000 in
theorem ggX7_asLeft_X7_asMocker : GoodIn wsX7_asLeft wsX7_asMocker := goodIn_r _ [7, 1, 8, 9, 10, 11, 6, 12, 13, 14, 15, 16, 17, 18, 19, 20, 21, 22, 23, 24, 25, 26, 27, 28, 29, 30, 31, 32] (by decide +kernel) (by decide +kernel)
set_option maxRecDepth 20000 in
theorem gX7_asLeft_X7_asMocker : GoodIn wsX7_asLeft (wsV RX7 244 RX7 yX7_asMocker wsX7_asMocker) := goodIn_app (goodIn_of _ (by decide +kernel)) ggX7_asLeft_X7_asMocker
theorem dX7_asLeft_0 : decode cX7_asLeft 0 = .ok (.aload_n 0, 1) := by decide +kernel
theorem dX7_asLeft_1 : decode cX7_asLeft 1 = .ok (.dup, 1) := by decide +kernel
theorem dX7_asLeft_2 : decode cX7_asLeft 2 = .ok (.getfield 58, 3) := by decide +kernel
theorem dX7_asLeft_5 : decode cX7_asLeft 5 = .ok (.ldc2_w 283, 3) := by decide +kernel
theorem dX7_asLeft_8 : decode cX7_asLeft 8 = .ok (.ladd, 1) := by decide +kernel
theorem dX7_asLeft_9 : decode cX7_asLeft 9 = .ok (.putfield 58, 3) := by decide +kernel
theorem dX7_asLeft_12 : decode cX7_asLeft 12 = .ok (.aload_n 0, 1) := by decide +kernel
theorem dX7_asLeft_13 : decode cX7_asLeft 13 = .ok (.aload_n 1, 1) := by decide +kernel
theorem dX7_asLeft_14 : decode cX7_asLeft 14 = .ok (.invokevirtual 244, 3) := by decide +kernel
theorem dX7_asLeft_17 : decode cX7_asLeft 17 = .ok (.iload_n 2, 1) := by decide +kernel
theorem dX7_asLeft_18 : decode cX7_asLeft 18 = .ok (.iadd, 1) := by decide +kernel
theorem dX7_asLeft_19 : decode cX7_asLeft 19 = .ok (.ireturn, 1) := by decide +kernel
set_option maxRecDepth 20000 in
theorem ggX7_asHasty_X7_asClerk : GoodIn wsX7_asHasty wsX7_asClerk := goodIn_r _ [7, 1, 8, 9, 10, 11, 12, 13, 14, 15, 16, 17, 18, 19, 20] (by decide +kernel) (by decide +kernel)
set_option maxRecDepth 20000 in
theorem gX7_asHasty_X7_asClerk : GoodIn wsX7_asHasty (wsV RX7 237 RX7 yX7_asClerk wsX7_asClerk) := goodIn_app (goodIn_of _ (by decide +kernel)) ggX7_asHasty_X7_asClerk
theorem dX7_asHasty_0 : decode cX7_asHasty 0 = .ok (.aload_n 0, 1) := by decide +kernel
theorem dX7_asHasty_1 : decode cX7_asHasty 1 = .ok (.dup, 1) := by decide +kernel
theorem dX7_asHasty_2 : decode cX7_asHasty 2 = .ok (.getfield 58, 3) := by decide +kernel
theorem dX7_asHasty_5 : decode cX7_asHasty 5 = .ok (.ldc2_w 285, 3) := by decide +kernel
theorem dX7_asHasty_8 : decode cX7_asHasty 8 = .ok (.ladd, 1) := by decide +kernel
theorem dX7_asHasty_9 : decode cX7_asHasty 9 = .ok (.putfield 58, 3) := by decide +kernel
theorem dX7_asHasty_12 : decode cX7_asHasty 12 = .ok (.aload_n 0, 1) := by decide +kernel
theorem dX7_asHasty_13 : decode cX7_asHasty 13 = .ok (.aload_n 1, 1) := by decide +kernel
theorem dX7_asHasty_14 : decode cX7_asHasty 14 = .ok (.invokevirtual 237, 3) := by decide +kernel
theorem dX7_asHasty_17 : decode cX7_asHasty 17 = .ok (.bipush 10, 2) := by decide +kernel
theorem dX7_asHasty_19 : decode cX7_asHasty 19 = .ok (.iadd, 1) := by decide +kernel
theorem dX7_asHasty_20 : decode cX7_asHasty 20 = .ok (.aload_n 1, 1) := by decide +kernel
theorem dX7_asHasty_21 : decode cX7_asHasty 21 = .ok (.getfield 102, 3) := by decide +kernel
theorem dX7_asHasty_24 : decode cX7_asHasty 24 = .ok (.isub, 1) := by decide +kernel
theorem dX7_asHasty_25 : decode cX7_asHasty 25 = .ok (.ireturn, 1) := by decide +kernel
set_option maxRecDepth 20000 in
theorem ggX8_init_X8_begins : GoodIn wsX8_init wsX8_begins := goodIn_r _ [19, 7, 20, 21, 22, 23, 24, 25, 26, 27, 28, 29, 30, 31, 32, 33, 34, 35, 36, 37, 38, 39, 40, 41, 42] (by decide +kernel) (by decide +kernel)
set_option maxRecDepth 20000 in
theorem gX8_init_X8_begins : GoodIn wsX8_init (wsV RX8 38 RX8 yX8_begins wsX8_begins) := goodIn_app (goodIn_of _ (by decide +kernel)) ggX8_init_X8_begins
