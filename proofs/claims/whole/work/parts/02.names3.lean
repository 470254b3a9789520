theorem dX8_init_0 : decode cX8_init 0 = .ok (.aload_n 0, 1) := by decide +kernel
theorem dX8_init_1 : decode cX8_init 1 = .ok (.invokespecial 1, 3) := by decide +kernel
theorem dX8_init_4 : decode cX8_init 4 = .ok (.aload_n 0, 1) := by decide +kernel
theorem dX8_init_5 : decode cX8_init 5 = .ok (.sipush 200, 3) := by decide +kernel
theorem dX8_init_8 : decode cX8_init 8 = .ok (.newarray .int, 2) := by decide +kernel
theorem dX8_init_10 : decode cX8_init 10 = .ok (.putfield 7, 3) := by decide +kernel
theorem dX8_init_13 : decode cX8_init 13 = .ok (.aload_n 0, 1) := by decide +kernel
theorem dX8_init_14 : decode cX8_init 14 = .ok (.bipush 48, 2) := by decide +kernel
theorem dX8_init_16 : decode cX8_init 16 = .ok (.newarray .int, 2) := by decide +kernel
theorem dX8_init_18 : decode cX8_init 18 = .ok (.putfield 13, 3) := by decide +kernel
theorem dX8_init_21 : decode cX8_init 21 = .ok (.aload_n 0, 1) := by decide +kernel
theorem dX8_init_22 : decode cX8_init 22 = .ok (.bipush 22, 2) := by decide +kernel
theorem dX8_init_24 : decode cX8_init 24 = .ok (.newarray .int, 2) := by decide +kernel
theorem dX8_init_26 : decode cX8_init 26 = .ok (.putfield 16, 3) := by decide +kernel
theorem dX8_init_29 : decode cX8_init 29 = .ok (.aload_n 0, 1) := by decide +kernel
theorem dX8_init_30 : decode cX8_init 30 = .ok (.bipush 44, 2) := by decide +kernel
theorem dX8_init_32 : decode cX8_init 32 = .ok (.newarray .int, 2) := by decide +kernel
theorem dX8_init_34 : decode cX8_init 34 = .ok (.putfield 19, 3) := by decide +kernel
theorem dX8_init_37 : decode cX8_init 37 = .ok (.aload_n 0, 1) := by decide +kernel
theorem dX8_init_38 : decode cX8_init 38 = .ok (.iconst 2, 1) := by decide +kernel
theorem dX8_init_39 : decode cX8_init 39 = .ok (.newarray .boolean, 2) := by decide +kernel
theorem dX8_init_41 : decode cX8_init 41 = .ok (.putfield 22, 3) := by decide +kernel
theorem dX8_init_44 : decode cX8_init 44 = .ok (.aload_n 0, 1) := by decide +kernel
theorem dX8_init_45 : decode cX8_init 45 = .ok (.bipush 16, 2) := by decide +kernel
theorem dX8_init_47 : decode cX8_init 47 = .ok (.newarray .int, 2) := by decide +kernel
theorem dX8_init_49 : decode cX8_init 49 = .ok (.putfield 26, 3) := by decide +kernel
theorem dX8_init_52 : decode cX8_init 52 = .ok (.aload_n 0, 1) := by decide +kernel
theorem dX8_init_53 : decode cX8_init 53 = .ok (.bipush 8, 2) := by decide +kernel
theorem dX8_init_55 : decode cX8_init 55 = .ok (.newarray .int, 2) := by decide +kernel
theorem dX8_init_57 : decode cX8_init 57 = .ok (.putfield 29, 3) := by decide +kernel
theorem dX8_init_60 : decode cX8_init 60 = .ok (.aload_n 0, 1) := by decide +kernel
theorem dX8_init_61 : decode cX8_init 61 = .ok (.bipush 6, 2) := by decide +kernel
theorem dX8_init_63 : decode cX8_init 63 = .ok (.newarray .int, 2) := by decide +kernel
theorem dX8_init_65 : decode cX8_init 65 = .ok (.putfield 32, 3) := by decide +kernel
theorem dX8_init_68 : decode cX8_init 68 = .ok (.aload_n 0, 1) := by decide +kernel
theorem dX8_init_69 : decode cX8_init 69 = .ok (.bipush 6, 2) := by decide +kernel
theorem dX8_init_71 : decode cX8_init 71 = .ok (.newarray .int, 2) := by decide +kernel
theorem dX8_init_73 : decode cX8_init 73 = .ok (.putfield 35, 3) := by decide +kernel
theorem dX8_init_76 : decode cX8_init 76 = .ok (.aload_n 0, 1) := by decide +kernel
theorem dX8_init_77 : decode cX8_init 77 = .ok (.getfield 16, 3) := by decide +kernel
theorem dX8_init_80 : decode cX8_init 80 = .ok (.bipush 21, 2) := by decide +kernel
theorem dX8_init_82 : decode cX8_init 82 = .ok (.iconst 1, 1) := by decide +kernel
theorem dX8_init_83 : decode cX8_init 83 = .ok (.iastore, 1) := by decide +kernel
theorem dX8_init_84 : decode cX8_init 84 = .ok (.aload_n 0, 1) := by decide +kernel
theorem dX8_init_85 : decode cX8_init 85 = .ok (.iconst 5, 1) := by decide +kernel
theorem dX8_init_86 : decode cX8_init 86 = .ok (.invokevirtual 38, 3) := by decide +kernel
theorem dX8_init_89 : decode cX8_init 89 = .ok (.return_, 1) := by decide +kernel
theorem dX8_in_0 : decode cX8_in 0 = .ok (.iload_n 0, 1) := by decide +kernel
theorem dX8_in_1 : decode cX8_in 1 = .ok (.iload_n 1, 1) := by decide +kernel
theorem dX8_in_2 : decode cX8_in 2 = .ok (.if_icmp .lt 12, 3) := by decide +kernel
theorem dX8_in_5 : decode cX8_in 5 = .ok (.iload_n 0, 1) := by decide +kernel
theorem dX8_in_6 : decode cX8_in 6 = .ok (.iload_n 2, 1) := by decide +kernel
theorem dX8_in_7 : decode cX8_in 7 = .ok (.if_icmp .gt 7, 3) := by decide +kernel
theorem dX8_in_10 : decode cX8_in 10 = .ok (.iconst 1, 1) := by decide +kernel
theorem dX8_in_11 : decode cX8_in 11 = .ok (.goto 4, 3) := by decide +kernel
theorem dX8_in_14 : decode cX8_in 14 = .ok (.iconst 0, 1) := by decide +kernel
theorem dX8_in_15 : decode cX8_in 15 = .ok (.ireturn, 1) := by decide +kernel
theorem dX8_size_0 : decode cX8_size 0 = .ok (.iload_n 0, 1) := by decide +kernel
theorem dX8_size_1 : decode cX8_size 1 = .ok (.ifCond .ge 8, 3) := by decide +kernel
theorem dX8_size_4 : decode cX8_size 4 = .ok (.iload_n 0, 1) := by decide +kernel
theorem dX8_size_5 : decode cX8_size 5 = .ok (.ineg, 1) := by decide +kernel
theorem dX8_size_6 : decode cX8_size 6 = .ok (.goto 4, 3) := by decide +kernel
theorem dX8_size_9 : decode cX8_size 9 = .ok (.iload_n 0, 1) := by decide +kernel
theorem dX8_size_10 : decode cX8_size 10 = .ok (.ireturn, 1) := by decide +kernel
theorem dX8_ones_0 : decode cX8_ones 0 = .ok (.iconst 0, 1) := by decide +kernel
theorem dX8_ones_1 : decode cX8_ones 1 = .ok (.istore_n 1, 1) := by decide +kernel
theorem dX8_ones_2 : decode cX8_ones 2 = .ok (.iconst 0, 1) := by decide +kernel
theorem dX8_ones_3 : decode cX8_ones 3 = .ok (.istore_n 2, 1) := by decide +kernel
theorem dX8_ones_4 : decode cX8_ones 4 = .ok (.iload_n 2, 1) := by decide +kernel
theorem dX8_ones_5 : decode cX8_ones 5 = .ok (.bipush 8, 2) := by decide +kernel
theorem dX8_ones_7 : decode cX8_ones 7 = .ok (.if_icmp .ge 17, 3) := by decide +kernel
theorem dX8_ones_10 : decode cX8_ones 10 = .ok (.iload_n 1, 1) := by decide +kernel
theorem dX8_ones_11 : decode cX8_ones 11 = .ok (.iload_n 0, 1) := by decide +kernel
theorem dX8_ones_12 : decode cX8_ones 12 = .ok (.iload_n 2, 1) := by decide +kernel
theorem dX8_ones_13 : decode cX8_ones 13 = .ok (.ishr, 1) := by decide +kernel
theorem dX8_ones_14 : decode cX8_ones 14 = .ok (.iconst 1, 1) := by decide +kernel
theorem dX8_ones_15 : decode cX8_ones 15 = .ok (.iand, 1) := by decide +kernel
theorem dX8_ones_16 : decode cX8_ones 16 = .ok (.iadd, 1) := by decide +kernel
theorem dX8_ones_17 : decode cX8_ones 17 = .ok (.istore_n 1, 1) := by decide +kernel
theorem dX8_ones_18 : decode cX8_ones 18 = .ok (.iinc 2 1, 3) := by decide +kernel
theorem dX8_ones_21 : decode cX8_ones 21 = .ok (.goto (-17), 3) := by decide +kernel
theorem dX8_ones_24 : decode cX8_ones 24 = .ok (.iload_n 1, 1) := by decide +kernel
theorem dX8_ones_25 : decode cX8_ones 25 = .ok (.ireturn, 1) := by decide +kernel
set_option maxRecDepth 20000 in
theorem ggX8_type_X8_in : GoodIn wsX8_type wsX8_in := goodIn_r _ [8] (by decide +kernel) (by decide +kernel)
set_option maxRecDepth 20000 in
theorem gX8_type_X8_in : GoodIn wsX8_type (va_wsS RX8 46 yX8_in wsX8_in) := goodIn_app (goodIn_of _ (by decide +kernel)) ggX8_type_X8_in
theorem dX8_type_0 : decode cX8_type 0 = .ok (.aload_n 0, 1) := by decide +kernel
theorem dX8_type_1 : decode cX8_type 1 = .ok (.iconst 0, 1) := by decide +kernel
theorem dX8_type_2 : decode cX8_type 2 = .ok (.putfield 42, 3) := by decide +kernel
theorem dX8_type_5 : decode cX8_type 5 = .ok (.iload_n 3, 1) := by decide +kernel
theorem dX8_type_6 : decode cX8_type 6 = .ok (.iconst 1, 1) := by decide +kernel
theorem dX8_type_7 : decode cX8_type 7 = .ok (.bipush 8, 2) := by decide +kernel
theorem dX8_type_9 : decode cX8_type 9 = .ok (.invokestatic 46, 3) := by decide +kernel
theorem dX8_type_12 : decode cX8_type 12 = .ok (.ifCond .ne 5, 3) := by decide +kernel
theorem dX8_type_15 : decode cX8_type 15 = .ok (.iconst (-1), 1) := by decide +kernel
theorem dX8_type_16 : decode cX8_type 16 = .ok (.ireturn, 1) := by decide +kernel
theorem dX8_type_17 : decode cX8_type 17 = .ok (.aload_n 0, 1) := by decide +kernel
theorem dX8_type_18 : decode cX8_type 18 = .ok (.getfield 50, 3) := by decide +kernel
theorem dX8_type_21 : decode cX8_type 21 = .ok (.iload_n 3, 1) := by decide +kernel
theorem dX8_type_22 : decode cX8_type 22 = .ok (.iadd, 1) := by decide +kernel
theorem dX8_type_23 : decode cX8_type 23 = .ok (.sipush 200, 3) := by decide +kernel
theorem dX8_type_26 : decode cX8_type 26 = .ok (.if_icmp .le 6, 3) := by decide +kernel
theorem dX8_type_29 : decode cX8_type 29 = .ok (.bipush (-3), 2) := by decide +kernel
theorem dX8_type_31 : decode cX8_type 31 = .ok (.ireturn, 1) := by decide +kernel
theorem dX8_type_32 : decode cX8_type 32 = .ok (.iload_n 3, 1) := by decide +kernel
theorem dX8_type_33 : decode cX8_type 33 = .ok (.iconst 1, 1) := by decide +kernel
theorem dX8_type_34 : decode cX8_type 34 = .ok (.isub, 1) := by decide +kernel
theorem dX8_type_35 : decode cX8_type 35 = .ok (.istore 4, 2) := by decide +kernel
theorem dX8_type_37 : decode cX8_type 37 = .ok (.iload 4, 2) := by decide +kernel
theorem dX8_type_39 : decode cX8_type 39 = .ok (.ifCond .lt 40, 3) := by decide +kernel
theorem dX8_type_42 : decode cX8_type 42 = .ok (.aload_n 0, 1) := by decide +kernel
theorem dX8_type_43 : decode cX8_type 43 = .ok (.getfield 7, 3) := by decide +kernel
theorem dX8_type_46 : decode cX8_type 46 = .ok (.aload_n 0, 1) := by decide +kernel
theorem dX8_type_47 : decode cX8_type 47 = .ok (.getfield 50, 3) := by decide +kernel
theorem dX8_type_50 : decode cX8_type 50 = .ok (.lload_n 1, 1) := by decide +kernel
theorem dX8_type_51 : decode cX8_type 51 = .ok (.bipush 8, 2) := by decide +kernel
theorem dX8_type_53 : decode cX8_type 53 = .ok (.iload 4, 2) := by decide +kernel
theorem dX8_type_55 : decode cX8_type 55 = .ok (.imul, 1) := by decide +kernel
theorem dX8_type_56 : decode cX8_type 56 = .ok (.lshr, 1) := by decide +kernel
theorem dX8_type_57 : decode cX8_type 57 = .ok (.ldc2_w 53, 3) := by decide +kernel
theorem dX8_type_60 : decode cX8_type 60 = .ok (.land, 1) := by decide +kernel
theorem dX8_type_61 : decode cX8_type 61 = .ok (.l2i, 1) := by decide +kernel
theorem dX8_type_62 : decode cX8_type 62 = .ok (.iastore, 1) := by decide +kernel
theorem dX8_type_63 : decode cX8_type 63 = .ok (.aload_n 0, 1) := by decide +kernel
theorem dX8_type_64 : decode cX8_type 64 = .ok (.dup, 1) := by decide +kernel
theorem dX8_type_65 : decode cX8_type 65 = .ok (.getfield 50, 3) := by decide +kernel
theorem dX8_type_68 : decode cX8_type 68 = .ok (.iconst 1, 1) := by decide +kernel
theorem dX8_type_69 : decode cX8_type 69 = .ok (.iadd, 1) := by decide +kernel
theorem dX8_type_70 : decode cX8_type 70 = .ok (.putfield 50, 3) := by decide +kernel
theorem dX8_type_73 : decode cX8_type 73 = .ok (.iinc 4 (-1), 3) := by decide +kernel
theorem dX8_type_76 : decode cX8_type 76 = .ok (.goto (-39), 3) := by decide +kernel
theorem dX8_type_79 : decode cX8_type 79 = .ok (.aload_n 0, 1) := by decide +kernel
theorem dX8_type_80 : decode cX8_type 80 = .ok (.getfield 50, 3) := by decide +kernel
theorem dX8_type_83 : decode cX8_type 83 = .ok (.ireturn, 1) := by decide +kernel
theorem dX8_clear_0 : decode cX8_clear 0 = .ok (.aload_n 0, 1) := by decide +kernel
theorem dX8_clear_1 : decode cX8_clear 1 = .ok (.iconst 0, 1) := by decide +kernel
theorem dX8_clear_2 : decode cX8_clear 2 = .ok (.putfield 42, 3) := by decide +kernel
theorem dX8_clear_5 : decode cX8_clear 5 = .ok (.aload_n 0, 1) := by decide +kernel
theorem dX8_clear_6 : decode cX8_clear 6 = .ok (.getfield 50, 3) := by decide +kernel
theorem dX8_clear_9 : decode cX8_clear 9 = .ok (.istore_n 1, 1) := by decide +kernel
theorem dX8_clear_10 : decode cX8_clear 10 = .ok (.aload_n 0, 1) := by decide +kernel
theorem dX8_clear_11 : decode cX8_clear 11 = .ok (.iconst 0, 1) := by decide +kernel
theorem dX8_clear_12 : decode cX8_clear 12 = .ok (.putfield 50, 3) := by decide +kernel
theorem dX8_clear_15 : decode cX8_clear 15 = .ok (.iload_n 1, 1) := by decide +kernel
theorem dX8_clear_16 : decode cX8_clear 16 = .ok (.ireturn, 1) := by decide +kernel
theorem dX8_byteAt_0 : decode cX8_byteAt 0 = .ok (.iload_n 1, 1) := by decide +kernel
theorem dX8_byteAt_1 : decode cX8_byteAt 1 = .ok (.aload_n 0, 1) := by decide +kernel
theorem dX8_byteAt_2 : decode cX8_byteAt 2 = .ok (.getfield 50, 3) := by decide +kernel
theorem dX8_byteAt_5 : decode cX8_byteAt 5 = .ok (.if_icmp .ge 12, 3) := by decide +kernel
theorem dX8_byteAt_8 : decode cX8_byteAt 8 = .ok (.aload_n 0, 1) := by decide +kernel
theorem dX8_byteAt_9 : decode cX8_byteAt 9 = .ok (.getfield 7, 3) := by decide +kernel
theorem dX8_byteAt_12 : decode cX8_byteAt 12 = .ok (.iload_n 1, 1) := by decide +kernel
theorem dX8_byteAt_13 : decode cX8_byteAt 13 = .ok (.iaload, 1) := by decide +kernel
theorem dX8_byteAt_14 : decode cX8_byteAt 14 = .ok (.goto 4, 3) := by decide +kernel
theorem dX8_byteAt_17 : decode cX8_byteAt 17 = .ok (.iconst (-1), 1) := by decide +kernel
theorem dX8_byteAt_18 : decode cX8_byteAt 18 = .ok (.ireturn, 1) := by decide +kernel
theorem dX8_add_0 : decode cX8_add 0 = .ok (.iload_n 2, 1) := by decide +kernel
theorem dX8_add_1 : decode cX8_add 1 = .ok (.ifCond .ne 7, 3) := by decide +kernel
theorem dX8_add_4 : decode cX8_add 4 = .ok (.lload_n 0, 1) := by decide +kernel
theorem dX8_add_5 : decode cX8_add 5 = .ok (.goto 11, 3) := by decide +kernel
theorem dX8_add_8 : decode cX8_add 8 = .ok (.ldc2_w 55, 3) := by decide +kernel
theorem dX8_add_11 : decode cX8_add 11 = .ok (.lload_n 0, 1) := by decide +kernel
theorem dX8_add_12 : decode cX8_add 12 = .ok (.lmul, 1) := by decide +kernel
theorem dX8_add_13 : decode cX8_add 13 = .ok (.iload_n 2, 1) := by decide +kernel
theorem dX8_add_14 : decode cX8_add 14 = .ok (.i2l, 1) := by decide +kernel
theorem dX8_add_15 : decode cX8_add 15 = .ok (.ladd, 1) := by decide +kernel
theorem dX8_add_16 : decode cX8_add 16 = .ok (.lreturn, 1) := by decide +kernel
set_option maxRecDepth 20000 in
theorem ggX8_named_X8_add : GoodIn wsX8_named wsX8_add := goodIn_r _ [4, 5] (by decide +kernel) (by decide +kernel)
set_option maxRecDepth 20000 in
theorem gX8_named_X8_add : GoodIn wsX8_named (va_wsS RX8 57 yX8_add wsX8_add) := goodIn_app (goodIn_of _ (by decide +kernel)) ggX8_named_X8_add
theorem dX8_named_0 : decode cX8_named 0 = .ok (.lconst 0, 1) := by decide +kernel
theorem dX8_named_1 : decode cX8_named 1 = .ok (.iload_n 0, 1) := by decide +kernel
theorem dX8_named_2 : decode cX8_named 2 = .ok (.invokestatic 57, 3) := by decide +kernel
theorem dX8_named_5 : decode cX8_named 5 = .ok (.iload_n 1, 1) := by decide +kernel
theorem dX8_named_6 : decode cX8_named 6 = .ok (.invokestatic 57, 3) := by decide +kernel
theorem dX8_named_9 : decode cX8_named 9 = .ok (.iload_n 2, 1) := by decide +kernel
theorem dX8_named_10 : decode cX8_named 10 = .ok (.invokestatic 57, 3) := by decide +kernel
theorem dX8_named_13 : decode cX8_named 13 = .ok (.iload_n 3, 1) := by decide +kernel
theorem dX8_named_14 : decode cX8_named 14 = .ok (.invokestatic 57, 3) := by decide +kernel
theorem dX8_named_17 : decode cX8_named 17 = .ok (.iload 4, 2) := by decide +kernel
theorem dX8_named_19 : decode cX8_named 19 = .ok (.invokestatic 57, 3) := by decide +kernel
theorem dX8_named_22 : decode cX8_named 22 = .ok (.iload 5, 2) := by decide +kernel
theorem dX8_named_24 : decode cX8_named 24 = .ok (.invokestatic 57, 3) := by decide +kernel
theorem dX8_named_27 : decode cX8_named 27 = .ok (.lreturn, 1) := by decide +kernel
set_option maxRecDepth 20000 in
theorem ggX8_wordOf_X8_named : GoodIn wsX8_wordOf wsX8_named := goodIn_r _ [4, 5, 6, 3, 7, 8] (by decide +kernel) (by decide +kernel)
set_option maxRecDepth 20000 in
theorem gX8_wordOf_X8_named : GoodIn wsX8_wordOf (va_wsS RX8 61 yX8_named wsX8_named) := goodIn_app (goodIn_of _ (by decide +kernel)) ggX8_wordOf_X8_named
theorem dX8_wordOf_0 : decode cX8_wordOf 0 = .ok (.lload_n 0, 1) := by decide +kernel
theorem dX8_wordOf_1 : decode cX8_wordOf 1 = .ok (.bipush 99, 2) := by decide +kernel
theorem dX8_wordOf_3 : decode cX8_wordOf 3 = .ok (.bipush 108, 2) := by decide +kernel
theorem dX8_wordOf_5 : decode cX8_wordOf 5 = .ok (.bipush 101, 2) := by decide +kernel
theorem dX8_wordOf_7 : decode cX8_wordOf 7 = .ok (.bipush 114, 2) := by decide +kernel
theorem dX8_wordOf_9 : decode cX8_wordOf 9 = .ok (.bipush 107, 2) := by decide +kernel
theorem dX8_wordOf_11 : decode cX8_wordOf 11 = .ok (.iconst 0, 1) := by decide +kernel
theorem dX8_wordOf_12 : decode cX8_wordOf 12 = .ok (.invokestatic 61, 3) := by decide +kernel
theorem dX8_wordOf_15 : decode cX8_wordOf 15 = .ok (.lcmp, 1) := by decide +kernel
theorem dX8_wordOf_16 : decode cX8_wordOf 16 = .ok (.ifCond .ne 7, 3) := by decide +kernel
theorem dX8_wordOf_19 : decode cX8_wordOf 19 = .ok (.iconst 0, 1) := by decide +kernel
theorem dX8_wordOf_20 : decode cX8_wordOf 20 = .ok (.goto 29, 3) := by decide +kernel
theorem dX8_wordOf_23 : decode cX8_wordOf 23 = .ok (.lload_n 0, 1) := by decide +kernel
theorem dX8_wordOf_24 : decode cX8_wordOf 24 = .ok (.bipush 108, 2) := by decide +kernel
theorem dX8_wordOf_26 : decode cX8_wordOf 26 = .ok (.bipush 101, 2) := by decide +kernel
theorem dX8_wordOf_28 : decode cX8_wordOf 28 = .ok (.bipush 116, 2) := by decide +kernel
theorem dX8_wordOf_30 : decode cX8_wordOf 30 = .ok (.bipush 116, 2) := by decide +kernel
theorem dX8_wordOf_32 : decode cX8_wordOf 32 = .ok (.bipush 101, 2) := by decide +kernel
theorem dX8_wordOf_34 : decode cX8_wordOf 34 = .ok (.bipush 114, 2) := by decide +kernel
theorem dX8_wordOf_36 : decode cX8_wordOf 36 = .ok (.invokestatic 61, 3) := by decide +kernel
theorem dX8_wordOf_39 : decode cX8_wordOf 39 = .ok (.lcmp, 1) := by decide +kernel
theorem dX8_wordOf_40 : decode cX8_wordOf 40 = .ok (.ifCond .ne 7, 3) := by decide +kernel
theorem dX8_wordOf_43 : decode cX8_wordOf 43 = .ok (.iconst 1, 1) := by decide +kernel
theorem dX8_wordOf_44 : decode cX8_wordOf 44 = .ok (.goto 5, 3) := by decide +kernel
theorem dX8_wordOf_47 : decode cX8_wordOf 47 = .ok (.bipush (-9), 2) := by decide +kernel
theorem dX8_wordOf_49 : decode cX8_wordOf 49 = .ok (.ireturn, 1) := by decide +kernel
set_option maxRecDepth 20000 in
theorem ggX8_advances_X8_byteAt : GoodIn wsX8_advances wsX8_byteAt := goodIn_r _ [9, 10, 11, 25, 26, 27, 28, 29, 30, 31, 32, 33, 34, 35, 36, 37, 38, 39, 40, 41, 42, 43, 44, 45, 46, 47] (by decide +kernel) (by decide +kernel)
set_option maxRecDepth 20000 in
theorem gX8_advances_X8_byteAt : GoodIn wsX8_advances (wsV RX8 68 RX8 yX8_byteAt wsX8_byteAt) := goodIn_app (goodIn_of _ (by decide +kernel)) ggX8_advances_X8_byteAt
set_option maxRecDepth 20000 in
theorem ggX8_advances_X8_in : GoodIn wsX8_advances wsX8_in := goodIn_r _ [14] (by decide +kernel) (by decide +kernel)
set_option maxRecDepth 20000 in
theorem gX8_advances_X8_in : GoodIn wsX8_advances (va_wsS RX8 46 yX8_in wsX8_in) := goodIn_app (goodIn_of _ (by decide +kernel)) ggX8_advances_X8_in
set_option maxRecDepth 20000 in
theorem ggX8_advances_X8_add : GoodIn wsX8_advances wsX8_add := goodIn_r _ [17, 18] (by decide +kernel) (by decide +kernel)
set_option maxRecDepth 20000 in
theorem gX8_advances_X8_add : GoodIn wsX8_advances (va_wsS RX8 57 yX8_add wsX8_add) := goodIn_app (goodIn_of _ (by decide +kernel)) ggX8_advances_X8_add
set_option maxRecDepth 20000 in
theorem ggX8_advances_X8_wordOf : GoodIn wsX8_advances wsX8_wordOf := goodIn_r _ [21, 22, 23, 8, 24, 15, 16, 17, 18] (by decide +kernel) (by decide +kernel)
set_option maxRecDepth 20000 in
theorem gX8_advances_X8_wordOf : GoodIn wsX8_advances (va_wsS RX8 78 yX8_wordOf wsX8_wordOf) := goodIn_app (goodIn_of _ (by decide +kernel)) ggX8_advances_X8_wordOf
theorem dX8_advances_0 : decode cX8_advances 0 = .ok (.aload_n 0, 1) := by decide +kernel
theorem dX8_advances_1 : decode cX8_advances 1 = .ok (.aload_n 0, 1) := by decide +kernel
theorem dX8_advances_2 : decode cX8_advances 2 = .ok (.getfield 65, 3) := by decide +kernel
theorem dX8_advances_5 : decode cX8_advances 5 = .ok (.invokevirtual 68, 3) := by decide +kernel
theorem dX8_advances_8 : decode cX8_advances 8 = .ok (.bipush 32, 2) := by decide +kernel
theorem dX8_advances_10 : decode cX8_advances 10 = .ok (.if_icmp .ne 16, 3) := by decide +kernel
theorem dX8_advances_13 : decode cX8_advances 13 = .ok (.aload_n 0, 1) := by decide +kernel
theorem dX8_advances_14 : decode cX8_advances 14 = .ok (.dup, 1) := by decide +kernel
theorem dX8_advances_15 : decode cX8_advances 15 = .ok (.getfield 65, 3) := by decide +kernel
theorem dX8_advances_18 : decode cX8_advances 18 = .ok (.iconst 1, 1) := by decide +kernel
theorem dX8_advances_19 : decode cX8_advances 19 = .ok (.iadd, 1) := by decide +kernel
theorem dX8_advances_20 : decode cX8_advances 20 = .ok (.putfield 65, 3) := by decide +kernel
theorem dX8_advances_23 : decode cX8_advances 23 = .ok (.goto (-23), 3) := by decide +kernel
theorem dX8_advances_26 : decode cX8_advances 26 = .ok (.aload_n 0, 1) := by decide +kernel
theorem dX8_advances_27 : decode cX8_advances 27 = .ok (.aload_n 0, 1) := by decide +kernel
theorem dX8_advances_28 : decode cX8_advances 28 = .ok (.getfield 65, 3) := by decide +kernel
theorem dX8_advances_31 : decode cX8_advances 31 = .ok (.putfield 72, 3) := by decide +kernel
theorem dX8_advances_34 : decode cX8_advances 34 = .ok (.aload_n 0, 1) := by decide +kernel
theorem dX8_advances_35 : decode cX8_advances 35 = .ok (.aload_n 0, 1) := by decide +kernel
theorem dX8_advances_36 : decode cX8_advances 36 = .ok (.getfield 65, 3) := by decide +kernel
theorem dX8_advances_39 : decode cX8_advances 39 = .ok (.invokevirtual 68, 3) := by decide +kernel
theorem dX8_advances_42 : decode cX8_advances 42 = .ok (.istore_n 1, 1) := by decide +kernel
theorem dX8_advances_43 : decode cX8_advances 43 = .ok (.iload_n 1, 1) := by decide +kernel
theorem dX8_advances_44 : decode cX8_advances 44 = .ok (.ifCond .ge 11, 3) := by decide +kernel
theorem dX8_advances_47 : decode cX8_advances 47 = .ok (.aload_n 0, 1) := by decide +kernel
theorem dX8_advances_48 : decode cX8_advances 48 = .ok (.iconst 0, 1) := by decide +kernel
theorem dX8_advances_49 : decode cX8_advances 49 = .ok (.putfield 75, 3) := by decide +kernel
theorem dX8_advances_52 : decode cX8_advances 52 = .ok (.goto 258, 3) := by decide +kernel
theorem dX8_advances_55 : decode cX8_advances 55 = .ok (.iload_n 1, 1) := by decide +kernel
theorem dX8_advances_56 : decode cX8_advances 56 = .ok (.bipush 97, 2) := by decide +kernel
theorem dX8_advances_58 : decode cX8_advances 58 = .ok (.bipush 122, 2) := by decide +kernel
theorem dX8_advances_60 : decode cX8_advances 60 = .ok (.invokestatic 46, 3) := by decide +kernel
theorem dX8_advances_63 : decode cX8_advances 63 = .ok (.ifCond .eq 96, 3) := by decide +kernel
theorem dX8_advances_66 : decode cX8_advances 66 = .ok (.lconst 0, 1) := by decide +kernel
theorem dX8_advances_67 : decode cX8_advances 67 = .ok (.lstore_n 2, 1) := by decide +kernel
theorem dX8_advances_68 : decode cX8_advances 68 = .ok (.aload_n 0, 1) := by decide +kernel
theorem dX8_advances_69 : decode cX8_advances 69 = .ok (.aload_n 0, 1) := by decide +kernel
theorem dX8_advances_70 : decode cX8_advances 70 = .ok (.getfield 65, 3) := by decide +kernel
theorem dX8_advances_73 : decode cX8_advances 73 = .ok (.invokevirtual 68, 3) := by decide +kernel
theorem dX8_advances_76 : decode cX8_advances 76 = .ok (.bipush 97, 2) := by decide +kernel
theorem dX8_advances_78 : decode cX8_advances 78 = .ok (.bipush 122, 2) := by decide +kernel
theorem dX8_advances_80 : decode cX8_advances 80 = .ok (.invokestatic 46, 3) := by decide +kernel
theorem dX8_advances_83 : decode cX8_advances 83 = .ok (.ifCond .eq 47, 3) := by decide +kernel
theorem dX8_advances_86 : decode cX8_advances 86 = .ok (.aload_n 0, 1) := by decide +kernel
theorem dX8_advances_87 : decode cX8_advances 87 = .ok (.getfield 65, 3) := by decide +kernel
theorem dX8_advances_90 : decode cX8_advances 90 = .ok (.aload_n 0, 1) := by decide +kernel
theorem dX8_advances_91 : decode cX8_advances 91 = .ok (.getfield 72, 3) := by decide +kernel
theorem dX8_advances_94 : decode cX8_advances 94 = .ok (.isub, 1) := by decide +kernel
theorem dX8_advances_95 : decode cX8_advances 95 = .ok (.bipush 7, 2) := by decide +kernel
theorem dX8_advances_97 : decode cX8_advances 97 = .ok (.if_icmp .ge 18, 3) := by decide +kernel
theorem dX8_advances_100 : decode cX8_advances 100 = .ok (.lload_n 2, 1) := by decide +kernel
theorem dX8_advances_101 : decode cX8_advances 101 = .ok (.aload_n 0, 1) := by decide +kernel
theorem dX8_advances_102 : decode cX8_advances 102 = .ok (.aload_n 0, 1) := by decide +kernel
theorem dX8_advances_103 : decode cX8_advances 103 = .ok (.getfield 65, 3) := by decide +kernel
theorem dX8_advances_106 : decode cX8_advances 106 = .ok (.invokevirtual 68, 3) := by decide +kernel
theorem dX8_advances_109 : decode cX8_advances 109 = .ok (.invokestatic 57, 3) := by decide +kernel
theorem dX8_advances_112 : decode cX8_advances 112 = .ok (.goto 4, 3) := by decide +kernel
theorem dX8_advances_115 : decode cX8_advances 115 = .ok (.lload_n 2, 1) := by decide +kernel
theorem dX8_advances_116 : decode cX8_advances 116 = .ok (.lstore_n 2, 1) := by decide +kernel
theorem dX8_advances_117 : decode cX8_advances 117 = .ok (.aload_n 0, 1) := by decide +kernel
theorem dX8_advances_118 : decode cX8_advances 118 = .ok (.dup, 1) := by decide +kernel
theorem dX8_advances_119 : decode cX8_advances 119 = .ok (.getfield 65, 3) := by decide +kernel
theorem dX8_advances_122 : decode cX8_advances 122 = .ok (.iconst 1, 1) := by decide +kernel
theorem dX8_advances_123 : decode cX8_advances 123 = .ok (.iadd, 1) := by decide +kernel
theorem dX8_advances_124 : decode cX8_advances 124 = .ok (.putfield 65, 3) := by decide +kernel
theorem dX8_advances_127 : decode cX8_advances 127 = .ok (.goto (-59), 3) := by decide +kernel
theorem dX8_advances_130 : decode cX8_advances 130 = .ok (.aload_n 0, 1) := by decide +kernel
theorem dX8_advances_131 : decode cX8_advances 131 = .ok (.lload_n 2, 1) := by decide +kernel
theorem dX8_advances_132 : decode cX8_advances 132 = .ok (.invokestatic 78, 3) := by decide +kernel
theorem dX8_advances_135 : decode cX8_advances 135 = .ok (.putfield 82, 3) := by decide +kernel
theorem dX8_advances_138 : decode cX8_advances 138 = .ok (.aload_n 0, 1) := by decide +kernel
theorem dX8_advances_139 : decode cX8_advances 139 = .ok (.aload_n 0, 1) := by decide +kernel
theorem dX8_advances_140 : decode cX8_advances 140 = .ok (.getfield 82, 3) := by decide +kernel
theorem dX8_advances_143 : decode cX8_advances 143 = .ok (.bipush (-9), 2) := by decide +kernel
theorem dX8_advances_145 : decode cX8_advances 145 = .ok (.if_icmp .ne 7, 3) := by decide +kernel
theorem dX8_advances_148 : decode cX8_advances 148 = .ok (.iconst 4, 1) := by decide +kernel
theorem dX8_advances_149 : decode cX8_advances 149 = .ok (.goto 4, 3) := by decide +kernel
theorem dX8_advances_152 : decode cX8_advances 152 = .ok (.iconst 1, 1) := by decide +kernel
theorem dX8_advances_153 : decode cX8_advances 153 = .ok (.putfield 75, 3) := by decide +kernel
theorem dX8_advances_156 : decode cX8_advances 156 = .ok (.goto 154, 3) := by decide +kernel
theorem dX8_advances_159 : decode cX8_advances 159 = .ok (.iload_n 1, 1) := by decide +kernel
theorem dX8_advances_160 : decode cX8_advances 160 = .ok (.bipush 48, 2) := by decide +kernel
theorem dX8_advances_162 : decode cX8_advances 162 = .ok (.bipush 57, 2) := by decide +kernel
theorem dX8_advances_164 : decode cX8_advances 164 = .ok (.invokestatic 46, 3) := by decide +kernel
theorem dX8_advances_167 : decode cX8_advances 167 = .ok (.ifCond .eq 118, 3) := by decide +kernel
theorem dX8_advances_170 : decode cX8_advances 170 = .ok (.aload_n 0, 1) := by decide +kernel
theorem dX8_advances_171 : decode cX8_advances 171 = .ok (.iconst 0, 1) := by decide +kernel
theorem dX8_advances_172 : decode cX8_advances 172 = .ok (.putfield 82, 3) := by decide +kernel
theorem dX8_advances_175 : decode cX8_advances 175 = .ok (.aload_n 0, 1) := by decide +kernel
theorem dX8_advances_176 : decode cX8_advances 176 = .ok (.aload_n 0, 1) := by decide +kernel
theorem dX8_advances_177 : decode cX8_advances 177 = .ok (.getfield 65, 3) := by decide +kernel
theorem dX8_advances_180 : decode cX8_advances 180 = .ok (.invokevirtual 68, 3) := by decide +kernel
theorem dX8_advances_183 : decode cX8_advances 183 = .ok (.bipush 48, 2) := by decide +kernel
theorem dX8_advances_185 : decode cX8_advances 185 = .ok (.bipush 57, 2) := by decide +kernel
theorem dX8_advances_187 : decode cX8_advances 187 = .ok (.invokestatic 46, 3) := by decide +kernel
theorem dX8_advances_190 : decode cX8_advances 190 = .ok (.ifCond .eq 55, 3) := by decide +kernel
theorem dX8_advances_193 : decode cX8_advances 193 = .ok (.aload_n 0, 1) := by decide +kernel
theorem dX8_advances_194 : decode cX8_advances 194 = .ok (.aload_n 0, 1) := by decide +kernel
theorem dX8_advances_195 : decode cX8_advances 195 = .ok (.getfield 82, 3) := by decide +kernel
theorem dX8_advances_198 : decode cX8_advances 198 = .ok (.bipush 99, 2) := by decide +kernel
theorem dX8_advances_200 : decode cX8_advances 200 = .ok (.if_icmp .le 10, 3) := by decide +kernel
theorem dX8_advances_203 : decode cX8_advances 203 = .ok (.aload_n 0, 1) := by decide +kernel
theorem dX8_advances_204 : decode cX8_advances 204 = .ok (.getfield 82, 3) := by decide +kernel
theorem dX8_advances_207 : decode cX8_advances 207 = .ok (.goto 22, 3) := by decide +kernel
theorem dX8_advances_210 : decode cX8_advances 210 = .ok (.bipush 10, 2) := by decide +kernel
theorem dX8_advances_212 : decode cX8_advances 212 = .ok (.aload_n 0, 1) := by decide +kernel
theorem dX8_advances_213 : decode cX8_advances 213 = .ok (.getfield 82, 3) := by decide +kernel
theorem dX8_advances_216 : decode cX8_advances 216 = .ok (.imul, 1) := by decide +kernel
theorem dX8_advances_217 : decode cX8_advances 217 = .ok (.aload_n 0, 1) := by decide +kernel
theorem dX8_advances_218 : decode cX8_advances 218 = .ok (.aload_n 0, 1) := by decide +kernel
theorem dX8_advances_219 : decode cX8_advances 219 = .ok (.getfield 65, 3) := by decide +kernel
theorem dX8_advances_222 : decode cX8_advances 222 = .ok (.invokevirtual 68, 3) := by decide +kernel
theorem dX8_advances_225 : decode cX8_advances 225 = .ok (.iadd, 1) := by decide +kernel
theorem dX8_advances_226 : decode cX8_advances 226 = .ok (.bipush 48, 2) := by decide +kernel
theorem dX8_advances_228 : decode cX8_advances 228 = .ok (.isub, 1) := by decide +kernel
theorem dX8_advances_229 : decode cX8_advances 229 = .ok (.putfield 82, 3) := by decide +kernel
theorem dX8_advances_232 : decode cX8_advances 232 = .ok (.aload_n 0, 1) := by decide +kernel
theorem dX8_advances_233 : decode cX8_advances 233 = .ok (.dup, 1) := by decide +kernel
theorem dX8_advances_234 : decode cX8_advances 234 = .ok (.getfield 65, 3) := by decide +kernel
theorem dX8_advances_237 : decode cX8_advances 237 = .ok (.iconst 1, 1) := by decide +kernel
theorem dX8_advances_238 : decode cX8_advances 238 = .ok (.iadd, 1) := by decide +kernel
theorem dX8_advances_239 : decode cX8_advances 239 = .ok (.putfield 65, 3) := by decide +kernel
theorem dX8_advances_242 : decode cX8_advances 242 = .ok (.goto (-67), 3) := by decide +kernel
theorem dX8_advances_245 : decode cX8_advances 245 = .ok (.aload_n 0, 1) := by decide +kernel
theorem dX8_advances_246 : decode cX8_advances 246 = .ok (.aload_n 0, 1) := by decide +kernel
theorem dX8_advances_247 : decode cX8_advances 247 = .ok (.getfield 82, 3) := by decide +kernel
theorem dX8_advances_250 : decode cX8_advances 250 = .ok (.bipush 99, 2) := by decide +kernel
theorem dX8_advances_252 : decode cX8_advances 252 = .ok (.if_icmp .gt 22, 3) := by decide +kernel
theorem dX8_advances_255 : decode cX8_advances 255 = .ok (.iload_n 1, 1) := by decide +kernel
theorem dX8_advances_256 : decode cX8_advances 256 = .ok (.bipush 48, 2) := by decide +kernel
theorem dX8_advances_258 : decode cX8_advances 258 = .ok (.if_icmp .ne 20, 3) := by decide +kernel
theorem dX8_advances_261 : decode cX8_advances 261 = .ok (.aload_n 0, 1) := by decide +kernel
theorem dX8_advances_262 : decode cX8_advances 262 = .ok (.getfield 65, 3) := by decide +kernel
theorem dX8_advances_265 : decode cX8_advances 265 = .ok (.aload_n 0, 1) := by decide +kernel
theorem dX8_advances_266 : decode cX8_advances 266 = .ok (.getfield 72, 3) := by decide +kernel
theorem dX8_advances_269 : decode cX8_advances 269 = .ok (.isub, 1) := by decide +kernel
theorem dX8_advances_270 : decode cX8_advances 270 = .ok (.iconst 1, 1) := by decide +kernel
theorem dX8_advances_271 : decode cX8_advances 271 = .ok (.if_icmp .le 7, 3) := by decide +kernel
theorem dX8_advances_274 : decode cX8_advances 274 = .ok (.iconst 4, 1) := by decide +kernel
theorem dX8_advances_275 : decode cX8_advances 275 = .ok (.goto 4, 3) := by decide +kernel
theorem dX8_advances_278 : decode cX8_advances 278 = .ok (.iconst 2, 1) := by decide +kernel
theorem dX8_advances_279 : decode cX8_advances 279 = .ok (.putfield 75, 3) := by decide +kernel
theorem dX8_advances_282 : decode cX8_advances 282 = .ok (.goto 28, 3) := by decide +kernel
theorem dX8_advances_285 : decode cX8_advances 285 = .ok (.aload_n 0, 1) := by decide +kernel
theorem dX8_advances_286 : decode cX8_advances 286 = .ok (.dup, 1) := by decide +kernel
theorem dX8_advances_287 : decode cX8_advances 287 = .ok (.getfield 65, 3) := by decide +kernel
theorem dX8_advances_290 : decode cX8_advances 290 = .ok (.iconst 1, 1) := by decide +kernel
theorem dX8_advances_291 : decode cX8_advances 291 = .ok (.iadd, 1) := by decide +kernel
theorem dX8_advances_292 : decode cX8_advances 292 = .ok (.putfield 65, 3) := by decide +kernel
theorem dX8_advances_295 : decode cX8_advances 295 = .ok (.aload_n 0, 1) := by decide +kernel
theorem dX8_advances_296 : decode cX8_advances 296 = .ok (.iload_n 1, 1) := by decide +kernel
theorem dX8_advances_297 : decode cX8_advances 297 = .ok (.bipush 59, 2) := by decide +kernel
theorem dX8_advances_299 : decode cX8_advances 299 = .ok (.if_icmp .ne 7, 3) := by decide +kernel
theorem dX8_advances_302 : decode cX8_advances 302 = .ok (.iconst 3, 1) := by decide +kernel
theorem dX8_advances_303 : decode cX8_advances 303 = .ok (.goto 4, 3) := by decide +kernel
theorem dX8_advances_306 : decode cX8_advances 306 = .ok (.iconst 4, 1) := by decide +kernel
theorem dX8_advances_307 : decode cX8_advances 307 = .ok (.putfield 75, 3) := by decide +kernel
theorem dX8_advances_310 : decode cX8_advances 310 = .ok (.return_, 1) := by decide +kernel
theorem dX8_isWell_0 : decode cX8_isWell 0 = .ok (.aload_n 0, 1) := by decide +kernel
theorem dX8_isWell_1 : decode cX8_isWell 1 = .ok (.getfield 85, 3) := by decide +kernel
theorem dX8_isWell_4 : decode cX8_isWell 4 = .ok (.ifCond .ge 7, 3) := by decide +kernel
theorem dX8_isWell_7 : decode cX8_isWell 7 = .ok (.iconst 1, 1) := by decide +kernel
theorem dX8_isWell_8 : decode cX8_isWell 8 = .ok (.goto 4, 3) := by decide +kernel
theorem dX8_isWell_11 : decode cX8_isWell 11 = .ok (.iconst 0, 1) := by decide +kernel
theorem dX8_isWell_12 : decode cX8_isWell 12 = .ok (.ireturn, 1) := by decide +kernel
set_option maxRecDepth 20000 in
theorem ggX8_takes_X8_isWell : GoodIn wsX8_takes wsX8_isWell := goodIn_r _ [8, 2, 34, 35, 36, 37, 38, 39, 40, 41, 42, 43, 44, 45, 46, 47, 48, 49, 50, 51, 52, 53, 54, 55, 56] (by decide +kernel) (by decide +kernel)
set_option maxRecDepth 20000 in
theorem gX8_takes_X8_isWell : GoodIn wsX8_takes (wsV RX8 88 RX8 yX8_isWell wsX8_isWell) := goodIn_app (goodIn_of _ (by decide +kernel)) ggX8_takes_X8_isWell
set_option maxRecDepth 20000 in
theorem ggX8_takes_X8_advances : GoodIn wsX8_takes wsX8_advances := goodIn_r _ [12, 13, 1, 14, 3, 15, 16, 17, 7, 18, 19, 20, 21, 22, 23, 24, 25, 26, 27, 28, 29, 30, 31, 32, 33, 34, 35, 36, 37, 38, 39, 40, 41, 42, 43, 44, 45, 46, 47, 48, 49, 50, 51, 52, 53, 54, 55, 56] (by decide +kernel) (by decide +kernel)
set_option maxRecDepth 20000 in
theorem gX8_takes_X8_advances : GoodIn wsX8_takes (wsV RX8 92 RX8 yX8_advances wsX8_advances) := goodIn_app (goodIn_of _ (by decide +kernel)) ggX8_takes_X8_advances
theorem dX8_takes_0 : decode cX8_takes 0 = .ok (.aload_n 0, 1) := by decide +kernel
theorem dX8_takes_1 : decode cX8_takes 1 = .ok (.invokevirtual 88, 3) := by decide +kernel
theorem dX8_takes_4 : decode cX8_takes 4 = .ok (.ifCond .ne 5, 3) := by decide +kernel
theorem dX8_takes_7 : decode cX8_takes 7 = .ok (.iconst 0, 1) := by decide +kernel
theorem dX8_takes_8 : decode cX8_takes 8 = .ok (.ireturn, 1) := by decide +kernel
theorem dX8_takes_9 : decode cX8_takes 9 = .ok (.iload_n 1, 1) := by decide +kernel
theorem dX8_takes_10 : decode cX8_takes 10 = .ok (.ifCond .ne 13, 3) := by decide +kernel
theorem dX8_takes_13 : decode cX8_takes 13 = .ok (.aload_n 0, 1) := by decide +kernel
theorem dX8_takes_14 : decode cX8_takes 14 = .ok (.aload_n 0, 1) := by decide +kernel
theorem dX8_takes_15 : decode cX8_takes 15 = .ok (.getfield 72, 3) := by decide +kernel
theorem dX8_takes_18 : decode cX8_takes 18 = .ok (.putfield 85, 3) := by decide +kernel
theorem dX8_takes_21 : decode cX8_takes 21 = .ok (.iconst 0, 1) := by decide +kernel
theorem dX8_takes_22 : decode cX8_takes 22 = .ok (.ireturn, 1) := by decide +kernel
theorem dX8_takes_23 : decode cX8_takes 23 = .ok (.aload_n 0, 1) := by decide +kernel
theorem dX8_takes_24 : decode cX8_takes 24 = .ok (.getfield 82, 3) := by decide +kernel
theorem dX8_takes_27 : decode cX8_takes 27 = .ok (.istore_n 2, 1) := by decide +kernel
theorem dX8_takes_28 : decode cX8_takes 28 = .ok (.aload_n 0, 1) := by decide +kernel
theorem dX8_takes_29 : decode cX8_takes 29 = .ok (.invokevirtual 92, 3) := by decide +kernel
theorem dX8_takes_32 : decode cX8_takes 32 = .ok (.iload_n 2, 1) := by decide +kernel
theorem dX8_takes_33 : decode cX8_takes 33 = .ok (.ireturn, 1) := by decide +kernel
set_option maxRecDepth 20000 in
theorem ggX8_number_X8_in : GoodIn wsX8_number wsX8_in := goodIn_r _ [6] (by decide +kernel) (by decide +kernel)
set_option maxRecDepth 20000 in
theorem gX8_number_X8_in : GoodIn wsX8_number (va_wsS RX8 46 yX8_in wsX8_in) := goodIn_app (goodIn_of _ (by decide +kernel)) ggX8_number_X8_in
set_option maxRecDepth 20000 in
theorem ggX8_number_X8_takes : GoodIn wsX8_number wsX8_takes := goodIn_r _ [10, 11, 12, 2, 13, 14, 15, 5, 16, 17, 18, 19, 20, 21, 1, 22, 23, 24, 25, 26, 27, 3, 4, 6, 28, 29, 30, 31, 32, 33, 34, 35, 36, 37, 38, 39, 40, 41, 42, 43, 44, 45, 46, 47, 48, 49, 50, 51, 52, 53, 54, 55, 56, 57, 58, 59, 60] (by decide +kernel) (by decide +kernel)
set_option maxRecDepth 20000 in
theorem gX8_number_X8_takes : GoodIn wsX8_number (wsV RX8 95 RX8 yX8_takes wsX8_takes) := goodIn_app (goodIn_of _ (by decide +kernel)) ggX8_number_X8_takes
theorem dX8_number_0 : decode cX8_number 0 = .ok (.aload_n 0, 1) := by decide +kernel
theorem dX8_number_1 : decode cX8_number 1 = .ok (.aload_n 0, 1) := by decide +kernel
theorem dX8_number_2 : decode cX8_number 2 = .ok (.getfield 75, 3) := by decide +kernel
theorem dX8_number_5 : decode cX8_number 5 = .ok (.iconst 2, 1) := by decide +kernel
theorem dX8_number_6 : decode cX8_number 6 = .ok (.if_icmp .ne 19, 3) := by decide +kernel
theorem dX8_number_9 : decode cX8_number 9 = .ok (.aload_n 0, 1) := by decide +kernel
theorem dX8_number_10 : decode cX8_number 10 = .ok (.getfield 82, 3) := by decide +kernel
theorem dX8_number_13 : decode cX8_number 13 = .ok (.iload_n 1, 1) := by decide +kernel
theorem dX8_number_14 : decode cX8_number 14 = .ok (.iload_n 2, 1) := by decide +kernel
theorem dX8_number_15 : decode cX8_number 15 = .ok (.invokestatic 46, 3) := by decide +kernel
theorem dX8_number_18 : decode cX8_number 18 = .ok (.ifCond .eq 7, 3) := by decide +kernel
theorem dX8_number_21 : decode cX8_number 21 = .ok (.iconst 1, 1) := by decide +kernel
theorem dX8_number_22 : decode cX8_number 22 = .ok (.goto 4, 3) := by decide +kernel
theorem dX8_number_25 : decode cX8_number 25 = .ok (.iconst 0, 1) := by decide +kernel
theorem dX8_number_26 : decode cX8_number 26 = .ok (.invokevirtual 95, 3) := by decide +kernel
theorem dX8_number_29 : decode cX8_number 29 = .ok (.ireturn, 1) := by decide +kernel
set_option maxRecDepth 20000 in
theorem ggX8_readsItem_X8_number : GoodIn wsX8_readsItem wsX8_number := goodIn_r _ [10, 3, 4, 11, 12, 9, 13, 14, 15, 16, 17, 18, 19, 20, 21, 22, 23, 24, 25, 26, 27, 28, 29, 30, 31, 32, 33, 34, 35, 36, 37, 38, 39, 40, 41, 42, 43, 44, 45, 46, 47, 48, 49, 50, 51, 52, 53, 54, 55, 56, 57, 58, 59, 60, 61, 62, 63, 64, 65, 66, 67] (by decide +kernel) (by decide +kernel)
set_option maxRecDepth 20000 in
theorem gX8_readsItem_X8_number : GoodIn wsX8_readsItem (wsV RX8 102 RX8 yX8_number wsX8_number) := goodIn_app (goodIn_of _ (by decide +kernel)) ggX8_readsItem_X8_number
set_option maxRecDepth 20000 in
theorem ggX8_readsItem_X8_in : GoodIn wsX8_readsItem wsX8_in := goodIn_r _ [13] (by decide +kernel) (by decide +kernel)
set_option maxRecDepth 20000 in
theorem gX8_readsItem_X8_in : GoodIn wsX8_readsItem (va_wsS RX8 46 yX8_in wsX8_in) := goodIn_app (goodIn_of _ (by decide +kernel)) ggX8_readsItem_X8_in
set_option maxRecDepth 20000 in
theorem ggX8_readsItem_X8_takes : GoodIn wsX8_readsItem wsX8_takes := goodIn_r _ [17, 18, 19, 4, 20, 21, 22, 9, 23, 24, 25, 26, 27, 28, 3, 29, 30, 31, 32, 33, 34, 11, 12, 13, 35, 36, 37, 38, 39, 40, 41, 42, 43, 44, 45, 46, 47, 48, 49, 50, 51, 52, 53, 54, 55, 56, 57, 58, 59, 60, 61, 62, 63, 64, 65, 66, 67] (by decide +kernel) (by decide +kernel)
set_option maxRecDepth 20000 in
theorem gX8_readsItem_X8_takes : GoodIn wsX8_readsItem (wsV RX8 95 RX8 yX8_takes wsX8_takes) := goodIn_app (goodIn_of _ (by decide +kernel)) ggX8_readsItem_X8_takes
theorem dX8_readsItem_0 : decode cX8_readsItem 0 = .ok (.iload_n 1, 1) := by decide +kernel
theorem dX8_readsItem_1 : decode cX8_readsItem 1 = .ok (.ifCond .ne 118, 3) := by decide +kernel
theorem dX8_readsItem_4 : decode cX8_readsItem 4 = .ok (.bipush 24, 2) := by decide +kernel
theorem dX8_readsItem_6 : decode cX8_readsItem 6 = .ok (.iconst 4, 1) := by decide +kernel
theorem dX8_readsItem_7 : decode cX8_readsItem 7 = .ok (.aload_n 0, 1) := by decide +kernel
theorem dX8_readsItem_8 : decode cX8_readsItem 8 = .ok (.getfield 99, 3) := by decide +kernel
theorem dX8_readsItem_11 : decode cX8_readsItem 11 = .ok (.imul, 1) := by decide +kernel
theorem dX8_readsItem_12 : decode cX8_readsItem 12 = .ok (.iadd, 1) := by decide +kernel
theorem dX8_readsItem_13 : decode cX8_readsItem 13 = .ok (.istore_n 2, 1) := by decide +kernel
theorem dX8_readsItem_14 : decode cX8_readsItem 14 = .ok (.aload_n 0, 1) := by decide +kernel
theorem dX8_readsItem_15 : decode cX8_readsItem 15 = .ok (.getfield 13, 3) := by decide +kernel
theorem dX8_readsItem_18 : decode cX8_readsItem 18 = .ok (.iload_n 2, 1) := by decide +kernel
theorem dX8_readsItem_19 : decode cX8_readsItem 19 = .ok (.aload_n 0, 1) := by decide +kernel
theorem dX8_readsItem_20 : decode cX8_readsItem 20 = .ok (.iconst 0, 1) := by decide +kernel
theorem dX8_readsItem_21 : decode cX8_readsItem 21 = .ok (.bipush 8, 2) := by decide +kernel
theorem dX8_readsItem_23 : decode cX8_readsItem 23 = .ok (.invokevirtual 102, 3) := by decide +kernel
theorem dX8_readsItem_26 : decode cX8_readsItem 26 = .ok (.iastore, 1) := by decide +kernel
theorem dX8_readsItem_27 : decode cX8_readsItem 27 = .ok (.aload_n 0, 1) := by decide +kernel
theorem dX8_readsItem_28 : decode cX8_readsItem 28 = .ok (.iconst 0, 1) := by decide +kernel
theorem dX8_readsItem_29 : decode cX8_readsItem 29 = .ok (.bipush 7, 2) := by decide +kernel
theorem dX8_readsItem_31 : decode cX8_readsItem 31 = .ok (.invokevirtual 102, 3) := by decide +kernel
theorem dX8_readsItem_34 : decode cX8_readsItem 34 = .ok (.istore_n 3, 1) := by decide +kernel
theorem dX8_readsItem_35 : decode cX8_readsItem 35 = .ok (.aload_n 0, 1) := by decide +kernel
theorem dX8_readsItem_36 : decode cX8_readsItem 36 = .ok (.getfield 13, 3) := by decide +kernel
theorem dX8_readsItem_39 : decode cX8_readsItem 39 = .ok (.iload_n 2, 1) := by decide +kernel
theorem dX8_readsItem_40 : decode cX8_readsItem 40 = .ok (.iconst 1, 1) := by decide +kernel
theorem dX8_readsItem_41 : decode cX8_readsItem 41 = .ok (.iadd, 1) := by decide +kernel
theorem dX8_readsItem_42 : decode cX8_readsItem 42 = .ok (.iload_n 3, 1) := by decide +kernel
theorem dX8_readsItem_43 : decode cX8_readsItem 43 = .ok (.iastore, 1) := by decide +kernel
theorem dX8_readsItem_44 : decode cX8_readsItem 44 = .ok (.aload_n 0, 1) := by decide +kernel
theorem dX8_readsItem_45 : decode cX8_readsItem 45 = .ok (.getfield 13, 3) := by decide +kernel
theorem dX8_readsItem_48 : decode cX8_readsItem 48 = .ok (.iload_n 2, 1) := by decide +kernel
theorem dX8_readsItem_49 : decode cX8_readsItem 49 = .ok (.iconst 2, 1) := by decide +kernel
theorem dX8_readsItem_50 : decode cX8_readsItem 50 = .ok (.iadd, 1) := by decide +kernel
theorem dX8_readsItem_51 : decode cX8_readsItem 51 = .ok (.aload_n 0, 1) := by decide +kernel
theorem dX8_readsItem_52 : decode cX8_readsItem 52 = .ok (.aload_n 0, 1) := by decide +kernel
theorem dX8_readsItem_53 : decode cX8_readsItem 53 = .ok (.getfield 75, 3) := by decide +kernel
theorem dX8_readsItem_56 : decode cX8_readsItem 56 = .ok (.iconst 2, 1) := by decide +kernel
theorem dX8_readsItem_57 : decode cX8_readsItem 57 = .ok (.if_icmp .ne 29, 3) := by decide +kernel
theorem dX8_readsItem_60 : decode cX8_readsItem 60 = .ok (.aload_n 0, 1) := by decide +kernel
theorem dX8_readsItem_61 : decode cX8_readsItem 61 = .ok (.getfield 82, 3) := by decide +kernel
theorem dX8_readsItem_64 : decode cX8_readsItem 64 = .ok (.iconst 0, 1) := by decide +kernel
theorem dX8_readsItem_65 : decode cX8_readsItem 65 = .ok (.bipush 7, 2) := by decide +kernel
theorem dX8_readsItem_67 : decode cX8_readsItem 67 = .ok (.invokestatic 46, 3) := by decide +kernel
theorem dX8_readsItem_70 : decode cX8_readsItem 70 = .ok (.ifCond .eq 16, 3) := by decide +kernel
theorem dX8_readsItem_73 : decode cX8_readsItem 73 = .ok (.aload_n 0, 1) := by decide +kernel
theorem dX8_readsItem_74 : decode cX8_readsItem 74 = .ok (.getfield 82, 3) := by decide +kernel
theorem dX8_readsItem_77 : decode cX8_readsItem 77 = .ok (.iload_n 3, 1) := by decide +kernel
theorem dX8_readsItem_78 : decode cX8_readsItem 78 = .ok (.iand, 1) := by decide +kernel
theorem dX8_readsItem_79 : decode cX8_readsItem 79 = .ok (.ifCond .ne 7, 3) := by decide +kernel
theorem dX8_readsItem_82 : decode cX8_readsItem 82 = .ok (.iconst 1, 1) := by decide +kernel
theorem dX8_readsItem_83 : decode cX8_readsItem 83 = .ok (.goto 4, 3) := by decide +kernel
theorem dX8_readsItem_86 : decode cX8_readsItem 86 = .ok (.iconst 0, 1) := by decide +kernel
theorem dX8_readsItem_87 : decode cX8_readsItem 87 = .ok (.invokevirtual 95, 3) := by decide +kernel
theorem dX8_readsItem_90 : decode cX8_readsItem 90 = .ok (.iastore, 1) := by decide +kernel
theorem dX8_readsItem_91 : decode cX8_readsItem 91 = .ok (.aload_n 0, 1) := by decide +kernel
theorem dX8_readsItem_92 : decode cX8_readsItem 92 = .ok (.getfield 13, 3) := by decide +kernel
theorem dX8_readsItem_95 : decode cX8_readsItem 95 = .ok (.iload_n 2, 1) := by decide +kernel
theorem dX8_readsItem_96 : decode cX8_readsItem 96 = .ok (.iconst 3, 1) := by decide +kernel
theorem dX8_readsItem_97 : decode cX8_readsItem 97 = .ok (.iadd, 1) := by decide +kernel
theorem dX8_readsItem_98 : decode cX8_readsItem 98 = .ok (.aload_n 0, 1) := by decide +kernel
theorem dX8_readsItem_99 : decode cX8_readsItem 99 = .ok (.iconst 0, 1) := by decide +kernel
theorem dX8_readsItem_100 : decode cX8_readsItem 100 = .ok (.bipush 10, 2) := by decide +kernel
theorem dX8_readsItem_102 : decode cX8_readsItem 102 = .ok (.invokevirtual 102, 3) := by decide +kernel
theorem dX8_readsItem_105 : decode cX8_readsItem 105 = .ok (.iastore, 1) := by decide +kernel
theorem dX8_readsItem_106 : decode cX8_readsItem 106 = .ok (.aload_n 0, 1) := by decide +kernel
theorem dX8_readsItem_107 : decode cX8_readsItem 107 = .ok (.dup, 1) := by decide +kernel
theorem dX8_readsItem_108 : decode cX8_readsItem 108 = .ok (.getfield 99, 3) := by decide +kernel
theorem dX8_readsItem_111 : decode cX8_readsItem 111 = .ok (.iconst 1, 1) := by decide +kernel
theorem dX8_readsItem_112 : decode cX8_readsItem 112 = .ok (.iadd, 1) := by decide +kernel
theorem dX8_readsItem_113 : decode cX8_readsItem 113 = .ok (.putfield 99, 3) := by decide +kernel
theorem dX8_readsItem_116 : decode cX8_readsItem 116 = .ok (.goto 27, 3) := by decide +kernel
theorem dX8_readsItem_119 : decode cX8_readsItem 119 = .ok (.aload_n 0, 1) := by decide +kernel
theorem dX8_readsItem_120 : decode cX8_readsItem 120 = .ok (.iconst 0, 1) := by decide +kernel
theorem dX8_readsItem_121 : decode cX8_readsItem 121 = .ok (.bipush 9, 2) := by decide +kernel
theorem dX8_readsItem_123 : decode cX8_readsItem 123 = .ok (.invokevirtual 102, 3) := by decide +kernel
theorem dX8_readsItem_126 : decode cX8_readsItem 126 = .ok (.istore_n 2, 1) := by decide +kernel
theorem dX8_readsItem_127 : decode cX8_readsItem 127 = .ok (.aload_n 0, 1) := by decide +kernel
theorem dX8_readsItem_128 : decode cX8_readsItem 128 = .ok (.iload_n 2, 1) := by decide +kernel
theorem dX8_readsItem_129 : decode cX8_readsItem 129 = .ok (.bipush 10, 2) := by decide +kernel
theorem dX8_readsItem_131 : decode cX8_readsItem 131 = .ok (.aload_n 0, 1) := by decide +kernel
theorem dX8_readsItem_132 : decode cX8_readsItem 132 = .ok (.iconst 0, 1) := by decide +kernel
theorem dX8_readsItem_133 : decode cX8_readsItem 133 = .ok (.bipush 7, 2) := by decide +kernel
theorem dX8_readsItem_135 : decode cX8_readsItem 135 = .ok (.invokevirtual 102, 3) := by decide +kernel
theorem dX8_readsItem_138 : decode cX8_readsItem 138 = .ok (.imul, 1) := by decide +kernel
theorem dX8_readsItem_139 : decode cX8_readsItem 139 = .ok (.iadd, 1) := by decide +kernel
theorem dX8_readsItem_140 : decode cX8_readsItem 140 = .ok (.putfield 106, 3) := by decide +kernel
theorem dX8_readsItem_143 : decode cX8_readsItem 143 = .ok (.return_, 1) := by decide +kernel
set_option maxRecDepth 20000 in
theorem ggX8_chancery_X8_advances : GoodIn wsX8_chancery wsX8_advances := goodIn_r _ [18, 3, 19, 6, 7, 20, 21, 22, 17, 23, 10, 24, 25, 26, 27, 28, 29, 30, 31, 32, 33, 34, 35, 36, 37, 59, 60, 61, 62, 63, 64, 65, 66, 67, 68, 69, 70, 71, 72, 73, 74, 75, 76, 77, 78, 79, 80, 81] (by decide +kernel) (by decide +kernel)
set_option maxRecDepth 20000 in
theorem gX8_chancery_X8_advances : GoodIn wsX8_chancery (wsV RX8 92 RX8 yX8_advances wsX8_advances) := goodIn_app (goodIn_of _ (by decide +kernel)) ggX8_chancery_X8_advances
set_option maxRecDepth 20000 in
theorem ggX8_chancery_X8_isWell : GoodIn wsX8_chancery wsX8_isWell := goodIn_r _ [41, 2, 59, 60, 61, 62, 63, 64, 65, 66, 67, 68, 69, 70, 71, 72, 73, 74, 75, 76, 77, 78, 79, 80, 81] (by decide +kernel) (by decide +kernel)
set_option maxRecDepth 20000 in
theorem gX8_chancery_X8_isWell : GoodIn wsX8_chancery (wsV RX8 88 RX8 yX8_isWell wsX8_isWell) := goodIn_app (goodIn_of _ (by decide +kernel)) ggX8_chancery_X8_isWell
set_option maxRecDepth 20000 in
theorem ggX8_chancery_X8_takes : GoodIn wsX8_chancery wsX8_takes := goodIn_r _ [45, 19, 2, 7, 38, 39, 40, 17, 41, 14, 15, 16, 18, 3, 6, 20, 21, 22, 23, 10, 24, 25, 26, 27, 28, 29, 30, 31, 32, 33, 34, 35, 36, 37, 59, 60, 61, 62, 63, 64, 65, 66, 67, 68, 69, 70, 71, 72, 73, 74, 75, 76, 77, 78, 79, 80, 81] (by decide +kernel) (by decide +kernel)
set_option maxRecDepth 20000 in
theorem gX8_chancery_X8_takes : GoodIn wsX8_chancery (wsV RX8 95 RX8 yX8_takes wsX8_takes) := goodIn_app (goodIn_of _ (by decide +kernel)) ggX8_chancery_X8_takes
set_option maxRecDepth 20000 in
theorem ggX8_chancery_X8_readsItem : GoodIn wsX8_chancery wsX8_readsItem := goodIn_r _ [49, 4, 9, 6, 7, 5, 50, 51, 52, 17, 53, 25, 26, 27, 42, 43, 44, 45, 19, 2, 38, 39, 40, 41, 14, 15, 16, 18, 3, 20, 21, 22, 23, 10, 24, 28, 29, 30, 31, 32, 33, 34, 35, 36, 37, 59, 60, 61, 62, 63, 64, 65, 66, 67, 68, 69, 70, 71, 72, 73, 74, 75, 76, 77, 78, 79, 80, 81] (by decide +kernel) (by decide +kernel)
set_option maxRecDepth 20000 in
theorem gX8_chancery_X8_readsItem : GoodIn wsX8_chancery (wsV RX8 109 RX8 yX8_readsItem wsX8_readsItem) := goodIn_app (goodIn_of _ (by decide +kernel)) ggX8_chancery_X8_readsItem
set_option maxRecDepth 20000 in
theorem ggX8_chancery_X8_begins : GoodIn wsX8_chancery wsX8_begins := goodIn_r _ [57, 58, 59, 60, 61, 62, 63, 64, 65, 66, 67, 68, 69, 70, 71, 72, 73, 74, 75, 76, 77, 78, 79, 80, 81] (by decide +kernel) (by decide +kernel)
set_option maxRecDepth 20000 in
theorem gX8_chancery_X8_begins : GoodIn wsX8_chancery (wsV RX8 38 RX8 yX8_begins wsX8_begins) := goodIn_app (goodIn_of _ (by decide +kernel)) ggX8_chancery_X8_begins
theorem dX8_chancery_0 : decode cX8_chancery 0 = .ok (.aload_n 0, 1) := by decide +kernel
theorem dX8_chancery_1 : decode cX8_chancery 1 = .ok (.iconst 0, 1) := by decide +kernel
theorem dX8_chancery_2 : decode cX8_chancery 2 = .ok (.putfield 42, 3) := by decide +kernel
theorem dX8_chancery_5 : decode cX8_chancery 5 = .ok (.aload_n 0, 1) := by decide +kernel
theorem dX8_chancery_6 : decode cX8_chancery 6 = .ok (.iconst (-1), 1) := by decide +kernel
theorem dX8_chancery_7 : decode cX8_chancery 7 = .ok (.putfield 85, 3) := by decide +kernel
theorem dX8_chancery_10 : decode cX8_chancery 10 = .ok (.aload_n 0, 1) := by decide +kernel
theorem dX8_chancery_11 : decode cX8_chancery 11 = .ok (.iconst 0, 1) := by decide +kernel
theorem dX8_chancery_12 : decode cX8_chancery 12 = .ok (.putfield 65, 3) := by decide +kernel
theorem dX8_chancery_15 : decode cX8_chancery 15 = .ok (.iconst 0, 1) := by decide +kernel
theorem dX8_chancery_16 : decode cX8_chancery 16 = .ok (.istore_n 1, 1) := by decide +kernel
theorem dX8_chancery_17 : decode cX8_chancery 17 = .ok (.aload_n 0, 1) := by decide +kernel
theorem dX8_chancery_18 : decode cX8_chancery 18 = .ok (.iconst 0, 1) := by decide +kernel
theorem dX8_chancery_19 : decode cX8_chancery 19 = .ok (.putfield 99, 3) := by decide +kernel
theorem dX8_chancery_22 : decode cX8_chancery 22 = .ok (.aload_n 0, 1) := by decide +kernel
theorem dX8_chancery_23 : decode cX8_chancery 23 = .ok (.bipush (-9), 2) := by decide +kernel
theorem dX8_chancery_25 : decode cX8_chancery 25 = .ok (.putfield 106, 3) := by decide +kernel
theorem dX8_chancery_28 : decode cX8_chancery 28 = .ok (.aload_n 0, 1) := by decide +kernel
theorem dX8_chancery_29 : decode cX8_chancery 29 = .ok (.invokevirtual 92, 3) := by decide +kernel
theorem dX8_chancery_32 : decode cX8_chancery 32 = .ok (.aload_n 0, 1) := by decide +kernel
theorem dX8_chancery_33 : decode cX8_chancery 33 = .ok (.invokevirtual 88, 3) := by decide +kernel
theorem dX8_chancery_36 : decode cX8_chancery 36 = .ok (.ifCond .eq 92, 3) := by decide +kernel
theorem dX8_chancery_39 : decode cX8_chancery 39 = .ok (.aload_n 0, 1) := by decide +kernel
theorem dX8_chancery_40 : decode cX8_chancery 40 = .ok (.getfield 75, 3) := by decide +kernel
theorem dX8_chancery_43 : decode cX8_chancery 43 = .ok (.ifCond .eq 85, 3) := by decide +kernel
theorem dX8_chancery_46 : decode cX8_chancery 46 = .ok (.aload_n 0, 1) := by decide +kernel
theorem dX8_chancery_47 : decode cX8_chancery 47 = .ok (.aload_n 0, 1) := by decide +kernel
theorem dX8_chancery_48 : decode cX8_chancery 48 = .ok (.getfield 75, 3) := by decide +kernel
theorem dX8_chancery_51 : decode cX8_chancery 51 = .ok (.iconst 1, 1) := by decide +kernel
theorem dX8_chancery_52 : decode cX8_chancery 52 = .ok (.if_icmp .ne 35, 3) := by decide +kernel
theorem dX8_chancery_55 : decode cX8_chancery 55 = .ok (.aload_n 0, 1) := by decide +kernel
theorem dX8_chancery_56 : decode cX8_chancery 56 = .ok (.getfield 82, 3) := by decide +kernel
theorem dX8_chancery_59 : decode cX8_chancery 59 = .ok (.ifCond .ne 15, 3) := by decide +kernel
theorem dX8_chancery_62 : decode cX8_chancery 62 = .ok (.aload_n 0, 1) := by decide +kernel
theorem dX8_chancery_63 : decode cX8_chancery 63 = .ok (.getfield 99, 3) := by decide +kernel
theorem dX8_chancery_66 : decode cX8_chancery 66 = .ok (.bipush 6, 2) := by decide +kernel
theorem dX8_chancery_68 : decode cX8_chancery 68 = .ok (.if_icmp .ge 19, 3) := by decide +kernel
theorem dX8_chancery_71 : decode cX8_chancery 71 = .ok (.goto 12, 3) := by decide +kernel
theorem dX8_chancery_74 : decode cX8_chancery 74 = .ok (.aload_n 0, 1) := by decide +kernel
theorem dX8_chancery_75 : decode cX8_chancery 75 = .ok (.getfield 106, 3) := by decide +kernel
theorem dX8_chancery_78 : decode cX8_chancery 78 = .ok (.bipush (-9), 2) := by decide +kernel
theorem dX8_chancery_80 : decode cX8_chancery 80 = .ok (.if_icmp .ne 7, 3) := by decide +kernel
theorem dX8_chancery_83 : decode cX8_chancery 83 = .ok (.iconst 1, 1) := by decide +kernel
theorem dX8_chancery_84 : decode cX8_chancery 84 = .ok (.goto 4, 3) := by decide +kernel
theorem dX8_chancery_87 : decode cX8_chancery 87 = .ok (.iconst 0, 1) := by decide +kernel
theorem dX8_chancery_88 : decode cX8_chancery 88 = .ok (.invokevirtual 95, 3) := by decide +kernel
theorem dX8_chancery_91 : decode cX8_chancery 91 = .ok (.istore_n 2, 1) := by decide +kernel
theorem dX8_chancery_92 : decode cX8_chancery 92 = .ok (.aload_n 0, 1) := by decide +kernel
theorem dX8_chancery_93 : decode cX8_chancery 93 = .ok (.invokevirtual 88, 3) := by decide +kernel
theorem dX8_chancery_96 : decode cX8_chancery 96 = .ok (.ifCond .eq 8, 3) := by decide +kernel
theorem dX8_chancery_99 : decode cX8_chancery 99 = .ok (.aload_n 0, 1) := by decide +kernel
theorem dX8_chancery_100 : decode cX8_chancery 100 = .ok (.iload_n 2, 1) := by decide +kernel
theorem dX8_chancery_101 : decode cX8_chancery 101 = .ok (.invokevirtual 109, 3) := by decide +kernel
theorem dX8_chancery_104 : decode cX8_chancery 104 = .ok (.aload_n 0, 1) := by decide +kernel
theorem dX8_chancery_105 : decode cX8_chancery 105 = .ok (.aload_n 0, 1) := by decide +kernel
theorem dX8_chancery_106 : decode cX8_chancery 106 = .ok (.getfield 75, 3) := by decide +kernel
theorem dX8_chancery_109 : decode cX8_chancery 109 = .ok (.iconst 3, 1) := by decide +kernel
theorem dX8_chancery_110 : decode cX8_chancery 110 = .ok (.if_icmp .ne 7, 3) := by decide +kernel
theorem dX8_chancery_113 : decode cX8_chancery 113 = .ok (.iconst 1, 1) := by decide +kernel
theorem dX8_chancery_114 : decode cX8_chancery 114 = .ok (.goto 4, 3) := by decide +kernel
theorem dX8_chancery_117 : decode cX8_chancery 117 = .ok (.iconst 0, 1) := by decide +kernel
theorem dX8_chancery_118 : decode cX8_chancery 118 = .ok (.invokevirtual 95, 3) := by decide +kernel
theorem dX8_chancery_121 : decode cX8_chancery 121 = .ok (.pop, 1) := by decide +kernel
theorem dX8_chancery_122 : decode cX8_chancery 122 = .ok (.iinc 1 1, 3) := by decide +kernel
theorem dX8_chancery_125 : decode cX8_chancery 125 = .ok (.goto (-93), 3) := by decide +kernel
theorem dX8_chancery_128 : decode cX8_chancery 128 = .ok (.aload_n 0, 1) := by decide +kernel
theorem dX8_chancery_129 : decode cX8_chancery 129 = .ok (.invokevirtual 88, 3) := by decide +kernel
theorem dX8_chancery_132 : decode cX8_chancery 132 = .ok (.ifCond .ne 11, 3) := by decide +kernel
theorem dX8_chancery_135 : decode cX8_chancery 135 = .ok (.bipush (-10), 2) := by decide +kernel
theorem dX8_chancery_137 : decode cX8_chancery 137 = .ok (.aload_n 0, 1) := by decide +kernel
theorem dX8_chancery_138 : decode cX8_chancery 138 = .ok (.getfield 85, 3) := by decide +kernel
theorem dX8_chancery_141 : decode cX8_chancery 141 = .ok (.isub, 1) := by decide +kernel
theorem dX8_chancery_142 : decode cX8_chancery 142 = .ok (.ireturn, 1) := by decide +kernel
theorem dX8_chancery_143 : decode cX8_chancery 143 = .ok (.aload_n 0, 1) := by decide +kernel
theorem dX8_chancery_144 : decode cX8_chancery 144 = .ok (.aload_n 0, 1) := by decide +kernel
theorem dX8_chancery_145 : decode cX8_chancery 145 = .ok (.getfield 99, 3) := by decide +kernel
theorem dX8_chancery_148 : decode cX8_chancery 148 = .ok (.putfield 112, 3) := by decide +kernel
theorem dX8_chancery_151 : decode cX8_chancery 151 = .ok (.iconst 0, 1) := by decide +kernel
theorem dX8_chancery_152 : decode cX8_chancery 152 = .ok (.istore_n 2, 1) := by decide +kernel
theorem dX8_chancery_153 : decode cX8_chancery 153 = .ok (.iload_n 2, 1) := by decide +kernel
theorem dX8_chancery_154 : decode cX8_chancery 154 = .ok (.bipush 24, 2) := by decide +kernel
theorem dX8_chancery_156 : decode cX8_chancery 156 = .ok (.if_icmp .ge 24, 3) := by decide +kernel
theorem dX8_chancery_159 : decode cX8_chancery 159 = .ok (.aload_n 0, 1) := by decide +kernel
theorem dX8_chancery_160 : decode cX8_chancery 160 = .ok (.getfield 13, 3) := by decide +kernel
theorem dX8_chancery_163 : decode cX8_chancery 163 = .ok (.iload_n 2, 1) := by decide +kernel
theorem dX8_chancery_164 : decode cX8_chancery 164 = .ok (.aload_n 0, 1) := by decide +kernel
theorem dX8_chancery_165 : decode cX8_chancery 165 = .ok (.getfield 13, 3) := by decide +kernel
theorem dX8_chancery_168 : decode cX8_chancery 168 = .ok (.bipush 24, 2) := by decide +kernel
theorem dX8_chancery_170 : decode cX8_chancery 170 = .ok (.iload_n 2, 1) := by decide +kernel
theorem dX8_chancery_171 : decode cX8_chancery 171 = .ok (.iadd, 1) := by decide +kernel
theorem dX8_chancery_172 : decode cX8_chancery 172 = .ok (.iaload, 1) := by decide +kernel
theorem dX8_chancery_173 : decode cX8_chancery 173 = .ok (.iastore, 1) := by decide +kernel
theorem dX8_chancery_174 : decode cX8_chancery 174 = .ok (.iinc 2 1, 3) := by decide +kernel
theorem dX8_chancery_177 : decode cX8_chancery 177 = .ok (.goto (-24), 3) := by decide +kernel
theorem dX8_chancery_180 : decode cX8_chancery 180 = .ok (.aload_n 0, 1) := by decide +kernel
theorem dX8_chancery_181 : decode cX8_chancery 181 = .ok (.iconst 0, 1) := by decide +kernel
theorem dX8_chancery_182 : decode cX8_chancery 182 = .ok (.putfield 50, 3) := by decide +kernel
theorem dX8_chancery_185 : decode cX8_chancery 185 = .ok (.aload_n 0, 1) := by decide +kernel
theorem dX8_chancery_186 : decode cX8_chancery 186 = .ok (.iconst 0, 1) := by decide +kernel
theorem dX8_chancery_187 : decode cX8_chancery 187 = .ok (.putfield 115, 3) := by decide +kernel
theorem dX8_chancery_190 : decode cX8_chancery 190 = .ok (.aload_n 0, 1) := by decide +kernel
theorem dX8_chancery_191 : decode cX8_chancery 191 = .ok (.iconst 0, 1) := by decide +kernel
theorem dX8_chancery_192 : decode cX8_chancery 192 = .ok (.putfield 118, 3) := by decide +kernel
theorem dX8_chancery_195 : decode cX8_chancery 195 = .ok (.aload_n 0, 1) := by decide +kernel
theorem dX8_chancery_196 : decode cX8_chancery 196 = .ok (.getfield 22, 3) := by decide +kernel
theorem dX8_chancery_199 : decode cX8_chancery 199 = .ok (.iconst 0, 1) := by decide +kernel
theorem dX8_chancery_200 : decode cX8_chancery 200 = .ok (.iconst 0, 1) := by decide +kernel
theorem dX8_chancery_201 : decode cX8_chancery 201 = .ok (.bastore, 1) := by decide +kernel
theorem dX8_chancery_202 : decode cX8_chancery 202 = .ok (.aload_n 0, 1) := by decide +kernel
theorem dX8_chancery_203 : decode cX8_chancery 203 = .ok (.getfield 22, 3) := by decide +kernel
theorem dX8_chancery_206 : decode cX8_chancery 206 = .ok (.iconst 1, 1) := by decide +kernel
theorem dX8_chancery_207 : decode cX8_chancery 207 = .ok (.iconst 0, 1) := by decide +kernel
theorem dX8_chancery_208 : decode cX8_chancery 208 = .ok (.bastore, 1) := by decide +kernel
theorem dX8_chancery_209 : decode cX8_chancery 209 = .ok (.aload_n 0, 1) := by decide +kernel
theorem dX8_chancery_210 : decode cX8_chancery 210 = .ok (.aload_n 0, 1) := by decide +kernel
theorem dX8_chancery_211 : decode cX8_chancery 211 = .ok (.getfield 106, 3) := by decide +kernel
theorem dX8_chancery_214 : decode cX8_chancery 214 = .ok (.bipush (-9), 2) := by decide +kernel
theorem dX8_chancery_216 : decode cX8_chancery 216 = .ok (.if_icmp .ne 7, 3) := by decide +kernel
theorem dX8_chancery_219 : decode cX8_chancery 219 = .ok (.iconst 5, 1) := by decide +kernel
theorem dX8_chancery_220 : decode cX8_chancery 220 = .ok (.goto 7, 3) := by decide +kernel
theorem dX8_chancery_223 : decode cX8_chancery 223 = .ok (.aload_n 0, 1) := by decide +kernel
theorem dX8_chancery_224 : decode cX8_chancery 224 = .ok (.getfield 106, 3) := by decide +kernel
theorem dX8_chancery_227 : decode cX8_chancery 227 = .ok (.invokevirtual 38, 3) := by decide +kernel
theorem dX8_chancery_230 : decode cX8_chancery 230 = .ok (.iload_n 1, 1) := by decide +kernel
theorem dX8_chancery_231 : decode cX8_chancery 231 = .ok (.ireturn, 1) := by decide +kernel
theorem dX8_begins_0 : decode cX8_begins 0 = .ok (.aload_n 0, 1) := by decide +kernel
theorem dX8_begins_1 : decode cX8_begins 1 = .ok (.getfield 16, 3) := by decide +kernel
theorem dX8_begins_4 : decode cX8_begins 4 = .ok (.iconst 0, 1) := by decide +kernel
theorem dX8_begins_5 : decode cX8_begins 5 = .ok (.iload_n 1, 1) := by decide +kernel
theorem dX8_begins_6 : decode cX8_begins 6 = .ok (.iastore, 1) := by decide +kernel
theorem dX8_begins_7 : decode cX8_begins 7 = .ok (.aload_n 0, 1) := by decide +kernel
theorem dX8_begins_8 : decode cX8_begins 8 = .ok (.getfield 16, 3) := by decide +kernel
theorem dX8_begins_11 : decode cX8_begins 11 = .ok (.iconst 1, 1) := by decide +kernel
theorem dX8_begins_12 : decode cX8_begins 12 = .ok (.bipush (-9), 2) := by decide +kernel
theorem dX8_begins_14 : decode cX8_begins 14 = .ok (.iastore, 1) := by decide +kernel
theorem dX8_begins_15 : decode cX8_begins 15 = .ok (.aload_n 0, 1) := by decide +kernel
theorem dX8_begins_16 : decode cX8_begins 16 = .ok (.getfield 16, 3) := by decide +kernel
theorem dX8_begins_19 : decode cX8_begins 19 = .ok (.bipush 20, 2) := by decide +kernel
theorem dX8_begins_21 : decode cX8_begins 21 = .ok (.iconst 1, 1) := by decide +kernel
theorem dX8_begins_22 : decode cX8_begins 22 = .ok (.iastore, 1) := by decide +kernel
theorem dX8_begins_23 : decode cX8_begins 23 = .ok (.return_, 1) := by decide +kernel
set_option maxRecDepth 20000 in
theorem ggX8_isClerk_X8_in : GoodIn wsX8_isClerk wsX8_in := goodIn_r _ [5] (by decide +kernel) (by decide +kernel)
set_option maxRecDepth 20000 in
theorem gX8_isClerk_X8_in : GoodIn wsX8_isClerk (va_wsS RX8 46 yX8_in wsX8_in) := goodIn_app (goodIn_of _ (by decide +kernel)) ggX8_isClerk_X8_in
theorem dX8_isClerk_0 : decode cX8_isClerk 0 = .ok (.iload_n 1, 1) := by decide +kernel
theorem dX8_isClerk_1 : decode cX8_isClerk 1 = .ok (.iconst 0, 1) := by decide +kernel
theorem dX8_isClerk_2 : decode cX8_isClerk 2 = .ok (.aload_n 0, 1) := by decide +kernel
theorem dX8_isClerk_3 : decode cX8_isClerk 3 = .ok (.getfield 112, 3) := by decide +kernel
theorem dX8_isClerk_6 : decode cX8_isClerk 6 = .ok (.iconst 1, 1) := by decide +kernel
theorem dX8_isClerk_7 : decode cX8_isClerk 7 = .ok (.isub, 1) := by decide +kernel
theorem dX8_isClerk_8 : decode cX8_isClerk 8 = .ok (.invokestatic 46, 3) := by decide +kernel
theorem dX8_isClerk_11 : decode cX8_isClerk 11 = .ok (.ireturn, 1) := by decide +kernel
set_option maxRecDepth 20000 in
theorem ggX8_clerk_X8_isClerk : GoodIn wsX8_clerk wsX8_isClerk := goodIn_r _ [7, 8, 9, 10, 6, 11, 12, 13, 14, 15, 16, 17, 18, 19, 20, 21, 22, 23, 24, 25, 26, 27, 28, 29, 30, 31, 32, 33, 34] (by decide +kernel) (by decide +kernel)
set_option maxRecDepth 20000 in
theorem gX8_clerk_X8_isClerk : GoodIn wsX8_clerk (wsV RX8 121 RX8 yX8_isClerk wsX8_isClerk) := goodIn_app (goodIn_of _ (by decide +kernel)) ggX8_clerk_X8_isClerk
set_option maxRecDepth 20000 in
theorem ggX8_clerk_X8_in : GoodIn wsX8_clerk wsX8_in := goodIn_r _ [11] (by decide +kernel) (by decide +kernel)
set_option maxRecDepth 20000 in
theorem gX8_clerk_X8_in : GoodIn wsX8_clerk (va_wsS RX8 46 yX8_in wsX8_in) := goodIn_app (goodIn_of _ (by decide +kernel)) ggX8_clerk_X8_in
theorem dX8_clerk_0 : decode cX8_clerk 0 = .ok (.aload_n 0, 1) := by decide +kernel
theorem dX8_clerk_1 : decode cX8_clerk 1 = .ok (.iconst 0, 1) := by decide +kernel
theorem dX8_clerk_2 : decode cX8_clerk 2 = .ok (.putfield 42, 3) := by decide +kernel
theorem dX8_clerk_5 : decode cX8_clerk 5 = .ok (.aload_n 0, 1) := by decide +kernel
theorem dX8_clerk_6 : decode cX8_clerk 6 = .ok (.iload_n 1, 1) := by decide +kernel
theorem dX8_clerk_7 : decode cX8_clerk 7 = .ok (.invokevirtual 121, 3) := by decide +kernel
theorem dX8_clerk_10 : decode cX8_clerk 10 = .ok (.ifCond .eq 25, 3) := by decide +kernel
theorem dX8_clerk_13 : decode cX8_clerk 13 = .ok (.iload_n 2, 1) := by decide +kernel
theorem dX8_clerk_14 : decode cX8_clerk 14 = .ok (.iconst 0, 1) := by decide +kernel
theorem dX8_clerk_15 : decode cX8_clerk 15 = .ok (.iconst 3, 1) := by decide +kernel
theorem dX8_clerk_16 : decode cX8_clerk 16 = .ok (.invokestatic 46, 3) := by decide +kernel
theorem dX8_clerk_19 : decode cX8_clerk 19 = .ok (.ifCond .eq 16, 3) := by decide +kernel
theorem dX8_clerk_22 : decode cX8_clerk 22 = .ok (.aload_n 0, 1) := by decide +kernel
theorem dX8_clerk_23 : decode cX8_clerk 23 = .ok (.getfield 13, 3) := by decide +kernel
theorem dX8_clerk_26 : decode cX8_clerk 26 = .ok (.iconst 4, 1) := by decide +kernel
theorem dX8_clerk_27 : decode cX8_clerk 27 = .ok (.iload_n 1, 1) := by decide +kernel
theorem dX8_clerk_28 : decode cX8_clerk 28 = .ok (.imul, 1) := by decide +kernel
theorem dX8_clerk_29 : decode cX8_clerk 29 = .ok (.iload_n 2, 1) := by decide +kernel
theorem dX8_clerk_30 : decode cX8_clerk 30 = .ok (.iadd, 1) := by decide +kernel
theorem dX8_clerk_31 : decode cX8_clerk 31 = .ok (.iaload, 1) := by decide +kernel
theorem dX8_clerk_32 : decode cX8_clerk 32 = .ok (.goto 4, 3) := by decide +kernel
theorem dX8_clerk_35 : decode cX8_clerk 35 = .ok (.iconst (-1), 1) := by decide +kernel
theorem dX8_clerk_36 : decode cX8_clerk 36 = .ok (.ireturn, 1) := by decide +kernel
set_option maxRecDepth 20000 in
theorem ggX8_line_X8_in : GoodIn wsX8_line wsX8_in := goodIn_r _ [6] (by decide +kernel) (by decide +kernel)
set_option maxRecDepth 20000 in
theorem gX8_line_X8_in : GoodIn wsX8_line (va_wsS RX8 46 yX8_in wsX8_in) := goodIn_app (goodIn_of _ (by decide +kernel)) ggX8_line_X8_in
theorem dX8_line_0 : decode cX8_line 0 = .ok (.aload_n 0, 1) := by decide +kernel
theorem dX8_line_1 : decode cX8_line 1 = .ok (.iconst 0, 1) := by decide +kernel
theorem dX8_line_2 : decode cX8_line 2 = .ok (.putfield 42, 3) := by decide +kernel
theorem dX8_line_5 : decode cX8_line 5 = .ok (.iload_n 1, 1) := by decide +kernel
theorem dX8_line_6 : decode cX8_line 6 = .ok (.iconst 0, 1) := by decide +kernel
theorem dX8_line_7 : decode cX8_line 7 = .ok (.aload_n 0, 1) := by decide +kernel
theorem dX8_line_8 : decode cX8_line 8 = .ok (.getfield 16, 3) := by decide +kernel
theorem dX8_line_11 : decode cX8_line 11 = .ok (.bipush 20, 2) := by decide +kernel
theorem dX8_line_13 : decode cX8_line 13 = .ok (.iaload, 1) := by decide +kernel
theorem dX8_line_14 : decode cX8_line 14 = .ok (.iconst 1, 1) := by decide +kernel
theorem dX8_line_15 : decode cX8_line 15 = .ok (.isub, 1) := by decide +kernel
theorem dX8_line_16 : decode cX8_line 16 = .ok (.invokestatic 46, 3) := by decide +kernel
theorem dX8_line_19 : decode cX8_line 19 = .ok (.ifCond .eq 12, 3) := by decide +kernel
theorem dX8_line_22 : decode cX8_line 22 = .ok (.iload_n 2, 1) := by decide +kernel
theorem dX8_line_23 : decode cX8_line 23 = .ok (.iconst 0, 1) := by decide +kernel
theorem dX8_line_24 : decode cX8_line 24 = .ok (.iconst 2, 1) := by decide +kernel
theorem dX8_line_25 : decode cX8_line 25 = .ok (.invokestatic 46, 3) := by decide +kernel
theorem dX8_line_28 : decode cX8_line 28 = .ok (.ifCond .ne 5, 3) := by decide +kernel
theorem dX8_line_31 : decode cX8_line 31 = .ok (.iconst (-1), 1) := by decide +kernel
theorem dX8_line_32 : decode cX8_line 32 = .ok (.ireturn, 1) := by decide +kernel
theorem dX8_line_33 : decode cX8_line 33 = .ok (.iload_n 2, 1) := by decide +kernel
theorem dX8_line_34 : decode cX8_line 34 = .ok (.ifCond .ne 17, 3) := by decide +kernel
theorem dX8_line_37 : decode cX8_line 37 = .ok (.aload_n 0, 1) := by decide +kernel
theorem dX8_line_38 : decode cX8_line 38 = .ok (.getfield 16, 3) := by decide +kernel
theorem dX8_line_41 : decode cX8_line 41 = .ok (.iconst 2, 1) := by decide +kernel
theorem dX8_line_42 : decode cX8_line 42 = .ok (.iload_n 1, 1) := by decide +kernel
theorem dX8_line_43 : decode cX8_line 43 = .ok (.imul, 1) := by decide +kernel
theorem dX8_line_44 : decode cX8_line 44 = .ok (.iaload, 1) := by decide +kernel
theorem dX8_line_45 : decode cX8_line 45 = .ok (.bipush 10, 2) := by decide +kernel
theorem dX8_line_47 : decode cX8_line 47 = .ok (.irem, 1) := by decide +kernel
theorem dX8_line_48 : decode cX8_line 48 = .ok (.goto 32, 3) := by decide +kernel
theorem dX8_line_51 : decode cX8_line 51 = .ok (.iload_n 2, 1) := by decide +kernel
theorem dX8_line_52 : decode cX8_line 52 = .ok (.iconst 1, 1) := by decide +kernel
theorem dX8_line_53 : decode cX8_line 53 = .ok (.if_icmp .ne 17, 3) := by decide +kernel
theorem dX8_line_56 : decode cX8_line 56 = .ok (.aload_n 0, 1) := by decide +kernel
theorem dX8_line_57 : decode cX8_line 57 = .ok (.getfield 16, 3) := by decide +kernel
theorem dX8_line_60 : decode cX8_line 60 = .ok (.iconst 2, 1) := by decide +kernel
theorem dX8_line_61 : decode cX8_line 61 = .ok (.iload_n 1, 1) := by decide +kernel
theorem dX8_line_62 : decode cX8_line 62 = .ok (.imul, 1) := by decide +kernel
theorem dX8_line_63 : decode cX8_line 63 = .ok (.iaload, 1) := by decide +kernel
theorem dX8_line_64 : decode cX8_line 64 = .ok (.bipush 10, 2) := by decide +kernel
theorem dX8_line_66 : decode cX8_line 66 = .ok (.idiv, 1) := by decide +kernel
theorem dX8_line_67 : decode cX8_line 67 = .ok (.goto 13, 3) := by decide +kernel
theorem dX8_line_70 : decode cX8_line 70 = .ok (.aload_n 0, 1) := by decide +kernel
theorem dX8_line_71 : decode cX8_line 71 = .ok (.getfield 16, 3) := by decide +kernel
theorem dX8_line_74 : decode cX8_line 74 = .ok (.iconst 2, 1) := by decide +kernel
theorem dX8_line_75 : decode cX8_line 75 = .ok (.iload_n 1, 1) := by decide +kernel
theorem dX8_line_76 : decode cX8_line 76 = .ok (.imul, 1) := by decide +kernel
theorem dX8_line_77 : decode cX8_line 77 = .ok (.iconst 1, 1) := by decide +kernel
theorem dX8_line_78 : decode cX8_line 78 = .ok (.iadd, 1) := by decide +kernel
theorem dX8_line_79 : decode cX8_line 79 = .ok (.iaload, 1) := by decide +kernel
theorem dX8_line_80 : decode cX8_line 80 = .ok (.ireturn, 1) := by decide +kernel
theorem dX8_toneBy_0 : decode cX8_toneBy 0 = .ok (.iload_n 2, 1) := by decide +kernel
theorem dX8_toneBy_1 : decode cX8_toneBy 1 = .ok (.aload_n 0, 1) := by decide +kernel
theorem dX8_toneBy_2 : decode cX8_toneBy 2 = .ok (.getfield 13, 3) := by decide +kernel
theorem dX8_toneBy_5 : decode cX8_toneBy 5 = .ok (.iconst 4, 1) := by decide +kernel
theorem dX8_toneBy_6 : decode cX8_toneBy 6 = .ok (.iload_n 1, 1) := by decide +kernel
theorem dX8_toneBy_7 : decode cX8_toneBy 7 = .ok (.imul, 1) := by decide +kernel
theorem dX8_toneBy_8 : decode cX8_toneBy 8 = .ok (.iaload, 1) := by decide +kernel
theorem dX8_toneBy_9 : decode cX8_toneBy 9 = .ok (.iadd, 1) := by decide +kernel
theorem dX8_toneBy_10 : decode cX8_toneBy 10 = .ok (.iconst 4, 1) := by decide +kernel
theorem dX8_toneBy_11 : decode cX8_toneBy 11 = .ok (.isub, 1) := by decide +kernel
theorem dX8_toneBy_12 : decode cX8_toneBy 12 = .ok (.istore_n 3, 1) := by decide +kernel
theorem dX8_toneBy_13 : decode cX8_toneBy 13 = .ok (.iload_n 3, 1) := by decide +kernel
theorem dX8_toneBy_14 : decode cX8_toneBy 14 = .ok (.ifCond .ge 7, 3) := by decide +kernel
theorem dX8_toneBy_17 : decode cX8_toneBy 17 = .ok (.iconst 0, 1) := by decide +kernel
theorem dX8_toneBy_18 : decode cX8_toneBy 18 = .ok (.goto 15, 3) := by decide +kernel
theorem dX8_toneBy_21 : decode cX8_toneBy 21 = .ok (.iload_n 3, 1) := by decide +kernel
theorem dX8_toneBy_22 : decode cX8_toneBy 22 = .ok (.bipush 9, 2) := by decide +kernel
theorem dX8_toneBy_24 : decode cX8_toneBy 24 = .ok (.if_icmp .le 8, 3) := by decide +kernel
theorem dX8_toneBy_27 : decode cX8_toneBy 27 = .ok (.bipush 9, 2) := by decide +kernel
theorem dX8_toneBy_29 : decode cX8_toneBy 29 = .ok (.goto 4, 3) := by decide +kernel
theorem dX8_toneBy_32 : decode cX8_toneBy 32 = .ok (.iload_n 3, 1) := by decide +kernel
theorem dX8_toneBy_33 : decode cX8_toneBy 33 = .ok (.ireturn, 1) := by decide +kernel
set_option maxRecDepth 20000 in
theorem ggX8_madeBy_X8_toneBy : GoodIn wsX8_madeBy wsX8_toneBy := goodIn_r _ [6, 1, 7, 8, 9, 10, 11, 12, 13, 14, 15, 16, 17, 18, 19, 20, 21, 22, 23, 24, 25, 26, 27, 28, 29] (by decide +kernel) (by decide +kernel)
set_option maxRecDepth 20000 in
theorem gX8_madeBy_X8_toneBy : GoodIn wsX8_madeBy (wsV RX8 125 RX8 yX8_toneBy wsX8_toneBy) := goodIn_app (goodIn_of _ (by decide +kernel)) ggX8_madeBy_X8_toneBy
theorem dX8_madeBy_0 : decode cX8_madeBy 0 = .ok (.iload_n 2, 1) := by decide +kernel
theorem dX8_madeBy_1 : decode cX8_madeBy 1 = .ok (.bipush 10, 2) := by decide +kernel
theorem dX8_madeBy_3 : decode cX8_madeBy 3 = .ok (.idiv, 1) := by decide +kernel
theorem dX8_madeBy_4 : decode cX8_madeBy 4 = .ok (.aload_n 0, 1) := by decide +kernel
theorem dX8_madeBy_5 : decode cX8_madeBy 5 = .ok (.getfield 13, 3) := by decide +kernel
theorem dX8_madeBy_8 : decode cX8_madeBy 8 = .ok (.iconst 4, 1) := by decide +kernel
theorem dX8_madeBy_9 : decode cX8_madeBy 9 = .ok (.iload_n 1, 1) := by decide +kernel
theorem dX8_madeBy_10 : decode cX8_madeBy 10 = .ok (.imul, 1) := by decide +kernel
theorem dX8_madeBy_11 : decode cX8_madeBy 11 = .ok (.iconst 1, 1) := by decide +kernel
theorem dX8_madeBy_12 : decode cX8_madeBy 12 = .ok (.iadd, 1) := by decide +kernel
theorem dX8_madeBy_13 : decode cX8_madeBy 13 = .ok (.iaload, 1) := by decide +kernel
theorem dX8_madeBy_14 : decode cX8_madeBy 14 = .ok (.ior, 1) := by decide +kernel
theorem dX8_madeBy_15 : decode cX8_madeBy 15 = .ok (.aload_n 0, 1) := by decide +kernel
theorem dX8_madeBy_16 : decode cX8_madeBy 16 = .ok (.getfield 13, 3) := by decide +kernel
theorem dX8_madeBy_19 : decode cX8_madeBy 19 = .ok (.iconst 4, 1) := by decide +kernel
theorem dX8_madeBy_20 : decode cX8_madeBy 20 = .ok (.iload_n 1, 1) := by decide +kernel
theorem dX8_madeBy_21 : decode cX8_madeBy 21 = .ok (.imul, 1) := by decide +kernel
theorem dX8_madeBy_22 : decode cX8_madeBy 22 = .ok (.iconst 2, 1) := by decide +kernel
theorem dX8_madeBy_23 : decode cX8_madeBy 23 = .ok (.iadd, 1) := by decide +kernel
theorem dX8_madeBy_24 : decode cX8_madeBy 24 = .ok (.iaload, 1) := by decide +kernel
theorem dX8_madeBy_25 : decode cX8_madeBy 25 = .ok (.iconst (-1), 1) := by decide +kernel
theorem dX8_madeBy_26 : decode cX8_madeBy 26 = .ok (.ixor, 1) := by decide +kernel
theorem dX8_madeBy_27 : decode cX8_madeBy 27 = .ok (.iand, 1) := by decide +kernel
theorem dX8_madeBy_28 : decode cX8_madeBy 28 = .ok (.istore_n 3, 1) := by decide +kernel
theorem dX8_madeBy_29 : decode cX8_madeBy 29 = .ok (.aload_n 0, 1) := by decide +kernel
theorem dX8_madeBy_30 : decode cX8_madeBy 30 = .ok (.iload_n 1, 1) := by decide +kernel
theorem dX8_madeBy_31 : decode cX8_madeBy 31 = .ok (.iload_n 2, 1) := by decide +kernel
theorem dX8_madeBy_32 : decode cX8_madeBy 32 = .ok (.bipush 10, 2) := by decide +kernel
theorem dX8_madeBy_34 : decode cX8_madeBy 34 = .ok (.irem, 1) := by decide +kernel
theorem dX8_madeBy_35 : decode cX8_madeBy 35 = .ok (.invokevirtual 125, 3) := by decide +kernel
theorem dX8_madeBy_38 : decode cX8_madeBy 38 = .ok (.bipush 10, 2) := by decide +kernel
theorem dX8_madeBy_40 : decode cX8_madeBy 40 = .ok (.iload_n 3, 1) := by decide +kernel
theorem dX8_madeBy_41 : decode cX8_madeBy 41 = .ok (.imul, 1) := by decide +kernel
theorem dX8_madeBy_42 : decode cX8_madeBy 42 = .ok (.iadd, 1) := by decide +kernel
theorem dX8_madeBy_43 : decode cX8_madeBy 43 = .ok (.ireturn, 1) := by decide +kernel
set_option maxRecDepth 20000 in
theorem ggX8_makes_X8_isClerk : GoodIn wsX8_makes wsX8_isClerk := goodIn_r _ [6, 7, 8, 9, 5, 10, 20, 21, 22, 23, 24, 25, 26, 27, 28, 29, 30, 31, 32, 33, 34, 35, 36, 37, 38, 39, 40, 41, 42] (by decide +kernel) (by decide +kernel)
set_option maxRecDepth 20000 in
theorem gX8_makes_X8_isClerk : GoodIn wsX8_makes (wsV RX8 121 RX8 yX8_isClerk wsX8_isClerk) := goodIn_app (goodIn_of _ (by decide +kernel)) ggX8_makes_X8_isClerk
set_option maxRecDepth 20000 in
theorem ggX8_makes_X8_in : GoodIn wsX8_makes wsX8_in := goodIn_r _ [10] (by decide +kernel) (by decide +kernel)
set_option maxRecDepth 20000 in
theorem gX8_makes_X8_in : GoodIn wsX8_makes (va_wsS RX8 46 yX8_in wsX8_in) := goodIn_app (goodIn_of _ (by decide +kernel)) ggX8_makes_X8_in
set_option maxRecDepth 20000 in
theorem ggX8_makes_X8_madeBy : GoodIn wsX8_makes wsX8_madeBy := goodIn_r _ [14, 15, 16, 17, 18, 5, 19, 20, 21, 22, 23, 24, 25, 26, 27, 28, 29, 30, 31, 32, 33, 34, 35, 36, 37, 38, 39, 40, 41, 42] (by decide +kernel) (by decide +kernel)
set_option maxRecDepth 20000 in
theorem gX8_makes_X8_madeBy : GoodIn wsX8_makes (wsV RX8 128 RX8 yX8_madeBy wsX8_madeBy) := goodIn_app (goodIn_of _ (by decide +kernel)) ggX8_makes_X8_madeBy
theorem dX8_makes_0 : decode cX8_makes 0 = .ok (.aload_n 0, 1) := by decide +kernel
theorem dX8_makes_1 : decode cX8_makes 1 = .ok (.iconst 0, 1) := by decide +kernel
theorem dX8_makes_2 : decode cX8_makes 2 = .ok (.putfield 42, 3) := by decide +kernel
theorem dX8_makes_5 : decode cX8_makes 5 = .ok (.aload_n 0, 1) := by decide +kernel
theorem dX8_makes_6 : decode cX8_makes 6 = .ok (.iload_n 1, 1) := by decide +kernel
theorem dX8_makes_7 : decode cX8_makes 7 = .ok (.invokevirtual 121, 3) := by decide +kernel
theorem dX8_makes_10 : decode cX8_makes 10 = .ok (.ifCond .eq 37, 3) := by decide +kernel
theorem dX8_makes_13 : decode cX8_makes 13 = .ok (.iload_n 2, 1) := by decide +kernel
theorem dX8_makes_14 : decode cX8_makes 14 = .ok (.iconst 0, 1) := by decide +kernel
theorem dX8_makes_15 : decode cX8_makes 15 = .ok (.bipush 9, 2) := by decide +kernel
theorem dX8_makes_17 : decode cX8_makes 17 = .ok (.invokestatic 46, 3) := by decide +kernel
theorem dX8_makes_20 : decode cX8_makes 20 = .ok (.ifCond .eq 27, 3) := by decide +kernel
theorem dX8_makes_23 : decode cX8_makes 23 = .ok (.iload_n 3, 1) := by decide +kernel
theorem dX8_makes_24 : decode cX8_makes 24 = .ok (.iconst 0, 1) := by decide +kernel
theorem dX8_makes_25 : decode cX8_makes 25 = .ok (.bipush 7, 2) := by decide +kernel
theorem dX8_makes_27 : decode cX8_makes 27 = .ok (.invokestatic 46, 3) := by decide +kernel
theorem dX8_makes_30 : decode cX8_makes 30 = .ok (.ifCond .eq 17, 3) := by decide +kernel
theorem dX8_makes_33 : decode cX8_makes 33 = .ok (.aload_n 0, 1) := by decide +kernel
theorem dX8_makes_34 : decode cX8_makes 34 = .ok (.iload_n 1, 1) := by decide +kernel
theorem dX8_makes_35 : decode cX8_makes 35 = .ok (.iload_n 2, 1) := by decide +kernel
theorem dX8_makes_36 : decode cX8_makes 36 = .ok (.bipush 10, 2) := by decide +kernel
theorem dX8_makes_38 : decode cX8_makes 38 = .ok (.iload_n 3, 1) := by decide +kernel
theorem dX8_makes_39 : decode cX8_makes 39 = .ok (.imul, 1) := by decide +kernel
theorem dX8_makes_40 : decode cX8_makes 40 = .ok (.iadd, 1) := by decide +kernel
theorem dX8_makes_41 : decode cX8_makes 41 = .ok (.invokevirtual 128, 3) := by decide +kernel
theorem dX8_makes_44 : decode cX8_makes 44 = .ok (.goto 4, 3) := by decide +kernel
theorem dX8_makes_47 : decode cX8_makes 47 = .ok (.iconst (-1), 1) := by decide +kernel
theorem dX8_makes_48 : decode cX8_makes 48 = .ok (.ireturn, 1) := by decide +kernel
theorem dX8_last_0 : decode cX8_last 0 = .ok (.aload_n 0, 1) := by decide +kernel
theorem dX8_last_1 : decode cX8_last 1 = .ok (.getfield 16, 3) := by decide +kernel
theorem dX8_last_4 : decode cX8_last 4 = .ok (.iconst 2, 1) := by decide +kernel
theorem dX8_last_5 : decode cX8_last 5 = .ok (.aload_n 0, 1) := by decide +kernel
theorem dX8_last_6 : decode cX8_last 6 = .ok (.getfield 16, 3) := by decide +kernel
theorem dX8_last_9 : decode cX8_last 9 = .ok (.bipush 20, 2) := by decide +kernel
theorem dX8_last_11 : decode cX8_last 11 = .ok (.iaload, 1) := by decide +kernel
theorem dX8_last_12 : decode cX8_last 12 = .ok (.imul, 1) := by decide +kernel
theorem dX8_last_13 : decode cX8_last 13 = .ok (.iconst 2, 1) := by decide +kernel
theorem dX8_last_14 : decode cX8_last 14 = .ok (.isub, 1) := by decide +kernel
theorem dX8_last_15 : decode cX8_last 15 = .ok (.iaload, 1) := by decide +kernel
theorem dX8_last_16 : decode cX8_last 16 = .ok (.ireturn, 1) := by decide +kernel
theorem dX8_puts_0 : decode cX8_puts 0 = .ok (.aload_n 0, 1) := by decide +kernel
theorem dX8_puts_1 : decode cX8_puts 1 = .ok (.getfield 16, 3) := by decide +kernel
theorem dX8_puts_4 : decode cX8_puts 4 = .ok (.iconst 2, 1) := by decide +kernel
theorem dX8_puts_5 : decode cX8_puts 5 = .ok (.aload_n 0, 1) := by decide +kernel
theorem dX8_puts_6 : decode cX8_puts 6 = .ok (.getfield 16, 3) := by decide +kernel
theorem dX8_puts_9 : decode cX8_puts 9 = .ok (.bipush 20, 2) := by decide +kernel
theorem dX8_puts_11 : decode cX8_puts 11 = .ok (.iaload, 1) := by decide +kernel
theorem dX8_puts_12 : decode cX8_puts 12 = .ok (.imul, 1) := by decide +kernel
theorem dX8_puts_13 : decode cX8_puts 13 = .ok (.iload_n 1, 1) := by decide +kernel
theorem dX8_puts_14 : decode cX8_puts 14 = .ok (.iastore, 1) := by decide +kernel
theorem dX8_puts_15 : decode cX8_puts 15 = .ok (.aload_n 0, 1) := by decide +kernel
theorem dX8_puts_16 : decode cX8_puts 16 = .ok (.getfield 16, 3) := by decide +kernel
theorem dX8_puts_19 : decode cX8_puts 19 = .ok (.iconst 2, 1) := by decide +kernel
theorem dX8_puts_20 : decode cX8_puts 20 = .ok (.aload_n 0, 1) := by decide +kernel
theorem dX8_puts_21 : decode cX8_puts 21 = .ok (.getfield 16, 3) := by decide +kernel
theorem dX8_puts_24 : decode cX8_puts 24 = .ok (.bipush 20, 2) := by decide +kernel
theorem dX8_puts_26 : decode cX8_puts 26 = .ok (.iaload, 1) := by decide +kernel
theorem dX8_puts_27 : decode cX8_puts 27 = .ok (.imul, 1) := by decide +kernel
theorem dX8_puts_28 : decode cX8_puts 28 = .ok (.iconst 1, 1) := by decide +kernel
theorem dX8_puts_29 : decode cX8_puts 29 = .ok (.iadd, 1) := by decide +kernel
theorem dX8_puts_30 : decode cX8_puts 30 = .ok (.iload_n 2, 1) := by decide +kernel
theorem dX8_puts_31 : decode cX8_puts 31 = .ok (.iastore, 1) := by decide +kernel
theorem dX8_puts_32 : decode cX8_puts 32 = .ok (.aload_n 0, 1) := by decide +kernel
theorem dX8_puts_33 : decode cX8_puts 33 = .ok (.getfield 16, 3) := by decide +kernel
theorem dX8_puts_36 : decode cX8_puts 36 = .ok (.bipush 20, 2) := by decide +kernel
theorem dX8_puts_38 : decode cX8_puts 38 = .ok (.dup2, 1) := by decide +kernel
theorem dX8_puts_39 : decode cX8_puts 39 = .ok (.iaload, 1) := by decide +kernel
theorem dX8_puts_40 : decode cX8_puts 40 = .ok (.iconst 1, 1) := by decide +kernel
theorem dX8_puts_41 : decode cX8_puts 41 = .ok (.iadd, 1) := by decide +kernel
theorem dX8_puts_42 : decode cX8_puts 42 = .ok (.iastore, 1) := by decide +kernel
theorem dX8_puts_43 : decode cX8_puts 43 = .ok (.return_, 1) := by decide +kernel
set_option maxRecDepth 20000 in
theorem ggX8_write_X8_isClerk : GoodIn wsX8_write wsX8_isClerk := goodIn_r _ [10, 11, 12, 13, 9, 14, 31, 32, 33, 34, 35, 36, 37, 38, 39, 40, 41, 42, 43, 44, 45, 46, 47, 48, 49, 50, 51, 52, 53] (by decide +kernel) (by decide +kernel)
set_option maxRecDepth 20000 in
theorem gX8_write_X8_isClerk : GoodIn wsX8_write (wsV RX8 121 RX8 yX8_isClerk wsX8_isClerk) := goodIn_app (goodIn_of _ (by decide +kernel)) ggX8_write_X8_isClerk
set_option maxRecDepth 20000 in
theorem ggX8_write_X8_last : GoodIn wsX8_write wsX8_last := goodIn_r _ [18, 2, 31, 32, 33, 34, 35, 36, 37, 38, 39, 40, 41, 42, 43, 44, 45, 46, 47, 48, 49, 50, 51, 52, 53] (by decide +kernel) (by decide +kernel)
set_option maxRecDepth 20000 in
theorem gX8_write_X8_last : GoodIn wsX8_write (wsV RX8 133 RX8 yX8_last wsX8_last) := goodIn_app (goodIn_of _ (by decide +kernel)) ggX8_write_X8_last
set_option maxRecDepth 20000 in
theorem ggX8_write_X8_madeBy : GoodIn wsX8_write wsX8_madeBy := goodIn_r _ [22, 5, 23, 24, 25, 9, 26, 31, 32, 33, 34, 35, 36, 37, 38, 39, 40, 41, 42, 43, 44, 45, 46, 47, 48, 49, 50, 51, 52, 53] (by decide +kernel) (by decide +kernel)
set_option maxRecDepth 20000 in
theorem gX8_write_X8_madeBy : GoodIn wsX8_write (wsV RX8 128 RX8 yX8_madeBy wsX8_madeBy) := goodIn_app (goodIn_of _ (by decide +kernel)) ggX8_write_X8_madeBy
set_option maxRecDepth 20000 in
theorem ggX8_write_X8_puts : GoodIn wsX8_write wsX8_puts := goodIn_r _ [30, 2, 31, 32, 33, 34, 35, 36, 37, 38, 39, 40, 41, 42, 43, 44, 45, 46, 47, 48, 49, 50, 51, 52, 53] (by decide +kernel) (by decide +kernel)
set_option maxRecDepth 20000 in
theorem gX8_write_X8_puts : GoodIn wsX8_write (wsV RX8 137 RX8 yX8_puts wsX8_puts) := goodIn_app (goodIn_of _ (by decide +kernel)) ggX8_write_X8_puts
theorem dX8_write_0 : decode cX8_write 0 = .ok (.aload_n 0, 1) := by decide +kernel
theorem dX8_write_1 : decode cX8_write 1 = .ok (.iconst 0, 1) := by decide +kernel
theorem dX8_write_2 : decode cX8_write 2 = .ok (.putfield 42, 3) := by decide +kernel
theorem dX8_write_5 : decode cX8_write 5 = .ok (.aload_n 0, 1) := by decide +kernel
theorem dX8_write_6 : decode cX8_write 6 = .ok (.iload_n 1, 1) := by decide +kernel
theorem dX8_write_7 : decode cX8_write 7 = .ok (.invokevirtual 121, 3) := by decide +kernel
theorem dX8_write_10 : decode cX8_write 10 = .ok (.ifCond .ne 5, 3) := by decide +kernel
theorem dX8_write_13 : decode cX8_write 13 = .ok (.iconst (-1), 1) := by decide +kernel
theorem dX8_write_14 : decode cX8_write 14 = .ok (.ireturn, 1) := by decide +kernel
theorem dX8_write_15 : decode cX8_write 15 = .ok (.aload_n 0, 1) := by decide +kernel
theorem dX8_write_16 : decode cX8_write 16 = .ok (.getfield 16, 3) := by decide +kernel
theorem dX8_write_19 : decode cX8_write 19 = .ok (.bipush 20, 2) := by decide +kernel
theorem dX8_write_21 : decode cX8_write 21 = .ok (.iaload, 1) := by decide +kernel
theorem dX8_write_22 : decode cX8_write 22 = .ok (.bipush 10, 2) := by decide +kernel
theorem dX8_write_24 : decode cX8_write 24 = .ok (.if_icmp .ne 6, 3) := by decide +kernel
theorem dX8_write_27 : decode cX8_write 27 = .ok (.bipush (-3), 2) := by decide +kernel
theorem dX8_write_29 : decode cX8_write 29 = .ok (.ireturn, 1) := by decide +kernel
theorem dX8_write_30 : decode cX8_write 30 = .ok (.aload_n 0, 1) := by decide +kernel
theorem dX8_write_31 : decode cX8_write 31 = .ok (.getfield 16, 3) := by decide +kernel
theorem dX8_write_34 : decode cX8_write 34 = .ok (.bipush 21, 2) := by decide +kernel
theorem dX8_write_36 : decode cX8_write 36 = .ok (.aload_n 0, 1) := by decide +kernel
theorem dX8_write_37 : decode cX8_write 37 = .ok (.getfield 16, 3) := by decide +kernel
theorem dX8_write_40 : decode cX8_write 40 = .ok (.bipush 21, 2) := by decide +kernel
theorem dX8_write_42 : decode cX8_write 42 = .ok (.iaload, 1) := by decide +kernel
theorem dX8_write_43 : decode cX8_write 43 = .ok (.ldc 131, 2) := by decide +kernel
theorem dX8_write_45 : decode cX8_write 45 = .ok (.imul, 1) := by decide +kernel
theorem dX8_write_46 : decode cX8_write 46 = .ok (.sipush 12345, 3) := by decide +kernel
theorem dX8_write_49 : decode cX8_write 49 = .ok (.iadd, 1) := by decide +kernel
theorem dX8_write_50 : decode cX8_write 50 = .ok (.iastore, 1) := by decide +kernel
theorem dX8_write_51 : decode cX8_write 51 = .ok (.aload_n 0, 1) := by decide +kernel
theorem dX8_write_52 : decode cX8_write 52 = .ok (.getfield 16, 3) := by decide +kernel
theorem dX8_write_55 : decode cX8_write 55 = .ok (.bipush 21, 2) := by decide +kernel
theorem dX8_write_57 : decode cX8_write 57 = .ok (.iaload, 1) := by decide +kernel
theorem dX8_write_58 : decode cX8_write 58 = .ok (.bipush 16, 2) := by decide +kernel
theorem dX8_write_60 : decode cX8_write 60 = .ok (.ishr, 1) := by decide +kernel
theorem dX8_write_61 : decode cX8_write 61 = .ok (.ldc 132, 2) := by decide +kernel
theorem dX8_write_63 : decode cX8_write 63 = .ok (.iand, 1) := by decide +kernel
theorem dX8_write_64 : decode cX8_write 64 = .ok (.bipush 10, 2) := by decide +kernel
theorem dX8_write_66 : decode cX8_write 66 = .ok (.irem, 1) := by decide +kernel
theorem dX8_write_67 : decode cX8_write 67 = .ok (.istore_n 2, 1) := by decide +kernel
theorem dX8_write_68 : decode cX8_write 68 = .ok (.aload_n 0, 1) := by decide +kernel
theorem dX8_write_69 : decode cX8_write 69 = .ok (.iload_n 2, 1) := by decide +kernel
theorem dX8_write_70 : decode cX8_write 70 = .ok (.aload_n 0, 1) := by decide +kernel
theorem dX8_write_71 : decode cX8_write 71 = .ok (.getfield 13, 3) := by decide +kernel
theorem dX8_write_74 : decode cX8_write 74 = .ok (.iconst 4, 1) := by decide +kernel
theorem dX8_write_75 : decode cX8_write 75 = .ok (.iload_n 1, 1) := by decide +kernel
theorem dX8_write_76 : decode cX8_write 76 = .ok (.imul, 1) := by decide +kernel
theorem dX8_write_77 : decode cX8_write 77 = .ok (.iconst 3, 1) := by decide +kernel
theorem dX8_write_78 : decode cX8_write 78 = .ok (.iadd, 1) := by decide +kernel
theorem dX8_write_79 : decode cX8_write 79 = .ok (.iaload, 1) := by decide +kernel
theorem dX8_write_80 : decode cX8_write 80 = .ok (.if_icmp .ge 15, 3) := by decide +kernel
theorem dX8_write_83 : decode cX8_write 83 = .ok (.aload_n 0, 1) := by decide +kernel
theorem dX8_write_84 : decode cX8_write 84 = .ok (.iload_n 1, 1) := by decide +kernel
theorem dX8_write_85 : decode cX8_write 85 = .ok (.aload_n 0, 1) := by decide +kernel
theorem dX8_write_86 : decode cX8_write 86 = .ok (.invokevirtual 133, 3) := by decide +kernel
theorem dX8_write_89 : decode cX8_write 89 = .ok (.invokevirtual 128, 3) := by decide +kernel
theorem dX8_write_92 : decode cX8_write 92 = .ok (.goto 7, 3) := by decide +kernel
theorem dX8_write_95 : decode cX8_write 95 = .ok (.aload_n 0, 1) := by decide +kernel
theorem dX8_write_96 : decode cX8_write 96 = .ok (.invokevirtual 133, 3) := by decide +kernel
theorem dX8_write_99 : decode cX8_write 99 = .ok (.iload_n 1, 1) := by decide +kernel
theorem dX8_write_100 : decode cX8_write 100 = .ok (.invokevirtual 137, 3) := by decide +kernel
theorem dX8_write_103 : decode cX8_write 103 = .ok (.aload_n 0, 1) := by decide +kernel
theorem dX8_write_104 : decode cX8_write 104 = .ok (.invokevirtual 133, 3) := by decide +kernel
theorem dX8_write_107 : decode cX8_write 107 = .ok (.ireturn, 1) := by decide +kernel
set_option maxRecDepth 20000 in
theorem ggX8_forge_X8_in : GoodIn wsX8_forge wsX8_in := goodIn_r _ [6] (by decide +kernel) (by decide +kernel)
set_option maxRecDepth 20000 in
theorem gX8_forge_X8_in : GoodIn wsX8_forge (va_wsS RX8 46 yX8_in wsX8_in) := goodIn_app (goodIn_of _ (by decide +kernel)) ggX8_forge_X8_in
set_option maxRecDepth 20000 in
theorem ggX8_forge_X8_puts : GoodIn wsX8_forge wsX8_puts := goodIn_r _ [10, 2, 11, 12, 13, 14, 15, 16, 17, 18, 19, 20, 21, 22, 23, 24, 25, 26, 27, 28, 29, 30, 31, 32, 33] (by decide +kernel) (by decide +kernel)
set_option maxRecDepth 20000 in
theorem gX8_forge_X8_puts : GoodIn wsX8_forge (wsV RX8 137 RX8 yX8_puts wsX8_puts) := goodIn_app (goodIn_of _ (by decide +kernel)) ggX8_forge_X8_puts
theorem dX8_forge_0 : decode cX8_forge 0 = .ok (.aload_n 0, 1) := by decide +kernel
theorem dX8_forge_1 : decode cX8_forge 1 = .ok (.iconst 0, 1) := by decide +kernel
theorem dX8_forge_2 : decode cX8_forge 2 = .ok (.putfield 42, 3) := by decide +kernel
theorem dX8_forge_5 : decode cX8_forge 5 = .ok (.iload_n 1, 1) := by decide +kernel
theorem dX8_forge_6 : decode cX8_forge 6 = .ok (.iconst 0, 1) := by decide +kernel
theorem dX8_forge_7 : decode cX8_forge 7 = .ok (.bipush 9, 2) := by decide +kernel
theorem dX8_forge_9 : decode cX8_forge 9 = .ok (.invokestatic 46, 3) := by decide +kernel
theorem dX8_forge_12 : decode cX8_forge 12 = .ok (.ifCond .eq 13, 3) := by decide +kernel
theorem dX8_forge_15 : decode cX8_forge 15 = .ok (.iload_n 2, 1) := by decide +kernel
theorem dX8_forge_16 : decode cX8_forge 16 = .ok (.iconst 0, 1) := by decide +kernel
theorem dX8_forge_17 : decode cX8_forge 17 = .ok (.bipush 7, 2) := by decide +kernel
theorem dX8_forge_19 : decode cX8_forge 19 = .ok (.invokestatic 46, 3) := by decide +kernel
theorem dX8_forge_22 : decode cX8_forge 22 = .ok (.ifCond .ne 5, 3) := by decide +kernel
theorem dX8_forge_25 : decode cX8_forge 25 = .ok (.iconst (-1), 1) := by decide +kernel
theorem dX8_forge_26 : decode cX8_forge 26 = .ok (.ireturn, 1) := by decide +kernel
theorem dX8_forge_27 : decode cX8_forge 27 = .ok (.aload_n 0, 1) := by decide +kernel
theorem dX8_forge_28 : decode cX8_forge 28 = .ok (.getfield 16, 3) := by decide +kernel
theorem dX8_forge_31 : decode cX8_forge 31 = .ok (.bipush 20, 2) := by decide +kernel
theorem dX8_forge_33 : decode cX8_forge 33 = .ok (.iaload, 1) := by decide +kernel
theorem dX8_forge_34 : decode cX8_forge 34 = .ok (.bipush 10, 2) := by decide +kernel
theorem dX8_forge_36 : decode cX8_forge 36 = .ok (.if_icmp .ne 6, 3) := by decide +kernel
theorem dX8_forge_39 : decode cX8_forge 39 = .ok (.bipush (-3), 2) := by decide +kernel
theorem dX8_forge_41 : decode cX8_forge 41 = .ok (.ireturn, 1) := by decide +kernel
theorem dX8_forge_42 : decode cX8_forge 42 = .ok (.aload_n 0, 1) := by decide +kernel
theorem dX8_forge_43 : decode cX8_forge 43 = .ok (.iload_n 1, 1) := by decide +kernel
theorem dX8_forge_44 : decode cX8_forge 44 = .ok (.bipush 10, 2) := by decide +kernel
theorem dX8_forge_46 : decode cX8_forge 46 = .ok (.iload_n 2, 1) := by decide +kernel
theorem dX8_forge_47 : decode cX8_forge 47 = .ok (.imul, 1) := by decide +kernel
theorem dX8_forge_48 : decode cX8_forge 48 = .ok (.iadd, 1) := by decide +kernel
theorem dX8_forge_49 : decode cX8_forge 49 = .ok (.bipush (-9), 2) := by decide +kernel
theorem dX8_forge_51 : decode cX8_forge 51 = .ok (.invokevirtual 137, 3) := by decide +kernel
theorem dX8_forge_54 : decode cX8_forge 54 = .ok (.aload_n 0, 1) := by decide +kernel
theorem dX8_forge_55 : decode cX8_forge 55 = .ok (.getfield 16, 3) := by decide +kernel
theorem dX8_forge_58 : decode cX8_forge 58 = .ok (.bipush 20, 2) := by decide +kernel
theorem dX8_forge_60 : decode cX8_forge 60 = .ok (.iaload, 1) := by decide +kernel
theorem dX8_forge_61 : decode cX8_forge 61 = .ok (.ireturn, 1) := by decide +kernel
theorem dX8_undo_0 : decode cX8_undo 0 = .ok (.aload_n 0, 1) := by decide +kernel
theorem dX8_undo_1 : decode cX8_undo 1 = .ok (.iconst 0, 1) := by decide +kernel
theorem dX8_undo_2 : decode cX8_undo 2 = .ok (.putfield 42, 3) := by decide +kernel
theorem dX8_undo_5 : decode cX8_undo 5 = .ok (.aload_n 0, 1) := by decide +kernel
theorem dX8_undo_6 : decode cX8_undo 6 = .ok (.getfield 16, 3) := by decide +kernel
theorem dX8_undo_9 : decode cX8_undo 9 = .ok (.bipush 20, 2) := by decide +kernel
theorem dX8_undo_11 : decode cX8_undo 11 = .ok (.iaload, 1) := by decide +kernel
theorem dX8_undo_12 : decode cX8_undo 12 = .ok (.iconst 1, 1) := by decide +kernel
theorem dX8_undo_13 : decode cX8_undo 13 = .ok (.if_icmp .ne 6, 3) := by decide +kernel
theorem dX8_undo_16 : decode cX8_undo 16 = .ok (.bipush (-2), 2) := by decide +kernel
theorem dX8_undo_18 : decode cX8_undo 18 = .ok (.ireturn, 1) := by decide +kernel
theorem dX8_undo_19 : decode cX8_undo 19 = .ok (.aload_n 0, 1) := by decide +kernel
theorem dX8_undo_20 : decode cX8_undo 20 = .ok (.getfield 16, 3) := by decide +kernel
theorem dX8_undo_23 : decode cX8_undo 23 = .ok (.bipush 20, 2) := by decide +kernel
theorem dX8_undo_25 : decode cX8_undo 25 = .ok (.dup2, 1) := by decide +kernel
theorem dX8_undo_26 : decode cX8_undo 26 = .ok (.iaload, 1) := by decide +kernel
theorem dX8_undo_27 : decode cX8_undo 27 = .ok (.iconst 1, 1) := by decide +kernel
theorem dX8_undo_28 : decode cX8_undo 28 = .ok (.isub, 1) := by decide +kernel
theorem dX8_undo_29 : decode cX8_undo 29 = .ok (.iastore, 1) := by decide +kernel
theorem dX8_undo_30 : decode cX8_undo 30 = .ok (.aload_n 0, 1) := by decide +kernel
theorem dX8_undo_31 : decode cX8_undo 31 = .ok (.getfield 16, 3) := by decide +kernel
theorem dX8_undo_34 : decode cX8_undo 34 = .ok (.bipush 20, 2) := by decide +kernel
theorem dX8_undo_36 : decode cX8_undo 36 = .ok (.iaload, 1) := by decide +kernel
theorem dX8_undo_37 : decode cX8_undo 37 = .ok (.ireturn, 1) := by decide +kernel
theorem dX8_lot_0 : decode cX8_lot 0 = .ok (.aload_n 0, 1) := by decide +kernel
theorem dX8_lot_1 : decode cX8_lot 1 = .ok (.iconst 0, 1) := by decide +kernel
theorem dX8_lot_2 : decode cX8_lot 2 = .ok (.putfield 42, 3) := by decide +kernel
theorem dX8_lot_5 : decode cX8_lot 5 = .ok (.aload_n 0, 1) := by decide +kernel
theorem dX8_lot_6 : decode cX8_lot 6 = .ok (.getfield 16, 3) := by decide +kernel
theorem dX8_lot_9 : decode cX8_lot 9 = .ok (.bipush 21, 2) := by decide +kernel
theorem dX8_lot_11 : decode cX8_lot 11 = .ok (.iaload, 1) := by decide +kernel
theorem dX8_lot_12 : decode cX8_lot 12 = .ok (.istore_n 2, 1) := by decide +kernel
theorem dX8_lot_13 : decode cX8_lot 13 = .ok (.aload_n 0, 1) := by decide +kernel
theorem dX8_lot_14 : decode cX8_lot 14 = .ok (.getfield 16, 3) := by decide +kernel
theorem dX8_lot_17 : decode cX8_lot 17 = .ok (.bipush 21, 2) := by decide +kernel
theorem dX8_lot_19 : decode cX8_lot 19 = .ok (.iload_n 1, 1) := by decide +kernel
theorem dX8_lot_20 : decode cX8_lot 20 = .ok (.iastore, 1) := by decide +kernel
theorem dX8_lot_21 : decode cX8_lot 21 = .ok (.iload_n 2, 1) := by decide +kernel
theorem dX8_lot_22 : decode cX8_lot 22 = .ok (.ireturn, 1) := by decide +kernel
theorem dX8_turned_0 : decode cX8_turned 0 = .ok (.aload_n 0, 1) := by decide +kernel
theorem dX8_turned_1 : decode cX8_turned 1 = .ok (.iconst 0, 1) := by decide +kernel
theorem dX8_turned_2 : decode cX8_turned 2 = .ok (.putfield 42, 3) := by decide +kernel
theorem dX8_turned_5 : decode cX8_turned 5 = .ok (.aload_n 0, 1) := by decide +kernel
theorem dX8_turned_6 : decode cX8_turned 6 = .ok (.getfield 16, 3) := by decide +kernel
theorem dX8_turned_9 : decode cX8_turned 9 = .ok (.iconst 0, 1) := by decide +kernel
theorem dX8_turned_10 : decode cX8_turned 10 = .ok (.iaload, 1) := by decide +kernel
theorem dX8_turned_11 : decode cX8_turned 11 = .ok (.bipush 10, 2) := by decide +kernel
theorem dX8_turned_13 : decode cX8_turned 13 = .ok (.irem, 1) := by decide +kernel
theorem dX8_turned_14 : decode cX8_turned 14 = .ok (.iconst 4, 1) := by decide +kernel
theorem dX8_turned_15 : decode cX8_turned 15 = .ok (.if_icmp .le 7, 3) := by decide +kernel
theorem dX8_turned_18 : decode cX8_turned 18 = .ok (.iconst 1, 1) := by decide +kernel
theorem dX8_turned_19 : decode cX8_turned 19 = .ok (.goto 4, 3) := by decide +kernel
theorem dX8_turned_22 : decode cX8_turned 22 = .ok (.iconst 0, 1) := by decide +kernel
theorem dX8_turned_23 : decode cX8_turned 23 = .ok (.istore_n 1, 1) := by decide +kernel
theorem dX8_turned_24 : decode cX8_turned 24 = .ok (.iconst 1, 1) := by decide +kernel
theorem dX8_turned_25 : decode cX8_turned 25 = .ok (.istore_n 2, 1) := by decide +kernel
theorem dX8_turned_26 : decode cX8_turned 26 = .ok (.iload_n 2, 1) := by decide +kernel
theorem dX8_turned_27 : decode cX8_turned 27 = .ok (.aload_n 0, 1) := by decide +kernel
theorem dX8_turned_28 : decode cX8_turned 28 = .ok (.getfield 16, 3) := by decide +kernel
theorem dX8_turned_31 : decode cX8_turned 31 = .ok (.bipush 20, 2) := by decide +kernel
theorem dX8_turned_33 : decode cX8_turned 33 = .ok (.iaload, 1) := by decide +kernel
theorem dX8_turned_34 : decode cX8_turned 34 = .ok (.if_icmp .ge 35, 3) := by decide +kernel
theorem dX8_turned_37 : decode cX8_turned 37 = .ok (.aload_n 0, 1) := by decide +kernel
theorem dX8_turned_38 : decode cX8_turned 38 = .ok (.getfield 16, 3) := by decide +kernel
theorem dX8_turned_41 : decode cX8_turned 41 = .ok (.iconst 2, 1) := by decide +kernel
theorem dX8_turned_42 : decode cX8_turned 42 = .ok (.iload_n 2, 1) := by decide +kernel
theorem dX8_turned_43 : decode cX8_turned 43 = .ok (.imul, 1) := by decide +kernel
theorem dX8_turned_44 : decode cX8_turned 44 = .ok (.iaload, 1) := by decide +kernel
theorem dX8_turned_45 : decode cX8_turned 45 = .ok (.bipush 10, 2) := by decide +kernel
theorem dX8_turned_47 : decode cX8_turned 47 = .ok (.irem, 1) := by decide +kernel
theorem dX8_turned_48 : decode cX8_turned 48 = .ok (.iconst 4, 1) := by decide +kernel
theorem dX8_turned_49 : decode cX8_turned 49 = .ok (.if_icmp .le 7, 3) := by decide +kernel
theorem dX8_turned_52 : decode cX8_turned 52 = .ok (.iconst 1, 1) := by decide +kernel
theorem dX8_turned_53 : decode cX8_turned 53 = .ok (.goto 4, 3) := by decide +kernel
theorem dX8_turned_56 : decode cX8_turned 56 = .ok (.iconst 0, 1) := by decide +kernel
theorem dX8_turned_57 : decode cX8_turned 57 = .ok (.iload_n 1, 1) := by decide +kernel
theorem dX8_turned_58 : decode cX8_turned 58 = .ok (.if_icmp .eq 5, 3) := by decide +kernel
theorem dX8_turned_61 : decode cX8_turned 61 = .ok (.iload_n 2, 1) := by decide +kernel
theorem dX8_turned_62 : decode cX8_turned 62 = .ok (.ireturn, 1) := by decide +kernel
theorem dX8_turned_63 : decode cX8_turned 63 = .ok (.iinc 2 1, 3) := by decide +kernel
theorem dX8_turned_66 : decode cX8_turned 66 = .ok (.goto (-40), 3) := by decide +kernel
theorem dX8_turned_69 : decode cX8_turned 69 = .ok (.bipush (-9), 2) := by decide +kernel
theorem dX8_turned_71 : decode cX8_turned 71 = .ok (.ireturn, 1) := by decide +kernel
set_option maxRecDepth 20000 in
theorem ggX8_waysOf_X8_madeBy : GoodIn wsX8_waysOf wsX8_madeBy := goodIn_r _ [7, 2, 8, 9, 10, 6, 11, 12, 13, 14, 15, 16, 17, 18, 19, 20, 21, 22, 23, 24, 25, 26, 27, 28, 29, 30, 31, 32, 33, 34] (by decide +kernel) (by decide +kernel)
set_option maxRecDepth 20000 in
theorem gX8_waysOf_X8_madeBy : GoodIn wsX8_waysOf (wsV RX8 128 RX8 yX8_madeBy wsX8_madeBy) := goodIn_app (goodIn_of _ (by decide +kernel)) ggX8_waysOf_X8_madeBy
theorem dX8_waysOf_0 : decode cX8_waysOf 0 = .ok (.aload_n 0, 1) := by decide +kernel
theorem dX8_waysOf_1 : decode cX8_waysOf 1 = .ok (.getfield 16, 3) := by decide +kernel
theorem dX8_waysOf_4 : decode cX8_waysOf 4 = .ok (.iconst 2, 1) := by decide +kernel
theorem dX8_waysOf_5 : decode cX8_waysOf 5 = .ok (.iload_n 2, 1) := by decide +kernel
theorem dX8_waysOf_6 : decode cX8_waysOf 6 = .ok (.imul, 1) := by decide +kernel
theorem dX8_waysOf_7 : decode cX8_waysOf 7 = .ok (.iconst 2, 1) := by decide +kernel
theorem dX8_waysOf_8 : decode cX8_waysOf 8 = .ok (.isub, 1) := by decide +kernel
theorem dX8_waysOf_9 : decode cX8_waysOf 9 = .ok (.iaload, 1) := by decide +kernel
theorem dX8_waysOf_10 : decode cX8_waysOf 10 = .ok (.istore_n 3, 1) := by decide +kernel
theorem dX8_waysOf_11 : decode cX8_waysOf 11 = .ok (.aload_n 0, 1) := by decide +kernel
theorem dX8_waysOf_12 : decode cX8_waysOf 12 = .ok (.getfield 16, 3) := by decide +kernel
theorem dX8_waysOf_15 : decode cX8_waysOf 15 = .ok (.iconst 2, 1) := by decide +kernel
theorem dX8_waysOf_16 : decode cX8_waysOf 16 = .ok (.iload_n 2, 1) := by decide +kernel
theorem dX8_waysOf_17 : decode cX8_waysOf 17 = .ok (.imul, 1) := by decide +kernel
theorem dX8_waysOf_18 : decode cX8_waysOf 18 = .ok (.iaload, 1) := by decide +kernel
theorem dX8_waysOf_19 : decode cX8_waysOf 19 = .ok (.istore 4, 2) := by decide +kernel
theorem dX8_waysOf_21 : decode cX8_waysOf 21 = .ok (.aload_n 0, 1) := by decide +kernel
theorem dX8_waysOf_22 : decode cX8_waysOf 22 = .ok (.getfield 13, 3) := by decide +kernel
theorem dX8_waysOf_25 : decode cX8_waysOf 25 = .ok (.iconst 4, 1) := by decide +kernel
theorem dX8_waysOf_26 : decode cX8_waysOf 26 = .ok (.iload_n 1, 1) := by decide +kernel
theorem dX8_waysOf_27 : decode cX8_waysOf 27 = .ok (.imul, 1) := by decide +kernel
theorem dX8_waysOf_28 : decode cX8_waysOf 28 = .ok (.iconst 3, 1) := by decide +kernel
theorem dX8_waysOf_29 : decode cX8_waysOf 29 = .ok (.iadd, 1) := by decide +kernel
theorem dX8_waysOf_30 : decode cX8_waysOf 30 = .ok (.iaload, 1) := by decide +kernel
theorem dX8_waysOf_31 : decode cX8_waysOf 31 = .ok (.istore 5, 2) := by decide +kernel
theorem dX8_waysOf_33 : decode cX8_waysOf 33 = .ok (.aload_n 0, 1) := by decide +kernel
theorem dX8_waysOf_34 : decode cX8_waysOf 34 = .ok (.iload_n 1, 1) := by decide +kernel
theorem dX8_waysOf_35 : decode cX8_waysOf 35 = .ok (.iload_n 3, 1) := by decide +kernel
theorem dX8_waysOf_36 : decode cX8_waysOf 36 = .ok (.invokevirtual 128, 3) := by decide +kernel
theorem dX8_waysOf_39 : decode cX8_waysOf 39 = .ok (.iload 4, 2) := by decide +kernel
theorem dX8_waysOf_41 : decode cX8_waysOf 41 = .ok (.if_icmp .ne 8, 3) := by decide +kernel
theorem dX8_waysOf_44 : decode cX8_waysOf 44 = .ok (.iload 5, 2) := by decide +kernel
theorem dX8_waysOf_46 : decode cX8_waysOf 46 = .ok (.goto 4, 3) := by decide +kernel
theorem dX8_waysOf_49 : decode cX8_waysOf 49 = .ok (.iconst 0, 1) := by decide +kernel
theorem dX8_waysOf_50 : decode cX8_waysOf 50 = .ok (.iload_n 3, 1) := by decide +kernel
theorem dX8_waysOf_51 : decode cX8_waysOf 51 = .ok (.iload 4, 2) := by decide +kernel
theorem dX8_waysOf_53 : decode cX8_waysOf 53 = .ok (.if_icmp .ne 11, 3) := by decide +kernel
theorem dX8_waysOf_56 : decode cX8_waysOf 56 = .ok (.bipush 10, 2) := by decide +kernel
theorem dX8_waysOf_58 : decode cX8_waysOf 58 = .ok (.iload 5, 2) := by decide +kernel
theorem dX8_waysOf_60 : decode cX8_waysOf 60 = .ok (.isub, 1) := by decide +kernel
theorem dX8_waysOf_61 : decode cX8_waysOf 61 = .ok (.goto 4, 3) := by decide +kernel
theorem dX8_waysOf_64 : decode cX8_waysOf 64 = .ok (.iconst 0, 1) := by decide +kernel
theorem dX8_waysOf_65 : decode cX8_waysOf 65 = .ok (.iadd, 1) := by decide +kernel
theorem dX8_waysOf_66 : decode cX8_waysOf 66 = .ok (.ireturn, 1) := by decide +kernel
set_option maxRecDepth 20000 in
theorem ggX8_whoOf_X8_waysOf : GoodIn wsX8_whoOf wsX8_waysOf := goodIn_r _ [6, 7, 8, 9, 10, 11, 5, 12, 13, 14, 15, 16, 17, 18, 19, 20, 21, 22, 23, 24, 25, 26, 27, 28, 29, 30, 31, 32, 33, 34, 35, 36, 37, 38, 39] (by decide +kernel) (by decide +kernel)
set_option maxRecDepth 20000 in
theorem gX8_whoOf_X8_waysOf : GoodIn wsX8_whoOf (wsV RX8 141 RX8 yX8_waysOf wsX8_waysOf) := goodIn_app (goodIn_of _ (by decide +kernel)) ggX8_whoOf_X8_waysOf
theorem dX8_whoOf_0 : decode cX8_whoOf 0 = .ok (.iconst 0, 1) := by decide +kernel
theorem dX8_whoOf_1 : decode cX8_whoOf 1 = .ok (.istore_n 2, 1) := by decide +kernel
theorem dX8_whoOf_2 : decode cX8_whoOf 2 = .ok (.iconst 0, 1) := by decide +kernel
theorem dX8_whoOf_3 : decode cX8_whoOf 3 = .ok (.istore_n 3, 1) := by decide +kernel
theorem dX8_whoOf_4 : decode cX8_whoOf 4 = .ok (.iload_n 3, 1) := by decide +kernel
theorem dX8_whoOf_5 : decode cX8_whoOf 5 = .ok (.aload_n 0, 1) := by decide +kernel
theorem dX8_whoOf_6 : decode cX8_whoOf 6 = .ok (.getfield 112, 3) := by decide +kernel
theorem dX8_whoOf_9 : decode cX8_whoOf 9 = .ok (.if_icmp .ge 28, 3) := by decide +kernel
theorem dX8_whoOf_12 : decode cX8_whoOf 12 = .ok (.iload_n 2, 1) := by decide +kernel
theorem dX8_whoOf_13 : decode cX8_whoOf 13 = .ok (.aload_n 0, 1) := by decide +kernel
theorem dX8_whoOf_14 : decode cX8_whoOf 14 = .ok (.iload_n 3, 1) := by decide +kernel
theorem dX8_whoOf_15 : decode cX8_whoOf 15 = .ok (.iload_n 1, 1) := by decide +kernel
theorem dX8_whoOf_16 : decode cX8_whoOf 16 = .ok (.invokevirtual 141, 3) := by decide +kernel
theorem dX8_whoOf_19 : decode cX8_whoOf 19 = .ok (.ifCond .le 9, 3) := by decide +kernel
theorem dX8_whoOf_22 : decode cX8_whoOf 22 = .ok (.iconst 1, 1) := by decide +kernel
theorem dX8_whoOf_23 : decode cX8_whoOf 23 = .ok (.iload_n 3, 1) := by decide +kernel
theorem dX8_whoOf_24 : decode cX8_whoOf 24 = .ok (.ishl, 1) := by decide +kernel
theorem dX8_whoOf_25 : decode cX8_whoOf 25 = .ok (.goto 4, 3) := by decide +kernel
theorem dX8_whoOf_28 : decode cX8_whoOf 28 = .ok (.iconst 0, 1) := by decide +kernel
theorem dX8_whoOf_29 : decode cX8_whoOf 29 = .ok (.ior, 1) := by decide +kernel
theorem dX8_whoOf_30 : decode cX8_whoOf 30 = .ok (.istore_n 2, 1) := by decide +kernel
theorem dX8_whoOf_31 : decode cX8_whoOf 31 = .ok (.iinc 3 1, 3) := by decide +kernel
theorem dX8_whoOf_34 : decode cX8_whoOf 34 = .ok (.goto (-30), 3) := by decide +kernel
theorem dX8_whoOf_37 : decode cX8_whoOf 37 = .ok (.iload_n 2, 1) := by decide +kernel
theorem dX8_whoOf_38 : decode cX8_whoOf 38 = .ok (.ireturn, 1) := by decide +kernel
set_option maxRecDepth 20000 in
theorem ggX8_who_X8_in : GoodIn wsX8_who wsX8_in := goodIn_r _ [7] (by decide +kernel) (by decide +kernel)
set_option maxRecDepth 20000 in
theorem gX8_who_X8_in : GoodIn wsX8_who (va_wsS RX8 46 yX8_in wsX8_in) := goodIn_app (goodIn_of _ (by decide +kernel)) ggX8_who_X8_in
set_option maxRecDepth 20000 in
theorem ggX8_who_X8_whoOf : GoodIn wsX8_who wsX8_whoOf := goodIn_r _ [11, 3, 12, 13, 14, 6, 15, 2, 16, 17, 18, 19, 20, 21, 22, 23, 24, 25, 26, 27, 28, 29, 30, 31, 32, 33, 34, 35, 36, 37, 38, 39, 40, 41, 42, 43, 44, 45, 46, 47] (by decide +kernel) (by decide +kernel)
set_option maxRecDepth 20000 in
theorem gX8_who_X8_whoOf : GoodIn wsX8_who (wsV RX8 144 RX8 yX8_whoOf wsX8_whoOf) := goodIn_app (goodIn_of _ (by decide +kernel)) ggX8_who_X8_whoOf
set_option maxRecDepth 20000 in
theorem ggX8_who_X8_waysOf : GoodIn wsX8_who wsX8_waysOf := goodIn_r _ [15, 2, 16, 17, 18, 19, 6, 20, 21, 22, 23, 24, 25, 26, 27, 28, 29, 30, 31, 32, 33, 34, 35, 36, 37, 38, 39, 40, 41, 42, 43, 44, 45, 46, 47] (by decide +kernel) (by decide +kernel)
set_option maxRecDepth 20000 in
theorem gX8_who_X8_waysOf : GoodIn wsX8_who (wsV RX8 141 RX8 yX8_waysOf wsX8_waysOf) := goodIn_app (goodIn_of _ (by decide +kernel)) ggX8_who_X8_waysOf
theorem dX8_who_0 : decode cX8_who 0 = .ok (.aload_n 0, 1) := by decide +kernel
theorem dX8_who_1 : decode cX8_who 1 = .ok (.iconst 0, 1) := by decide +kernel
theorem dX8_who_2 : decode cX8_who 2 = .ok (.putfield 42, 3) := by decide +kernel
theorem dX8_who_5 : decode cX8_who 5 = .ok (.iload_n 1, 1) := by decide +kernel
theorem dX8_who_6 : decode cX8_who 6 = .ok (.iconst 1, 1) := by decide +kernel
theorem dX8_who_7 : decode cX8_who 7 = .ok (.aload_n 0, 1) := by decide +kernel
theorem dX8_who_8 : decode cX8_who 8 = .ok (.getfield 16, 3) := by decide +kernel
theorem dX8_who_11 : decode cX8_who 11 = .ok (.bipush 20, 2) := by decide +kernel
theorem dX8_who_13 : decode cX8_who 13 = .ok (.iaload, 1) := by decide +kernel
theorem dX8_who_14 : decode cX8_who 14 = .ok (.iconst 1, 1) := by decide +kernel
theorem dX8_who_15 : decode cX8_who 15 = .ok (.isub, 1) := by decide +kernel
theorem dX8_who_16 : decode cX8_who 16 = .ok (.invokestatic 46, 3) := by decide +kernel
theorem dX8_who_19 : decode cX8_who 19 = .ok (.ifCond .eq 12, 3) := by decide +kernel
theorem dX8_who_22 : decode cX8_who 22 = .ok (.iload_n 2, 1) := by decide +kernel
theorem dX8_who_23 : decode cX8_who 23 = .ok (.iconst 0, 1) := by decide +kernel
theorem dX8_who_24 : decode cX8_who 24 = .ok (.iconst 1, 1) := by decide +kernel
theorem dX8_who_25 : decode cX8_who 25 = .ok (.invokestatic 46, 3) := by decide +kernel
theorem dX8_who_28 : decode cX8_who 28 = .ok (.ifCond .ne 5, 3) := by decide +kernel
theorem dX8_who_31 : decode cX8_who 31 = .ok (.iconst (-1), 1) := by decide +kernel
theorem dX8_who_32 : decode cX8_who 32 = .ok (.ireturn, 1) := by decide +kernel
theorem dX8_who_33 : decode cX8_who 33 = .ok (.iload_n 2, 1) := by decide +kernel
theorem dX8_who_34 : decode cX8_who 34 = .ok (.ifCond .ne 9, 3) := by decide +kernel
theorem dX8_who_37 : decode cX8_who 37 = .ok (.aload_n 0, 1) := by decide +kernel
theorem dX8_who_38 : decode cX8_who 38 = .ok (.iload_n 1, 1) := by decide +kernel
theorem dX8_who_39 : decode cX8_who 39 = .ok (.invokevirtual 144, 3) := by decide +kernel
theorem dX8_who_42 : decode cX8_who 42 = .ok (.ireturn, 1) := by decide +kernel
theorem dX8_who_43 : decode cX8_who 43 = .ok (.bipush (-9), 2) := by decide +kernel
theorem dX8_who_45 : decode cX8_who 45 = .ok (.istore_n 3, 1) := by decide +kernel
theorem dX8_who_46 : decode cX8_who 46 = .ok (.iconst 0, 1) := by decide +kernel
theorem dX8_who_47 : decode cX8_who 47 = .ok (.istore 4, 2) := by decide +kernel
theorem dX8_who_49 : decode cX8_who 49 = .ok (.iconst 0, 1) := by decide +kernel
theorem dX8_who_50 : decode cX8_who 50 = .ok (.istore 5, 2) := by decide +kernel
theorem dX8_who_52 : decode cX8_who 52 = .ok (.iload 5, 2) := by decide +kernel
theorem dX8_who_54 : decode cX8_who 54 = .ok (.aload_n 0, 1) := by decide +kernel
theorem dX8_who_55 : decode cX8_who 55 = .ok (.getfield 112, 3) := by decide +kernel
theorem dX8_who_58 : decode cX8_who 58 = .ok (.if_icmp .ge 33, 3) := by decide +kernel
theorem dX8_who_61 : decode cX8_who 61 = .ok (.aload_n 0, 1) := by decide +kernel
theorem dX8_who_62 : decode cX8_who 62 = .ok (.iload 5, 2) := by decide +kernel
theorem dX8_who_64 : decode cX8_who 64 = .ok (.iload_n 1, 1) := by decide +kernel
theorem dX8_who_65 : decode cX8_who 65 = .ok (.invokevirtual 141, 3) := by decide +kernel
theorem dX8_who_68 : decode cX8_who 68 = .ok (.iload 4, 2) := by decide +kernel
theorem dX8_who_70 : decode cX8_who 70 = .ok (.if_icmp .le 15, 3) := by decide +kernel
theorem dX8_who_73 : decode cX8_who 73 = .ok (.aload_n 0, 1) := by decide +kernel
theorem dX8_who_74 : decode cX8_who 74 = .ok (.iload 5, 2) := by decide +kernel
theorem dX8_who_76 : decode cX8_who 76 = .ok (.iload_n 1, 1) := by decide +kernel
theorem dX8_who_77 : decode cX8_who 77 = .ok (.invokevirtual 141, 3) := by decide +kernel
theorem dX8_who_80 : decode cX8_who 80 = .ok (.istore 4, 2) := by decide +kernel
theorem dX8_who_82 : decode cX8_who 82 = .ok (.iload 5, 2) := by decide +kernel
theorem dX8_who_84 : decode cX8_who 84 = .ok (.istore_n 3, 1) := by decide +kernel
theorem dX8_who_85 : decode cX8_who 85 = .ok (.iinc 5 1, 3) := by decide +kernel
theorem dX8_who_88 : decode cX8_who 88 = .ok (.goto (-36), 3) := by decide +kernel
theorem dX8_who_91 : decode cX8_who 91 = .ok (.iload_n 3, 1) := by decide +kernel
theorem dX8_who_92 : decode cX8_who 92 = .ok (.ireturn, 1) := by decide +kernel
set_option maxRecDepth 20000 in
theorem ggX8_rows_X8_whoOf : GoodIn wsX8_rows wsX8_whoOf := goodIn_r _ [7, 8, 9, 10, 11, 6, 12, 2, 13, 14, 15, 16, 17, 18, 19, 20, 21, 25, 26, 27, 28, 29, 30, 31, 32, 33, 34, 35, 36, 37, 38, 39, 40, 41, 42, 43, 44, 45, 46, 47] (by decide +kernel) (by decide +kernel)
set_option maxRecDepth 20000 in
theorem gX8_rows_X8_whoOf : GoodIn wsX8_rows (wsV RX8 144 RX8 yX8_whoOf wsX8_whoOf) := goodIn_app (goodIn_of _ (by decide +kernel)) ggX8_rows_X8_whoOf
set_option maxRecDepth 20000 in
theorem ggX8_rows_X8_ones : GoodIn wsX8_rows wsX8_ones := goodIn_r _ [24] (by decide +kernel) (by decide +kernel)
set_option maxRecDepth 20000 in
theorem gX8_rows_X8_ones : GoodIn wsX8_rows (va_wsS RX8 147 yX8_ones wsX8_ones) := goodIn_app (goodIn_of _ (by decide +kernel)) ggX8_rows_X8_ones
theorem dX8_rows_0 : decode cX8_rows 0 = .ok (.aload_n 0, 1) := by decide +kernel
theorem dX8_rows_1 : decode cX8_rows 1 = .ok (.iconst 0, 1) := by decide +kernel
theorem dX8_rows_2 : decode cX8_rows 2 = .ok (.putfield 42, 3) := by decide +kernel
theorem dX8_rows_5 : decode cX8_rows 5 = .ok (.iconst 1, 1) := by decide +kernel
theorem dX8_rows_6 : decode cX8_rows 6 = .ok (.istore_n 1, 1) := by decide +kernel
theorem dX8_rows_7 : decode cX8_rows 7 = .ok (.iconst 1, 1) := by decide +kernel
theorem dX8_rows_8 : decode cX8_rows 8 = .ok (.istore_n 2, 1) := by decide +kernel
theorem dX8_rows_9 : decode cX8_rows 9 = .ok (.iload_n 2, 1) := by decide +kernel
theorem dX8_rows_10 : decode cX8_rows 10 = .ok (.aload_n 0, 1) := by decide +kernel
theorem dX8_rows_11 : decode cX8_rows 11 = .ok (.getfield 16, 3) := by decide +kernel
theorem dX8_rows_14 : decode cX8_rows 14 = .ok (.bipush 20, 2) := by decide +kernel
theorem dX8_rows_16 : decode cX8_rows 16 = .ok (.iaload, 1) := by decide +kernel
theorem dX8_rows_17 : decode cX8_rows 17 = .ok (.if_icmp .ge 20, 3) := by decide +kernel
theorem dX8_rows_20 : decode cX8_rows 20 = .ok (.iload_n 1, 1) := by decide +kernel
theorem dX8_rows_21 : decode cX8_rows 21 = .ok (.aload_n 0, 1) := by decide +kernel
theorem dX8_rows_22 : decode cX8_rows 22 = .ok (.iload_n 2, 1) := by decide +kernel
theorem dX8_rows_23 : decode cX8_rows 23 = .ok (.invokevirtual 144, 3) := by decide +kernel
theorem dX8_rows_26 : decode cX8_rows 26 = .ok (.invokestatic 147, 3) := by decide +kernel
theorem dX8_rows_29 : decode cX8_rows 29 = .ok (.imul, 1) := by decide +kernel
theorem dX8_rows_30 : decode cX8_rows 30 = .ok (.istore_n 1, 1) := by decide +kernel
theorem dX8_rows_31 : decode cX8_rows 31 = .ok (.iinc 2 1, 3) := by decide +kernel
theorem dX8_rows_34 : decode cX8_rows 34 = .ok (.goto (-25), 3) := by decide +kernel
theorem dX8_rows_37 : decode cX8_rows 37 = .ok (.iload_n 1, 1) := by decide +kernel
theorem dX8_rows_38 : decode cX8_rows 38 = .ok (.ireturn, 1) := by decide +kernel
theorem dX8_gcd_0 : decode cX8_gcd 0 = .ok (.iload_n 0, 1) := by decide +kernel
theorem dX8_gcd_1 : decode cX8_gcd 1 = .ok (.istore_n 2, 1) := by decide +kernel
theorem dX8_gcd_2 : decode cX8_gcd 2 = .ok (.iload_n 1, 1) := by decide +kernel
theorem dX8_gcd_3 : decode cX8_gcd 3 = .ok (.istore_n 3, 1) := by decide +kernel
theorem dX8_gcd_4 : decode cX8_gcd 4 = .ok (.iload_n 3, 1) := by decide +kernel
theorem dX8_gcd_5 : decode cX8_gcd 5 = .ok (.ifCond .eq 16, 3) := by decide +kernel
theorem dX8_gcd_8 : decode cX8_gcd 8 = .ok (.iload_n 2, 1) := by decide +kernel
theorem dX8_gcd_9 : decode cX8_gcd 9 = .ok (.iload_n 3, 1) := by decide +kernel
theorem dX8_gcd_10 : decode cX8_gcd 10 = .ok (.irem, 1) := by decide +kernel
theorem dX8_gcd_11 : decode cX8_gcd 11 = .ok (.istore 4, 2) := by decide +kernel
theorem dX8_gcd_13 : decode cX8_gcd 13 = .ok (.iload_n 3, 1) := by decide +kernel
theorem dX8_gcd_14 : decode cX8_gcd 14 = .ok (.istore_n 2, 1) := by decide +kernel
theorem dX8_gcd_15 : decode cX8_gcd 15 = .ok (.iload 4, 2) := by decide +kernel
theorem dX8_gcd_17 : decode cX8_gcd 17 = .ok (.istore_n 3, 1) := by decide +kernel
theorem dX8_gcd_18 : decode cX8_gcd 18 = .ok (.goto (-14), 3) := by decide +kernel
theorem dX8_gcd_21 : decode cX8_gcd 21 = .ok (.iload_n 2, 1) := by decide +kernel
theorem dX8_gcd_22 : decode cX8_gcd 22 = .ok (.ireturn, 1) := by decide +kernel
set_option maxRecDepth 20000 in
theorem ggX8_odds_X8_isClerk : GoodIn wsX8_odds wsX8_isClerk := goodIn_r _ [8, 3, 9, 10, 7, 11, 28, 29, 30, 31, 32, 33, 34, 35, 36, 37, 38, 39, 40, 41, 42, 43, 44, 45, 46, 47, 48, 49, 50] (by decide +kernel) (by decide +kernel)
set_option maxRecDepth 20000 in
theorem gX8_odds_X8_isClerk : GoodIn wsX8_odds (wsV RX8 121 RX8 yX8_isClerk wsX8_isClerk) := goodIn_app (goodIn_of _ (by decide +kernel)) ggX8_odds_X8_isClerk
set_option maxRecDepth 20000 in
theorem ggX8_odds_X8_in : GoodIn wsX8_odds wsX8_in := goodIn_r _ [11] (by decide +kernel) (by decide +kernel)
set_option maxRecDepth 20000 in
theorem gX8_odds_X8_in : GoodIn wsX8_odds (va_wsS RX8 46 yX8_in wsX8_in) := goodIn_app (goodIn_of _ (by decide +kernel)) ggX8_odds_X8_in
set_option maxRecDepth 20000 in
theorem ggX8_odds_X8_waysOf : GoodIn wsX8_odds wsX8_waysOf := goodIn_r _ [15, 2, 16, 17, 18, 19, 7, 20, 21, 22, 23, 24, 28, 29, 30, 31, 32, 33, 34, 35, 36, 37, 38, 39, 40, 41, 42, 43, 44, 45, 46, 47, 48, 49, 50] (by decide +kernel) (by decide +kernel)
set_option maxRecDepth 20000 in
theorem gX8_odds_X8_waysOf : GoodIn wsX8_odds (wsV RX8 141 RX8 yX8_waysOf wsX8_waysOf) := goodIn_app (goodIn_of _ (by decide +kernel)) ggX8_odds_X8_waysOf
set_option maxRecDepth 20000 in
theorem ggX8_odds_X8_gcd : GoodIn wsX8_odds wsX8_gcd := goodIn_r _ [27] (by decide +kernel) (by decide +kernel)
set_option maxRecDepth 20000 in
theorem gX8_odds_X8_gcd : GoodIn wsX8_odds (va_wsS RX8 150 yX8_gcd wsX8_gcd) := goodIn_app (goodIn_of _ (by decide +kernel)) ggX8_odds_X8_gcd
theorem dX8_odds_0 : decode cX8_odds 0 = .ok (.aload_n 0, 1) := by decide +kernel
theorem dX8_odds_1 : decode cX8_odds 1 = .ok (.iconst 0, 1) := by decide +kernel
theorem dX8_odds_2 : decode cX8_odds 2 = .ok (.putfield 42, 3) := by decide +kernel
theorem dX8_odds_5 : decode cX8_odds 5 = .ok (.aload_n 0, 1) := by decide +kernel
theorem dX8_odds_6 : decode cX8_odds 6 = .ok (.iload_n 1, 1) := by decide +kernel
theorem dX8_odds_7 : decode cX8_odds 7 = .ok (.invokevirtual 121, 3) := by decide +kernel
theorem dX8_odds_10 : decode cX8_odds 10 = .ok (.ifCond .eq 29, 3) := by decide +kernel
theorem dX8_odds_13 : decode cX8_odds 13 = .ok (.iload_n 2, 1) := by decide +kernel
theorem dX8_odds_14 : decode cX8_odds 14 = .ok (.iconst 1, 1) := by decide +kernel
theorem dX8_odds_15 : decode cX8_odds 15 = .ok (.aload_n 0, 1) := by decide +kernel
theorem dX8_odds_16 : decode cX8_odds 16 = .ok (.getfield 16, 3) := by decide +kernel
theorem dX8_odds_19 : decode cX8_odds 19 = .ok (.bipush 20, 2) := by decide +kernel
theorem dX8_odds_21 : decode cX8_odds 21 = .ok (.iaload, 1) := by decide +kernel
theorem dX8_odds_22 : decode cX8_odds 22 = .ok (.iconst 1, 1) := by decide +kernel
theorem dX8_odds_23 : decode cX8_odds 23 = .ok (.isub, 1) := by decide +kernel
theorem dX8_odds_24 : decode cX8_odds 24 = .ok (.invokestatic 46, 3) := by decide +kernel
theorem dX8_odds_27 : decode cX8_odds 27 = .ok (.ifCond .eq 12, 3) := by decide +kernel
theorem dX8_odds_30 : decode cX8_odds 30 = .ok (.iload_n 3, 1) := by decide +kernel
theorem dX8_odds_31 : decode cX8_odds 31 = .ok (.iconst 0, 1) := by decide +kernel
theorem dX8_odds_32 : decode cX8_odds 32 = .ok (.iconst 1, 1) := by decide +kernel
theorem dX8_odds_33 : decode cX8_odds 33 = .ok (.invokestatic 46, 3) := by decide +kernel
theorem dX8_odds_36 : decode cX8_odds 36 = .ok (.ifCond .ne 5, 3) := by decide +kernel
theorem dX8_odds_39 : decode cX8_odds 39 = .ok (.iconst (-1), 1) := by decide +kernel
theorem dX8_odds_40 : decode cX8_odds 40 = .ok (.ireturn, 1) := by decide +kernel
theorem dX8_odds_41 : decode cX8_odds 41 = .ok (.iconst 0, 1) := by decide +kernel
theorem dX8_odds_42 : decode cX8_odds 42 = .ok (.istore 4, 2) := by decide +kernel
theorem dX8_odds_44 : decode cX8_odds 44 = .ok (.iconst 0, 1) := by decide +kernel
theorem dX8_odds_45 : decode cX8_odds 45 = .ok (.istore 5, 2) := by decide +kernel
theorem dX8_odds_47 : decode cX8_odds 47 = .ok (.iload 5, 2) := by decide +kernel
theorem dX8_odds_49 : decode cX8_odds 49 = .ok (.aload_n 0, 1) := by decide +kernel
theorem dX8_odds_50 : decode cX8_odds 50 = .ok (.getfield 112, 3) := by decide +kernel
theorem dX8_odds_53 : decode cX8_odds 53 = .ok (.if_icmp .ge 21, 3) := by decide +kernel
theorem dX8_odds_56 : decode cX8_odds 56 = .ok (.iload 4, 2) := by decide +kernel
theorem dX8_odds_58 : decode cX8_odds 58 = .ok (.aload_n 0, 1) := by decide +kernel
theorem dX8_odds_59 : decode cX8_odds 59 = .ok (.iload 5, 2) := by decide +kernel
theorem dX8_odds_61 : decode cX8_odds 61 = .ok (.iload_n 2, 1) := by decide +kernel
theorem dX8_odds_62 : decode cX8_odds 62 = .ok (.invokevirtual 141, 3) := by decide +kernel
theorem dX8_odds_65 : decode cX8_odds 65 = .ok (.iadd, 1) := by decide +kernel
theorem dX8_odds_66 : decode cX8_odds 66 = .ok (.istore 4, 2) := by decide +kernel
theorem dX8_odds_68 : decode cX8_odds 68 = .ok (.iinc 5 1, 3) := by decide +kernel
theorem dX8_odds_71 : decode cX8_odds 71 = .ok (.goto (-24), 3) := by decide +kernel
theorem dX8_odds_74 : decode cX8_odds 74 = .ok (.iload 4, 2) := by decide +kernel
theorem dX8_odds_76 : decode cX8_odds 76 = .ok (.ifCond .ne 6, 3) := by decide +kernel
theorem dX8_odds_79 : decode cX8_odds 79 = .ok (.bipush (-2), 2) := by decide +kernel
theorem dX8_odds_81 : decode cX8_odds 81 = .ok (.ireturn, 1) := by decide +kernel
theorem dX8_odds_82 : decode cX8_odds 82 = .ok (.aload_n 0, 1) := by decide +kernel
theorem dX8_odds_83 : decode cX8_odds 83 = .ok (.iload_n 1, 1) := by decide +kernel
theorem dX8_odds_84 : decode cX8_odds 84 = .ok (.iload_n 2, 1) := by decide +kernel
theorem dX8_odds_85 : decode cX8_odds 85 = .ok (.invokevirtual 141, 3) := by decide +kernel
theorem dX8_odds_88 : decode cX8_odds 88 = .ok (.iload 4, 2) := by decide +kernel
theorem dX8_odds_90 : decode cX8_odds 90 = .ok (.invokestatic 150, 3) := by decide +kernel
theorem dX8_odds_93 : decode cX8_odds 93 = .ok (.istore 5, 2) := by decide +kernel
theorem dX8_odds_95 : decode cX8_odds 95 = .ok (.iload_n 3, 1) := by decide +kernel
theorem dX8_odds_96 : decode cX8_odds 96 = .ok (.ifCond .ne 15, 3) := by decide +kernel
theorem dX8_odds_99 : decode cX8_odds 99 = .ok (.aload_n 0, 1) := by decide +kernel
theorem dX8_odds_100 : decode cX8_odds 100 = .ok (.iload_n 1, 1) := by decide +kernel
theorem dX8_odds_101 : decode cX8_odds 101 = .ok (.iload_n 2, 1) := by decide +kernel
theorem dX8_odds_102 : decode cX8_odds 102 = .ok (.invokevirtual 141, 3) := by decide +kernel
theorem dX8_odds_105 : decode cX8_odds 105 = .ok (.iload 5, 2) := by decide +kernel
theorem dX8_odds_107 : decode cX8_odds 107 = .ok (.idiv, 1) := by decide +kernel
theorem dX8_odds_108 : decode cX8_odds 108 = .ok (.goto 8, 3) := by decide +kernel
theorem dX8_odds_111 : decode cX8_odds 111 = .ok (.iload 4, 2) := by decide +kernel
theorem dX8_odds_113 : decode cX8_odds 113 = .ok (.iload 5, 2) := by decide +kernel
theorem dX8_odds_115 : decode cX8_odds 115 = .ok (.idiv, 1) := by decide +kernel
theorem dX8_odds_116 : decode cX8_odds 116 = .ok (.ireturn, 1) := by decide +kernel
set_option maxRecDepth 20000 in
theorem ggX8_steps_X8_changes : GoodIn wsX8_steps wsX8_changes := goodIn_r _ [7, 2, 8, 9, 10, 11, 12, 13, 14, 15, 16, 17, 18, 19, 20, 21, 22, 23, 24, 25, 26, 27, 28, 29, 30] (by decide +kernel) (by decide +kernel)
set_option maxRecDepth 20000 in
theorem gX8_steps_X8_changes : GoodIn wsX8_steps (wsV RX8 156 RX8 yX8_changes wsX8_changes) := goodIn_app (goodIn_of _ (by decide +kernel)) ggX8_steps_X8_changes
theorem dX8_steps_0 : decode cX8_steps 0 = .ok (.aload_n 0, 1) := by decide +kernel
theorem dX8_steps_1 : decode cX8_steps 1 = .ok (.getfield 153, 3) := by decide +kernel
theorem dX8_steps_4 : decode cX8_steps 4 = .ok (.iconst 2, 1) := by decide +kernel
theorem dX8_steps_5 : decode cX8_steps 5 = .ok (.isub, 1) := by decide +kernel
theorem dX8_steps_6 : decode cX8_steps 6 = .ok (.istore_n 1, 1) := by decide +kernel
theorem dX8_steps_7 : decode cX8_steps 7 = .ok (.iload_n 1, 1) := by decide +kernel
theorem dX8_steps_8 : decode cX8_steps 8 = .ok (.ifCond .lt 26, 3) := by decide +kernel
theorem dX8_steps_11 : decode cX8_steps 11 = .ok (.aload_n 0, 1) := by decide +kernel
theorem dX8_steps_12 : decode cX8_steps 12 = .ok (.getfield 32, 3) := by decide +kernel
theorem dX8_steps_15 : decode cX8_steps 15 = .ok (.iload_n 1, 1) := by decide +kernel
theorem dX8_steps_16 : decode cX8_steps 16 = .ok (.iaload, 1) := by decide +kernel
theorem dX8_steps_17 : decode cX8_steps 17 = .ok (.aload_n 0, 1) := by decide +kernel
theorem dX8_steps_18 : decode cX8_steps 18 = .ok (.getfield 32, 3) := by decide +kernel
theorem dX8_steps_21 : decode cX8_steps 21 = .ok (.iload_n 1, 1) := by decide +kernel
theorem dX8_steps_22 : decode cX8_steps 22 = .ok (.iconst 1, 1) := by decide +kernel
theorem dX8_steps_23 : decode cX8_steps 23 = .ok (.iadd, 1) := by decide +kernel
theorem dX8_steps_24 : decode cX8_steps 24 = .ok (.iaload, 1) := by decide +kernel
theorem dX8_steps_25 : decode cX8_steps 25 = .ok (.if_icmp .le 9, 3) := by decide +kernel
theorem dX8_steps_28 : decode cX8_steps 28 = .ok (.iinc 1 (-1), 3) := by decide +kernel
theorem dX8_steps_31 : decode cX8_steps 31 = .ok (.goto (-24), 3) := by decide +kernel
theorem dX8_steps_34 : decode cX8_steps 34 = .ok (.iload_n 1, 1) := by decide +kernel
theorem dX8_steps_35 : decode cX8_steps 35 = .ok (.ifCond .ge 5, 3) := by decide +kernel
theorem dX8_steps_38 : decode cX8_steps 38 = .ok (.iconst 0, 1) := by decide +kernel
theorem dX8_steps_39 : decode cX8_steps 39 = .ok (.ireturn, 1) := by decide +kernel
theorem dX8_steps_40 : decode cX8_steps 40 = .ok (.aload_n 0, 1) := by decide +kernel
theorem dX8_steps_41 : decode cX8_steps 41 = .ok (.getfield 153, 3) := by decide +kernel
theorem dX8_steps_44 : decode cX8_steps 44 = .ok (.iconst 1, 1) := by decide +kernel
theorem dX8_steps_45 : decode cX8_steps 45 = .ok (.isub, 1) := by decide +kernel
theorem dX8_steps_46 : decode cX8_steps 46 = .ok (.istore_n 2, 1) := by decide +kernel
theorem dX8_steps_47 : decode cX8_steps 47 = .ok (.aload_n 0, 1) := by decide +kernel
theorem dX8_steps_48 : decode cX8_steps 48 = .ok (.getfield 32, 3) := by decide +kernel
theorem dX8_steps_51 : decode cX8_steps 51 = .ok (.iload_n 2, 1) := by decide +kernel
theorem dX8_steps_52 : decode cX8_steps 52 = .ok (.iaload, 1) := by decide +kernel
theorem dX8_steps_53 : decode cX8_steps 53 = .ok (.aload_n 0, 1) := by decide +kernel
theorem dX8_steps_54 : decode cX8_steps 54 = .ok (.getfield 32, 3) := by decide +kernel
theorem dX8_steps_57 : decode cX8_steps 57 = .ok (.iload_n 1, 1) := by decide +kernel
theorem dX8_steps_58 : decode cX8_steps 58 = .ok (.iaload, 1) := by decide +kernel
theorem dX8_steps_59 : decode cX8_steps 59 = .ok (.if_icmp .ge 9, 3) := by decide +kernel
theorem dX8_steps_62 : decode cX8_steps 62 = .ok (.iinc 2 (-1), 3) := by decide +kernel
theorem dX8_steps_65 : decode cX8_steps 65 = .ok (.goto (-18), 3) := by decide +kernel
theorem dX8_steps_68 : decode cX8_steps 68 = .ok (.aload_n 0, 1) := by decide +kernel
theorem dX8_steps_69 : decode cX8_steps 69 = .ok (.iload_n 1, 1) := by decide +kernel
theorem dX8_steps_70 : decode cX8_steps 70 = .ok (.iload_n 2, 1) := by decide +kernel
theorem dX8_steps_71 : decode cX8_steps 71 = .ok (.invokevirtual 156, 3) := by decide +kernel
theorem dX8_steps_74 : decode cX8_steps 74 = .ok (.iload_n 1, 1) := by decide +kernel
theorem dX8_steps_75 : decode cX8_steps 75 = .ok (.iconst 1, 1) := by decide +kernel
theorem dX8_steps_76 : decode cX8_steps 76 = .ok (.iadd, 1) := by decide +kernel
theorem dX8_steps_77 : decode cX8_steps 77 = .ok (.istore_n 3, 1) := by decide +kernel
theorem dX8_steps_78 : decode cX8_steps 78 = .ok (.aload_n 0, 1) := by decide +kernel
theorem dX8_steps_79 : decode cX8_steps 79 = .ok (.getfield 153, 3) := by decide +kernel
theorem dX8_steps_82 : decode cX8_steps 82 = .ok (.iconst 1, 1) := by decide +kernel
theorem dX8_steps_83 : decode cX8_steps 83 = .ok (.isub, 1) := by decide +kernel
theorem dX8_steps_84 : decode cX8_steps 84 = .ok (.istore 4, 2) := by decide +kernel
theorem dX8_steps_86 : decode cX8_steps 86 = .ok (.iload_n 3, 1) := by decide +kernel
theorem dX8_steps_87 : decode cX8_steps 87 = .ok (.iload 4, 2) := by decide +kernel
theorem dX8_steps_89 : decode cX8_steps 89 = .ok (.if_icmp .ge 19, 3) := by decide +kernel
theorem dX8_steps_92 : decode cX8_steps 92 = .ok (.aload_n 0, 1) := by decide +kernel
theorem dX8_steps_93 : decode cX8_steps 93 = .ok (.iload_n 3, 1) := by decide +kernel
theorem dX8_steps_94 : decode cX8_steps 94 = .ok (.iload 4, 2) := by decide +kernel
theorem dX8_steps_96 : decode cX8_steps 96 = .ok (.invokevirtual 156, 3) := by decide +kernel
theorem dX8_steps_99 : decode cX8_steps 99 = .ok (.iinc 3 1, 3) := by decide +kernel
theorem dX8_steps_102 : decode cX8_steps 102 = .ok (.iinc 4 (-1), 3) := by decide +kernel
theorem dX8_steps_105 : decode cX8_steps 105 = .ok (.goto (-19), 3) := by decide +kernel
theorem dX8_steps_108 : decode cX8_steps 108 = .ok (.iconst 1, 1) := by decide +kernel
theorem dX8_steps_109 : decode cX8_steps 109 = .ok (.ireturn, 1) := by decide +kernel
theorem dX8_changes_0 : decode cX8_changes 0 = .ok (.aload_n 0, 1) := by decide +kernel
theorem dX8_changes_1 : decode cX8_changes 1 = .ok (.getfield 32, 3) := by decide +kernel
theorem dX8_changes_4 : decode cX8_changes 4 = .ok (.iload_n 1, 1) := by decide +kernel
theorem dX8_changes_5 : decode cX8_changes 5 = .ok (.iaload, 1) := by decide +kernel
theorem dX8_changes_6 : decode cX8_changes 6 = .ok (.istore_n 3, 1) := by decide +kernel
theorem dX8_changes_7 : decode cX8_changes 7 = .ok (.aload_n 0, 1) := by decide +kernel
theorem dX8_changes_8 : decode cX8_changes 8 = .ok (.getfield 32, 3) := by decide +kernel
theorem dX8_changes_11 : decode cX8_changes 11 = .ok (.iload_n 1, 1) := by decide +kernel
theorem dX8_changes_12 : decode cX8_changes 12 = .ok (.aload_n 0, 1) := by decide +kernel
theorem dX8_changes_13 : decode cX8_changes 13 = .ok (.getfield 32, 3) := by decide +kernel
theorem dX8_changes_16 : decode cX8_changes 16 = .ok (.iload_n 2, 1) := by decide +kernel
theorem dX8_changes_17 : decode cX8_changes 17 = .ok (.iaload, 1) := by decide +kernel
theorem dX8_changes_18 : decode cX8_changes 18 = .ok (.iastore, 1) := by decide +kernel
theorem dX8_changes_19 : decode cX8_changes 19 = .ok (.aload_n 0, 1) := by decide +kernel
theorem dX8_changes_20 : decode cX8_changes 20 = .ok (.getfield 32, 3) := by decide +kernel
theorem dX8_changes_23 : decode cX8_changes 23 = .ok (.iload_n 2, 1) := by decide +kernel
theorem dX8_changes_24 : decode cX8_changes 24 = .ok (.iload_n 3, 1) := by decide +kernel
theorem dX8_changes_25 : decode cX8_changes 25 = .ok (.iastore, 1) := by decide +kernel
theorem dX8_changes_26 : decode cX8_changes 26 = .ok (.return_, 1) := by decide +kernel
set_option maxRecDepth 20000 in
theorem ggX8_farBy_X8_last : GoodIn wsX8_farBy wsX8_last := goodIn_r _ [7, 8, 17, 18, 19, 20, 21, 22, 23, 24, 25, 26, 27, 28, 29, 30, 31, 32, 33, 34, 35, 36, 37, 38, 39] (by decide +kernel) (by decide +kernel)
set_option maxRecDepth 20000 in
theorem gX8_farBy_X8_last : GoodIn wsX8_farBy (wsV RX8 133 RX8 yX8_last wsX8_last) := goodIn_app (goodIn_of _ (by decide +kernel)) ggX8_farBy_X8_last
set_option maxRecDepth 20000 in
theorem ggX8_farBy_X8_toneBy : GoodIn wsX8_farBy wsX8_toneBy := goodIn_r _ [12, 13, 17, 18, 19, 20, 21, 22, 23, 24, 25, 26, 27, 28, 29, 30, 31, 32, 33, 34, 35, 36, 37, 38, 39] (by decide +kernel) (by decide +kernel)
set_option maxRecDepth 20000 in
theorem gX8_farBy_X8_toneBy : GoodIn wsX8_farBy (wsV RX8 125 RX8 yX8_toneBy wsX8_toneBy) := goodIn_app (goodIn_of _ (by decide +kernel)) ggX8_farBy_X8_toneBy
set_option maxRecDepth 20000 in
theorem ggX8_farBy_X8_size : GoodIn wsX8_farBy wsX8_size := goodIn_r _ [16] (by decide +kernel) (by decide +kernel)
set_option maxRecDepth 20000 in
theorem gX8_farBy_X8_size : GoodIn wsX8_farBy (va_wsS RX8 159 yX8_size wsX8_size) := goodIn_app (goodIn_of _ (by decide +kernel)) ggX8_farBy_X8_size
theorem dX8_farBy_0 : decode cX8_farBy 0 = .ok (.aload_n 0, 1) := by decide +kernel
theorem dX8_farBy_1 : decode cX8_farBy 1 = .ok (.invokevirtual 133, 3) := by decide +kernel
theorem dX8_farBy_4 : decode cX8_farBy 4 = .ok (.bipush 10, 2) := by decide +kernel
theorem dX8_farBy_6 : decode cX8_farBy 6 = .ok (.irem, 1) := by decide +kernel
theorem dX8_farBy_7 : decode cX8_farBy 7 = .ok (.istore_n 2, 1) := by decide +kernel
theorem dX8_farBy_8 : decode cX8_farBy 8 = .ok (.iload_n 2, 1) := by decide +kernel
theorem dX8_farBy_9 : decode cX8_farBy 9 = .ok (.istore_n 3, 1) := by decide +kernel
theorem dX8_farBy_10 : decode cX8_farBy 10 = .ok (.iconst 0, 1) := by decide +kernel
theorem dX8_farBy_11 : decode cX8_farBy 11 = .ok (.istore 4, 2) := by decide +kernel
theorem dX8_farBy_13 : decode cX8_farBy 13 = .ok (.iconst 0, 1) := by decide +kernel
theorem dX8_farBy_14 : decode cX8_farBy 14 = .ok (.istore 5, 2) := by decide +kernel
theorem dX8_farBy_16 : decode cX8_farBy 16 = .ok (.iload 5, 2) := by decide +kernel
theorem dX8_farBy_18 : decode cX8_farBy 18 = .ok (.aload_n 0, 1) := by decide +kernel
theorem dX8_farBy_19 : decode cX8_farBy 19 = .ok (.getfield 153, 3) := by decide +kernel
theorem dX8_farBy_22 : decode cX8_farBy 22 = .ok (.if_icmp .ge 46, 3) := by decide +kernel
theorem dX8_farBy_25 : decode cX8_farBy 25 = .ok (.aload_n 0, 1) := by decide +kernel
theorem dX8_farBy_26 : decode cX8_farBy 26 = .ok (.aload_n 0, 1) := by decide +kernel
theorem dX8_farBy_27 : decode cX8_farBy 27 = .ok (.getfield 32, 3) := by decide +kernel
theorem dX8_farBy_30 : decode cX8_farBy 30 = .ok (.iload 5, 2) := by decide +kernel
theorem dX8_farBy_32 : decode cX8_farBy 32 = .ok (.iaload, 1) := by decide +kernel
theorem dX8_farBy_33 : decode cX8_farBy 33 = .ok (.iload_n 3, 1) := by decide +kernel
theorem dX8_farBy_34 : decode cX8_farBy 34 = .ok (.invokevirtual 125, 3) := by decide +kernel
theorem dX8_farBy_37 : decode cX8_farBy 37 = .ok (.istore_n 3, 1) := by decide +kernel
theorem dX8_farBy_38 : decode cX8_farBy 38 = .ok (.iload_n 3, 1) := by decide +kernel
theorem dX8_farBy_39 : decode cX8_farBy 39 = .ok (.iload_n 2, 1) := by decide +kernel
theorem dX8_farBy_40 : decode cX8_farBy 40 = .ok (.isub, 1) := by decide +kernel
theorem dX8_farBy_41 : decode cX8_farBy 41 = .ok (.invokestatic 159, 3) := by decide +kernel
theorem dX8_farBy_44 : decode cX8_farBy 44 = .ok (.iload 4, 2) := by decide +kernel
theorem dX8_farBy_46 : decode cX8_farBy 46 = .ok (.if_icmp .le 12, 3) := by decide +kernel
theorem dX8_farBy_49 : decode cX8_farBy 49 = .ok (.iload_n 3, 1) := by decide +kernel
theorem dX8_farBy_50 : decode cX8_farBy 50 = .ok (.iload_n 2, 1) := by decide +kernel
theorem dX8_farBy_51 : decode cX8_farBy 51 = .ok (.isub, 1) := by decide +kernel
theorem dX8_farBy_52 : decode cX8_farBy 52 = .ok (.invokestatic 159, 3) := by decide +kernel
theorem dX8_farBy_55 : decode cX8_farBy 55 = .ok (.goto 5, 3) := by decide +kernel
theorem dX8_farBy_58 : decode cX8_farBy 58 = .ok (.iload 4, 2) := by decide +kernel
theorem dX8_farBy_60 : decode cX8_farBy 60 = .ok (.istore 4, 2) := by decide +kernel
theorem dX8_farBy_62 : decode cX8_farBy 62 = .ok (.iinc 5 1, 3) := by decide +kernel
theorem dX8_farBy_65 : decode cX8_farBy 65 = .ok (.goto (-49), 3) := by decide +kernel
theorem dX8_farBy_68 : decode cX8_farBy 68 = .ok (.iload_n 1, 1) := by decide +kernel
theorem dX8_farBy_69 : decode cX8_farBy 69 = .ok (.ifCond .ge 8, 3) := by decide +kernel
theorem dX8_farBy_72 : decode cX8_farBy 72 = .ok (.iload 4, 2) := by decide +kernel
theorem dX8_farBy_74 : decode cX8_farBy 74 = .ok (.goto 9, 3) := by decide +kernel
theorem dX8_farBy_77 : decode cX8_farBy 77 = .ok (.iload_n 3, 1) := by decide +kernel
theorem dX8_farBy_78 : decode cX8_farBy 78 = .ok (.iload_n 1, 1) := by decide +kernel
theorem dX8_farBy_79 : decode cX8_farBy 79 = .ok (.isub, 1) := by decide +kernel
theorem dX8_farBy_80 : decode cX8_farBy 80 = .ok (.invokestatic 159, 3) := by decide +kernel
theorem dX8_farBy_83 : decode cX8_farBy 83 = .ok (.ireturn, 1) := by decide +kernel
set_option maxRecDepth 20000 in
theorem ggX8_bestRow_X8_farBy : GoodIn wsX8_bestRow wsX8_farBy := goodIn_r _ [9, 1, 3, 10, 11, 12, 8, 13, 14, 15, 16, 17, 18, 19, 20, 21, 22, 31, 32, 33, 34, 35, 36, 37, 38, 39, 40, 41, 42, 43, 44, 45, 46, 47, 48, 49, 50, 51, 52, 53] (by decide +kernel) (by decide +kernel)
set_option maxRecDepth 20000 in
theorem gX8_bestRow_X8_farBy : GoodIn wsX8_bestRow (wsV RX8 162 RX8 yX8_farBy wsX8_farBy) := goodIn_app (goodIn_of _ (by decide +kernel)) ggX8_bestRow_X8_farBy
set_option maxRecDepth 20000 in
theorem ggX8_bestRow_X8_steps : GoodIn wsX8_bestRow wsX8_steps := goodIn_r _ [26, 1, 3, 27, 28, 29, 8, 30, 31, 32, 33, 34, 35, 36, 37, 38, 39, 40, 41, 42, 43, 44, 45, 46, 47, 48, 49, 50, 51, 52, 53] (by decide +kernel) (by decide +kernel)
set_option maxRecDepth 20000 in
theorem gX8_bestRow_X8_steps : GoodIn wsX8_bestRow (wsV RX8 165 RX8 yX8_steps wsX8_steps) := goodIn_app (goodIn_of _ (by decide +kernel)) ggX8_bestRow_X8_steps
theorem dX8_bestRow_0 : decode cX8_bestRow 0 = .ok (.aload_n 0, 1) := by decide +kernel
theorem dX8_bestRow_1 : decode cX8_bestRow 1 = .ok (.iconst 0, 1) := by decide +kernel
theorem dX8_bestRow_2 : decode cX8_bestRow 2 = .ok (.putfield 153, 3) := by decide +kernel
theorem dX8_bestRow_5 : decode cX8_bestRow 5 = .ok (.iconst 0, 1) := by decide +kernel
theorem dX8_bestRow_6 : decode cX8_bestRow 6 = .ok (.istore_n 3, 1) := by decide +kernel
theorem dX8_bestRow_7 : decode cX8_bestRow 7 = .ok (.iload_n 3, 1) := by decide +kernel
theorem dX8_bestRow_8 : decode cX8_bestRow 8 = .ok (.aload_n 0, 1) := by decide +kernel
theorem dX8_bestRow_9 : decode cX8_bestRow 9 = .ok (.getfield 112, 3) := by decide +kernel
theorem dX8_bestRow_12 : decode cX8_bestRow 12 = .ok (.if_icmp .ge 38, 3) := by decide +kernel
theorem dX8_bestRow_15 : decode cX8_bestRow 15 = .ok (.iload_n 1, 1) := by decide +kernel
theorem dX8_bestRow_16 : decode cX8_bestRow 16 = .ok (.iload_n 3, 1) := by decide +kernel
theorem dX8_bestRow_17 : decode cX8_bestRow 17 = .ok (.ishr, 1) := by decide +kernel
theorem dX8_bestRow_18 : decode cX8_bestRow 18 = .ok (.iconst 1, 1) := by decide +kernel
theorem dX8_bestRow_19 : decode cX8_bestRow 19 = .ok (.iand, 1) := by decide +kernel
theorem dX8_bestRow_20 : decode cX8_bestRow 20 = .ok (.iconst 1, 1) := by decide +kernel
theorem dX8_bestRow_21 : decode cX8_bestRow 21 = .ok (.if_icmp .ne 23, 3) := by decide +kernel
theorem dX8_bestRow_24 : decode cX8_bestRow 24 = .ok (.aload_n 0, 1) := by decide +kernel
theorem dX8_bestRow_25 : decode cX8_bestRow 25 = .ok (.getfield 32, 3) := by decide +kernel
theorem dX8_bestRow_28 : decode cX8_bestRow 28 = .ok (.aload_n 0, 1) := by decide +kernel
theorem dX8_bestRow_29 : decode cX8_bestRow 29 = .ok (.getfield 153, 3) := by decide +kernel
theorem dX8_bestRow_32 : decode cX8_bestRow 32 = .ok (.iload_n 3, 1) := by decide +kernel
theorem dX8_bestRow_33 : decode cX8_bestRow 33 = .ok (.iastore, 1) := by decide +kernel
theorem dX8_bestRow_34 : decode cX8_bestRow 34 = .ok (.aload_n 0, 1) := by decide +kernel
theorem dX8_bestRow_35 : decode cX8_bestRow 35 = .ok (.dup, 1) := by decide +kernel
theorem dX8_bestRow_36 : decode cX8_bestRow 36 = .ok (.getfield 153, 3) := by decide +kernel
theorem dX8_bestRow_39 : decode cX8_bestRow 39 = .ok (.iconst 1, 1) := by decide +kernel
theorem dX8_bestRow_40 : decode cX8_bestRow 40 = .ok (.iadd, 1) := by decide +kernel
theorem dX8_bestRow_41 : decode cX8_bestRow 41 = .ok (.putfield 153, 3) := by decide +kernel
theorem dX8_bestRow_44 : decode cX8_bestRow 44 = .ok (.iinc 3 1, 3) := by decide +kernel
theorem dX8_bestRow_47 : decode cX8_bestRow 47 = .ok (.goto (-40), 3) := by decide +kernel
theorem dX8_bestRow_50 : decode cX8_bestRow 50 = .ok (.bipush (-9), 2) := by decide +kernel
theorem dX8_bestRow_52 : decode cX8_bestRow 52 = .ok (.istore_n 3, 1) := by decide +kernel
theorem dX8_bestRow_53 : decode cX8_bestRow 53 = .ok (.iconst 1, 1) := by decide +kernel
theorem dX8_bestRow_54 : decode cX8_bestRow 54 = .ok (.istore 4, 2) := by decide +kernel
theorem dX8_bestRow_56 : decode cX8_bestRow 56 = .ok (.iload 4, 2) := by decide +kernel
theorem dX8_bestRow_58 : decode cX8_bestRow 58 = .ok (.ifCond .eq 66, 3) := by decide +kernel
theorem dX8_bestRow_61 : decode cX8_bestRow 61 = .ok (.aload_n 0, 1) := by decide +kernel
theorem dX8_bestRow_62 : decode cX8_bestRow 62 = .ok (.iload_n 2, 1) := by decide +kernel
theorem dX8_bestRow_63 : decode cX8_bestRow 63 = .ok (.invokevirtual 162, 3) := by decide +kernel
theorem dX8_bestRow_66 : decode cX8_bestRow 66 = .ok (.istore 5, 2) := by decide +kernel
theorem dX8_bestRow_68 : decode cX8_bestRow 68 = .ok (.iload_n 3, 1) := by decide +kernel
theorem dX8_bestRow_69 : decode cX8_bestRow 69 = .ok (.bipush (-9), 2) := by decide +kernel
theorem dX8_bestRow_71 : decode cX8_bestRow 71 = .ok (.if_icmp .eq 9, 3) := by decide +kernel
theorem dX8_bestRow_74 : decode cX8_bestRow 74 = .ok (.iload 5, 2) := by decide +kernel
theorem dX8_bestRow_76 : decode cX8_bestRow 76 = .ok (.iload_n 3, 1) := by decide +kernel
theorem dX8_bestRow_77 : decode cX8_bestRow 77 = .ok (.if_icmp .ge 38, 3) := by decide +kernel
theorem dX8_bestRow_80 : decode cX8_bestRow 80 = .ok (.iload 5, 2) := by decide +kernel
theorem dX8_bestRow_82 : decode cX8_bestRow 82 = .ok (.istore_n 3, 1) := by decide +kernel
theorem dX8_bestRow_83 : decode cX8_bestRow 83 = .ok (.iconst 0, 1) := by decide +kernel
theorem dX8_bestRow_84 : decode cX8_bestRow 84 = .ok (.istore 6, 2) := by decide +kernel
theorem dX8_bestRow_86 : decode cX8_bestRow 86 = .ok (.iload 6, 2) := by decide +kernel
theorem dX8_bestRow_88 : decode cX8_bestRow 88 = .ok (.aload_n 0, 1) := by decide +kernel
theorem dX8_bestRow_89 : decode cX8_bestRow 89 = .ok (.getfield 153, 3) := by decide +kernel
theorem dX8_bestRow_92 : decode cX8_bestRow 92 = .ok (.if_icmp .ge 23, 3) := by decide +kernel
theorem dX8_bestRow_95 : decode cX8_bestRow 95 = .ok (.aload_n 0, 1) := by decide +kernel
theorem dX8_bestRow_96 : decode cX8_bestRow 96 = .ok (.getfield 35, 3) := by decide +kernel
theorem dX8_bestRow_99 : decode cX8_bestRow 99 = .ok (.iload 6, 2) := by decide +kernel
theorem dX8_bestRow_101 : decode cX8_bestRow 101 = .ok (.aload_n 0, 1) := by decide +kernel
theorem dX8_bestRow_102 : decode cX8_bestRow 102 = .ok (.getfield 32, 3) := by decide +kernel
theorem dX8_bestRow_105 : decode cX8_bestRow 105 = .ok (.iload 6, 2) := by decide +kernel
theorem dX8_bestRow_107 : decode cX8_bestRow 107 = .ok (.iaload, 1) := by decide +kernel
theorem dX8_bestRow_108 : decode cX8_bestRow 108 = .ok (.iastore, 1) := by decide +kernel
theorem dX8_bestRow_109 : decode cX8_bestRow 109 = .ok (.iinc 6 1, 3) := by decide +kernel
theorem dX8_bestRow_112 : decode cX8_bestRow 112 = .ok (.goto (-26), 3) := by decide +kernel
theorem dX8_bestRow_115 : decode cX8_bestRow 115 = .ok (.aload_n 0, 1) := by decide +kernel
theorem dX8_bestRow_116 : decode cX8_bestRow 116 = .ok (.invokevirtual 165, 3) := by decide +kernel
theorem dX8_bestRow_119 : decode cX8_bestRow 119 = .ok (.istore 4, 2) := by decide +kernel
theorem dX8_bestRow_121 : decode cX8_bestRow 121 = .ok (.goto (-65), 3) := by decide +kernel
theorem dX8_bestRow_124 : decode cX8_bestRow 124 = .ok (.iload_n 3, 1) := by decide +kernel
theorem dX8_bestRow_125 : decode cX8_bestRow 125 = .ok (.ireturn, 1) := by decide +kernel
set_option maxRecDepth 20000 in
theorem ggX8_told_X8_bestRow : GoodIn wsX8_told wsX8_bestRow := goodIn_r _ [7, 1, 8, 9, 2, 10, 11, 12, 6, 13, 14, 15, 16, 17, 18, 19, 20, 21, 22, 23, 24, 25, 26, 27, 28, 29, 30, 31, 32, 33, 34, 35, 36, 37, 38, 39, 40, 41, 42, 43, 44, 45, 46, 47, 48, 49, 50, 51, 52, 53, 54, 55, 56, 57] (by decide +kernel) (by decide +kernel)
set_option maxRecDepth 20000 in
theorem gX8_told_X8_bestRow : GoodIn wsX8_told (wsV RX8 168 RX8 yX8_bestRow wsX8_bestRow) := goodIn_app (goodIn_of _ (by decide +kernel)) ggX8_told_X8_bestRow
theorem dX8_told_0 : decode cX8_told 0 = .ok (.aload_n 0, 1) := by decide +kernel
theorem dX8_told_1 : decode cX8_told 1 = .ok (.iload_n 1, 1) := by decide +kernel
theorem dX8_told_2 : decode cX8_told 2 = .ok (.iload_n 2, 1) := by decide +kernel
theorem dX8_told_3 : decode cX8_told 3 = .ok (.invokevirtual 168, 3) := by decide +kernel
theorem dX8_told_6 : decode cX8_told 6 = .ok (.istore 4, 2) := by decide +kernel
theorem dX8_told_8 : decode cX8_told 8 = .ok (.iload_n 3, 1) := by decide +kernel
theorem dX8_told_9 : decode cX8_told 9 = .ok (.ifCond .ge 8, 3) := by decide +kernel
theorem dX8_told_12 : decode cX8_told 12 = .ok (.iload 4, 2) := by decide +kernel
theorem dX8_told_14 : decode cX8_told 14 = .ok (.goto 22, 3) := by decide +kernel
theorem dX8_told_17 : decode cX8_told 17 = .ok (.iload_n 3, 1) := by decide +kernel
theorem dX8_told_18 : decode cX8_told 18 = .ok (.aload_n 0, 1) := by decide +kernel
theorem dX8_told_19 : decode cX8_told 19 = .ok (.getfield 153, 3) := by decide +kernel
theorem dX8_told_22 : decode cX8_told 22 = .ok (.if_icmp .ge 12, 3) := by decide +kernel
theorem dX8_told_25 : decode cX8_told 25 = .ok (.aload_n 0, 1) := by decide +kernel
theorem dX8_told_26 : decode cX8_told 26 = .ok (.getfield 35, 3) := by decide +kernel
theorem dX8_told_29 : decode cX8_told 29 = .ok (.iload_n 3, 1) := by decide +kernel
theorem dX8_told_30 : decode cX8_told 30 = .ok (.iaload, 1) := by decide +kernel
theorem dX8_told_31 : decode cX8_told 31 = .ok (.goto 5, 3) := by decide +kernel
theorem dX8_told_34 : decode cX8_told 34 = .ok (.bipush (-5), 2) := by decide +kernel
theorem dX8_told_36 : decode cX8_told 36 = .ok (.ireturn, 1) := by decide +kernel
set_option maxRecDepth 20000 in
theorem ggX8_areClerks_X8_in : GoodIn wsX8_areClerks wsX8_in := goodIn_r _ [5] (by decide +kernel) (by decide +kernel)
set_option maxRecDepth 20000 in
theorem gX8_areClerks_X8_in : GoodIn wsX8_areClerks (va_wsS RX8 46 yX8_in wsX8_in) := goodIn_app (goodIn_of _ (by decide +kernel)) ggX8_areClerks_X8_in
theorem dX8_areClerks_0 : decode cX8_areClerks 0 = .ok (.iload_n 1, 1) := by decide +kernel
theorem dX8_areClerks_1 : decode cX8_areClerks 1 = .ok (.iconst 0, 1) := by decide +kernel
theorem dX8_areClerks_2 : decode cX8_areClerks 2 = .ok (.iconst 1, 1) := by decide +kernel
theorem dX8_areClerks_3 : decode cX8_areClerks 3 = .ok (.aload_n 0, 1) := by decide +kernel
theorem dX8_areClerks_4 : decode cX8_areClerks 4 = .ok (.getfield 112, 3) := by decide +kernel
theorem dX8_areClerks_7 : decode cX8_areClerks 7 = .ok (.ishl, 1) := by decide +kernel
theorem dX8_areClerks_8 : decode cX8_areClerks 8 = .ok (.iconst 1, 1) := by decide +kernel
theorem dX8_areClerks_9 : decode cX8_areClerks 9 = .ok (.isub, 1) := by decide +kernel
theorem dX8_areClerks_10 : decode cX8_areClerks 10 = .ok (.invokestatic 46, 3) := by decide +kernel
theorem dX8_areClerks_13 : decode cX8_areClerks 13 = .ok (.ireturn, 1) := by decide +kernel
set_option maxRecDepth 20000 in
theorem ggX8_order_X8_areClerks : GoodIn wsX8_order wsX8_areClerks := goodIn_r _ [6, 7, 8, 9, 5, 10, 47, 48, 49, 50, 51, 52, 53, 54, 55, 56, 57, 58, 59, 60, 61, 62, 63, 64, 65, 66, 67, 68, 69] (by decide +kernel) (by decide +kernel)
set_option maxRecDepth 20000 in
theorem gX8_order_X8_areClerks : GoodIn wsX8_order (wsV RX8 171 RX8 yX8_areClerks wsX8_areClerks) := goodIn_app (goodIn_of _ (by decide +kernel)) ggX8_order_X8_areClerks
set_option maxRecDepth 20000 in
theorem ggX8_order_X8_in : GoodIn wsX8_order wsX8_in := goodIn_r _ [10] (by decide +kernel) (by decide +kernel)
set_option maxRecDepth 20000 in
theorem gX8_order_X8_in : GoodIn wsX8_order (va_wsS RX8 46 yX8_in wsX8_in) := goodIn_app (goodIn_of _ (by decide +kernel)) ggX8_order_X8_in
set_option maxRecDepth 20000 in
theorem ggX8_order_X8_told : GoodIn wsX8_order wsX8_told := goodIn_r _ [14, 15, 16, 17, 18, 19, 5, 20, 7, 21, 22, 23, 24, 25, 26, 27, 28, 29, 30, 31, 32, 33, 34, 35, 36, 37, 38, 39, 40, 41, 42, 43, 44, 45, 46, 47, 48, 49, 50, 51, 52, 53, 54, 55, 56, 57, 58, 59, 60, 61, 62, 63, 64, 65, 66, 67, 68, 69] (by decide +kernel) (by decide +kernel)
set_option maxRecDepth 20000 in
theorem gX8_order_X8_told : GoodIn wsX8_order (wsV RX8 174 RX8 yX8_told wsX8_told) := goodIn_app (goodIn_of _ (by decide +kernel)) ggX8_order_X8_told
theorem dX8_order_0 : decode cX8_order 0 = .ok (.aload_n 0, 1) := by decide +kernel
theorem dX8_order_1 : decode cX8_order 1 = .ok (.iconst 0, 1) := by decide +kernel
theorem dX8_order_2 : decode cX8_order 2 = .ok (.putfield 42, 3) := by decide +kernel
theorem dX8_order_5 : decode cX8_order 5 = .ok (.aload_n 0, 1) := by decide +kernel
theorem dX8_order_6 : decode cX8_order 6 = .ok (.iload_n 1, 1) := by decide +kernel
theorem dX8_order_7 : decode cX8_order 7 = .ok (.invokevirtual 171, 3) := by decide +kernel
theorem dX8_order_10 : decode cX8_order 10 = .ok (.ifCond .eq 18, 3) := by decide +kernel
theorem dX8_order_13 : decode cX8_order 13 = .ok (.iload_n 2, 1) := by decide +kernel
theorem dX8_order_14 : decode cX8_order 14 = .ok (.iconst 0, 1) := by decide +kernel
theorem dX8_order_15 : decode cX8_order 15 = .ok (.bipush 9, 2) := by decide +kernel
theorem dX8_order_17 : decode cX8_order 17 = .ok (.invokestatic 46, 3) := by decide +kernel
theorem dX8_order_20 : decode cX8_order 20 = .ok (.ifCond .eq 8, 3) := by decide +kernel
theorem dX8_order_23 : decode cX8_order 23 = .ok (.iload_n 3, 1) := by decide +kernel
theorem dX8_order_24 : decode cX8_order 24 = .ok (.iconst (-1), 1) := by decide +kernel
theorem dX8_order_25 : decode cX8_order 25 = .ok (.if_icmp .ge 7, 3) := by decide +kernel
theorem dX8_order_28 : decode cX8_order 28 = .ok (.iconst (-1), 1) := by decide +kernel
theorem dX8_order_29 : decode cX8_order 29 = .ok (.goto 10, 3) := by decide +kernel
theorem dX8_order_32 : decode cX8_order 32 = .ok (.aload_n 0, 1) := by decide +kernel
theorem dX8_order_33 : decode cX8_order 33 = .ok (.iload_n 1, 1) := by decide +kernel
theorem dX8_order_34 : decode cX8_order 34 = .ok (.iload_n 2, 1) := by decide +kernel
theorem dX8_order_35 : decode cX8_order 35 = .ok (.iload_n 3, 1) := by decide +kernel
theorem dX8_order_36 : decode cX8_order 36 = .ok (.invokevirtual 174, 3) := by decide +kernel
theorem dX8_order_39 : decode cX8_order 39 = .ok (.ireturn, 1) := by decide +kernel
set_option maxRecDepth 20000 in
theorem ggX8_drift_X8_areClerks : GoodIn wsX8_drift wsX8_areClerks := goodIn_r _ [6, 7, 8, 9, 5, 10, 47, 48, 49, 50, 51, 52, 53, 54, 55, 56, 57, 58, 59, 60, 61, 62, 63, 64, 65, 66, 67, 68, 69] (by decide +kernel) (by decide +kernel)
set_option maxRecDepth 20000 in
theorem gX8_drift_X8_areClerks : GoodIn wsX8_drift (wsV RX8 171 RX8 yX8_areClerks wsX8_areClerks) := goodIn_app (goodIn_of _ (by decide +kernel)) ggX8_drift_X8_areClerks
set_option maxRecDepth 20000 in
theorem ggX8_drift_X8_told : GoodIn wsX8_drift wsX8_told := goodIn_r _ [14, 15, 16, 17, 18, 19, 5, 20, 7, 21, 22, 23, 24, 25, 26, 27, 28, 29, 30, 31, 32, 33, 34, 35, 36, 37, 38, 39, 40, 41, 42, 43, 44, 45, 46, 47, 48, 49, 50, 51, 52, 53, 54, 55, 56, 57, 58, 59, 60, 61, 62, 63, 64, 65, 66, 67, 68, 69] (by decide +kernel) (by decide +kernel)
set_option maxRecDepth 20000 in
theorem gX8_drift_X8_told : GoodIn wsX8_drift (wsV RX8 174 RX8 yX8_told wsX8_told) := goodIn_app (goodIn_of _ (by decide +kernel)) ggX8_drift_X8_told
theorem dX8_drift_0 : decode cX8_drift 0 = .ok (.aload_n 0, 1) := by decide +kernel
theorem dX8_drift_1 : decode cX8_drift 1 = .ok (.iconst 0, 1) := by decide +kernel
theorem dX8_drift_2 : decode cX8_drift 2 = .ok (.putfield 42, 3) := by decide +kernel
theorem dX8_drift_5 : decode cX8_drift 5 = .ok (.aload_n 0, 1) := by decide +kernel
theorem dX8_drift_6 : decode cX8_drift 6 = .ok (.iload_n 1, 1) := by decide +kernel
theorem dX8_drift_7 : decode cX8_drift 7 = .ok (.invokevirtual 171, 3) := by decide +kernel
theorem dX8_drift_10 : decode cX8_drift 10 = .ok (.ifCond .eq 8, 3) := by decide +kernel
theorem dX8_drift_13 : decode cX8_drift 13 = .ok (.iload_n 2, 1) := by decide +kernel
theorem dX8_drift_14 : decode cX8_drift 14 = .ok (.iconst (-1), 1) := by decide +kernel
theorem dX8_drift_15 : decode cX8_drift 15 = .ok (.if_icmp .ge 7, 3) := by decide +kernel
theorem dX8_drift_18 : decode cX8_drift 18 = .ok (.iconst (-1), 1) := by decide +kernel
theorem dX8_drift_19 : decode cX8_drift 19 = .ok (.goto 10, 3) := by decide +kernel
theorem dX8_drift_22 : decode cX8_drift 22 = .ok (.aload_n 0, 1) := by decide +kernel
theorem dX8_drift_23 : decode cX8_drift 23 = .ok (.iload_n 1, 1) := by decide +kernel
theorem dX8_drift_24 : decode cX8_drift 24 = .ok (.iconst (-1), 1) := by decide +kernel
theorem dX8_drift_25 : decode cX8_drift 25 = .ok (.iload_n 2, 1) := by decide +kernel
theorem dX8_drift_26 : decode cX8_drift 26 = .ok (.invokevirtual 174, 3) := by decide +kernel
theorem dX8_drift_29 : decode cX8_drift 29 = .ok (.ireturn, 1) := by decide +kernel
set_option maxRecDepth 20000 in
theorem ggX8_sign_X8_in : GoodIn wsX8_sign wsX8_in := goodIn_r _ [7] (by decide +kernel) (by decide +kernel)
set_option maxRecDepth 20000 in
theorem gX8_sign_X8_in : GoodIn wsX8_sign (va_wsS RX8 46 yX8_in wsX8_in) := goodIn_app (goodIn_of _ (by decide +kernel)) ggX8_sign_X8_in
theorem dX8_sign_0 : decode cX8_sign 0 = .ok (.aload_n 0, 1) := by decide +kernel
theorem dX8_sign_1 : decode cX8_sign 1 = .ok (.iconst 0, 1) := by decide +kernel
theorem dX8_sign_2 : decode cX8_sign 2 = .ok (.putfield 42, 3) := by decide +kernel
theorem dX8_sign_5 : decode cX8_sign 5 = .ok (.iload_n 1, 1) := by decide +kernel
theorem dX8_sign_6 : decode cX8_sign 6 = .ok (.iconst 0, 1) := by decide +kernel
theorem dX8_sign_7 : decode cX8_sign 7 = .ok (.bipush 9, 2) := by decide +kernel
theorem dX8_sign_9 : decode cX8_sign 9 = .ok (.invokestatic 46, 3) := by decide +kernel
theorem dX8_sign_12 : decode cX8_sign 12 = .ok (.ifCond .eq 34, 3) := by decide +kernel
theorem dX8_sign_15 : decode cX8_sign 15 = .ok (.iload_n 2, 1) := by decide +kernel
theorem dX8_sign_16 : decode cX8_sign 16 = .ok (.iconst 0, 1) := by decide +kernel
theorem dX8_sign_17 : decode cX8_sign 17 = .ok (.bipush 7, 2) := by decide +kernel
theorem dX8_sign_19 : decode cX8_sign 19 = .ok (.invokestatic 46, 3) := by decide +kernel
theorem dX8_sign_22 : decode cX8_sign 22 = .ok (.ifCond .eq 24, 3) := by decide +kernel
theorem dX8_sign_25 : decode cX8_sign 25 = .ok (.iload_n 3, 1) := by decide +kernel
theorem dX8_sign_26 : decode cX8_sign 26 = .ok (.iconst 0, 1) := by decide +kernel
theorem dX8_sign_27 : decode cX8_sign 27 = .ok (.bipush 9, 2) := by decide +kernel
theorem dX8_sign_29 : decode cX8_sign 29 = .ok (.invokestatic 46, 3) := by decide +kernel
theorem dX8_sign_32 : decode cX8_sign 32 = .ok (.ifCond .eq 14, 3) := by decide +kernel
theorem dX8_sign_35 : decode cX8_sign 35 = .ok (.iload 4, 2) := by decide +kernel
theorem dX8_sign_37 : decode cX8_sign 37 = .ok (.iconst 0, 1) := by decide +kernel
theorem dX8_sign_38 : decode cX8_sign 38 = .ok (.bipush 7, 2) := by decide +kernel
theorem dX8_sign_40 : decode cX8_sign 40 = .ok (.invokestatic 46, 3) := by decide +kernel
theorem dX8_sign_43 : decode cX8_sign 43 = .ok (.ifCond .ne 5, 3) := by decide +kernel
theorem dX8_sign_46 : decode cX8_sign 46 = .ok (.iconst (-1), 1) := by decide +kernel
theorem dX8_sign_47 : decode cX8_sign 47 = .ok (.ireturn, 1) := by decide +kernel
theorem dX8_sign_48 : decode cX8_sign 48 = .ok (.aload_n 0, 1) := by decide +kernel
theorem dX8_sign_49 : decode cX8_sign 49 = .ok (.getfield 115, 3) := by decide +kernel
theorem dX8_sign_52 : decode cX8_sign 52 = .ok (.bipush 8, 2) := by decide +kernel
theorem dX8_sign_54 : decode cX8_sign 54 = .ok (.if_icmp .ne 6, 3) := by decide +kernel
theorem dX8_sign_57 : decode cX8_sign 57 = .ok (.bipush (-3), 2) := by decide +kernel
theorem dX8_sign_59 : decode cX8_sign 59 = .ok (.ireturn, 1) := by decide +kernel
theorem dX8_sign_60 : decode cX8_sign 60 = .ok (.aload_n 0, 1) := by decide +kernel
theorem dX8_sign_61 : decode cX8_sign 61 = .ok (.getfield 26, 3) := by decide +kernel
theorem dX8_sign_64 : decode cX8_sign 64 = .ok (.iconst 2, 1) := by decide +kernel
theorem dX8_sign_65 : decode cX8_sign 65 = .ok (.aload_n 0, 1) := by decide +kernel
theorem dX8_sign_66 : decode cX8_sign 66 = .ok (.getfield 115, 3) := by decide +kernel
theorem dX8_sign_69 : decode cX8_sign 69 = .ok (.imul, 1) := by decide +kernel
theorem dX8_sign_70 : decode cX8_sign 70 = .ok (.iload_n 1, 1) := by decide +kernel
theorem dX8_sign_71 : decode cX8_sign 71 = .ok (.bipush 10, 2) := by decide +kernel
theorem dX8_sign_73 : decode cX8_sign 73 = .ok (.iload_n 2, 1) := by decide +kernel
theorem dX8_sign_74 : decode cX8_sign 74 = .ok (.imul, 1) := by decide +kernel
theorem dX8_sign_75 : decode cX8_sign 75 = .ok (.iadd, 1) := by decide +kernel
theorem dX8_sign_76 : decode cX8_sign 76 = .ok (.iastore, 1) := by decide +kernel
theorem dX8_sign_77 : decode cX8_sign 77 = .ok (.aload_n 0, 1) := by decide +kernel
theorem dX8_sign_78 : decode cX8_sign 78 = .ok (.getfield 26, 3) := by decide +kernel
theorem dX8_sign_81 : decode cX8_sign 81 = .ok (.iconst 2, 1) := by decide +kernel
theorem dX8_sign_82 : decode cX8_sign 82 = .ok (.aload_n 0, 1) := by decide +kernel
theorem dX8_sign_83 : decode cX8_sign 83 = .ok (.getfield 115, 3) := by decide +kernel
theorem dX8_sign_86 : decode cX8_sign 86 = .ok (.imul, 1) := by decide +kernel
theorem dX8_sign_87 : decode cX8_sign 87 = .ok (.iconst 1, 1) := by decide +kernel
theorem dX8_sign_88 : decode cX8_sign 88 = .ok (.iadd, 1) := by decide +kernel
theorem dX8_sign_89 : decode cX8_sign 89 = .ok (.iload_n 3, 1) := by decide +kernel
theorem dX8_sign_90 : decode cX8_sign 90 = .ok (.bipush 10, 2) := by decide +kernel
theorem dX8_sign_92 : decode cX8_sign 92 = .ok (.iload 4, 2) := by decide +kernel
theorem dX8_sign_94 : decode cX8_sign 94 = .ok (.imul, 1) := by decide +kernel
theorem dX8_sign_95 : decode cX8_sign 95 = .ok (.iadd, 1) := by decide +kernel
theorem dX8_sign_96 : decode cX8_sign 96 = .ok (.iastore, 1) := by decide +kernel
theorem dX8_sign_97 : decode cX8_sign 97 = .ok (.aload_n 0, 1) := by decide +kernel
theorem dX8_sign_98 : decode cX8_sign 98 = .ok (.dup, 1) := by decide +kernel
theorem dX8_sign_99 : decode cX8_sign 99 = .ok (.getfield 115, 3) := by decide +kernel
theorem dX8_sign_102 : decode cX8_sign 102 = .ok (.iconst 1, 1) := by decide +kernel
theorem dX8_sign_103 : decode cX8_sign 103 = .ok (.iadd, 1) := by decide +kernel
theorem dX8_sign_104 : decode cX8_sign 104 = .ok (.putfield 115, 3) := by decide +kernel
theorem dX8_sign_107 : decode cX8_sign 107 = .ok (.aload_n 0, 1) := by decide +kernel
theorem dX8_sign_108 : decode cX8_sign 108 = .ok (.getfield 115, 3) := by decide +kernel
theorem dX8_sign_111 : decode cX8_sign 111 = .ok (.ireturn, 1) := by decide +kernel
theorem dX8_fitsLean_0 : decode cX8_fitsLean 0 = .ok (.iconst 1, 1) := by decide +kernel
theorem dX8_fitsLean_1 : decode cX8_fitsLean 1 = .ok (.istore_n 2, 1) := by decide +kernel
theorem dX8_fitsLean_2 : decode cX8_fitsLean 2 = .ok (.iconst 0, 1) := by decide +kernel
theorem dX8_fitsLean_3 : decode cX8_fitsLean 3 = .ok (.istore_n 3, 1) := by decide +kernel
theorem dX8_fitsLean_4 : decode cX8_fitsLean 4 = .ok (.iload_n 3, 1) := by decide +kernel
theorem dX8_fitsLean_5 : decode cX8_fitsLean 5 = .ok (.aload_n 0, 1) := by decide +kernel
theorem dX8_fitsLean_6 : decode cX8_fitsLean 6 = .ok (.getfield 115, 3) := by decide +kernel
theorem dX8_fitsLean_9 : decode cX8_fitsLean 9 = .ok (.if_icmp .ge 79, 3) := by decide +kernel
theorem dX8_fitsLean_12 : decode cX8_fitsLean 12 = .ok (.aload_n 0, 1) := by decide +kernel
theorem dX8_fitsLean_13 : decode cX8_fitsLean 13 = .ok (.getfield 26, 3) := by decide +kernel
theorem dX8_fitsLean_16 : decode cX8_fitsLean 16 = .ok (.iconst 2, 1) := by decide +kernel
theorem dX8_fitsLean_17 : decode cX8_fitsLean 17 = .ok (.iload_n 3, 1) := by decide +kernel
theorem dX8_fitsLean_18 : decode cX8_fitsLean 18 = .ok (.imul, 1) := by decide +kernel
theorem dX8_fitsLean_19 : decode cX8_fitsLean 19 = .ok (.iaload, 1) := by decide +kernel
theorem dX8_fitsLean_20 : decode cX8_fitsLean 20 = .ok (.bipush 10, 2) := by decide +kernel
theorem dX8_fitsLean_22 : decode cX8_fitsLean 22 = .ok (.irem, 1) := by decide +kernel
theorem dX8_fitsLean_23 : decode cX8_fitsLean 23 = .ok (.iload_n 1, 1) := by decide +kernel
theorem dX8_fitsLean_24 : decode cX8_fitsLean 24 = .ok (.iadd, 1) := by decide +kernel
theorem dX8_fitsLean_25 : decode cX8_fitsLean 25 = .ok (.iconst 4, 1) := by decide +kernel
theorem dX8_fitsLean_26 : decode cX8_fitsLean 26 = .ok (.isub, 1) := by decide +kernel
theorem dX8_fitsLean_27 : decode cX8_fitsLean 27 = .ok (.istore 4, 2) := by decide +kernel
theorem dX8_fitsLean_29 : decode cX8_fitsLean 29 = .ok (.iload 4, 2) := by decide +kernel
theorem dX8_fitsLean_31 : decode cX8_fitsLean 31 = .ok (.ifCond .ge 7, 3) := by decide +kernel
theorem dX8_fitsLean_34 : decode cX8_fitsLean 34 = .ok (.iconst 0, 1) := by decide +kernel
theorem dX8_fitsLean_35 : decode cX8_fitsLean 35 = .ok (.goto 17, 3) := by decide +kernel
theorem dX8_fitsLean_38 : decode cX8_fitsLean 38 = .ok (.iload 4, 2) := by decide +kernel
theorem dX8_fitsLean_40 : decode cX8_fitsLean 40 = .ok (.bipush 9, 2) := by decide +kernel
theorem dX8_fitsLean_42 : decode cX8_fitsLean 42 = .ok (.if_icmp .le 8, 3) := by decide +kernel
theorem dX8_fitsLean_45 : decode cX8_fitsLean 45 = .ok (.bipush 9, 2) := by decide +kernel
theorem dX8_fitsLean_47 : decode cX8_fitsLean 47 = .ok (.goto 5, 3) := by decide +kernel
theorem dX8_fitsLean_50 : decode cX8_fitsLean 50 = .ok (.iload 4, 2) := by decide +kernel
theorem dX8_fitsLean_52 : decode cX8_fitsLean 52 = .ok (.istore 4, 2) := by decide +kernel
theorem dX8_fitsLean_54 : decode cX8_fitsLean 54 = .ok (.iload_n 2, 1) := by decide +kernel
theorem dX8_fitsLean_55 : decode cX8_fitsLean 55 = .ok (.ifCond .eq 25, 3) := by decide +kernel
theorem dX8_fitsLean_58 : decode cX8_fitsLean 58 = .ok (.iload 4, 2) := by decide +kernel
theorem dX8_fitsLean_60 : decode cX8_fitsLean 60 = .ok (.aload_n 0, 1) := by decide +kernel
theorem dX8_fitsLean_61 : decode cX8_fitsLean 61 = .ok (.getfield 26, 3) := by decide +kernel
theorem dX8_fitsLean_64 : decode cX8_fitsLean 64 = .ok (.iconst 2, 1) := by decide +kernel
theorem dX8_fitsLean_65 : decode cX8_fitsLean 65 = .ok (.iload_n 3, 1) := by decide +kernel
theorem dX8_fitsLean_66 : decode cX8_fitsLean 66 = .ok (.imul, 1) := by decide +kernel
theorem dX8_fitsLean_67 : decode cX8_fitsLean 67 = .ok (.iconst 1, 1) := by decide +kernel
theorem dX8_fitsLean_68 : decode cX8_fitsLean 68 = .ok (.iadd, 1) := by decide +kernel
theorem dX8_fitsLean_69 : decode cX8_fitsLean 69 = .ok (.iaload, 1) := by decide +kernel
theorem dX8_fitsLean_70 : decode cX8_fitsLean 70 = .ok (.bipush 10, 2) := by decide +kernel
theorem dX8_fitsLean_72 : decode cX8_fitsLean 72 = .ok (.irem, 1) := by decide +kernel
theorem dX8_fitsLean_73 : decode cX8_fitsLean 73 = .ok (.if_icmp .ne 7, 3) := by decide +kernel
theorem dX8_fitsLean_76 : decode cX8_fitsLean 76 = .ok (.iconst 1, 1) := by decide +kernel
theorem dX8_fitsLean_77 : decode cX8_fitsLean 77 = .ok (.goto 4, 3) := by decide +kernel
theorem dX8_fitsLean_80 : decode cX8_fitsLean 80 = .ok (.iconst 0, 1) := by decide +kernel
theorem dX8_fitsLean_81 : decode cX8_fitsLean 81 = .ok (.istore_n 2, 1) := by decide +kernel
theorem dX8_fitsLean_82 : decode cX8_fitsLean 82 = .ok (.iinc 3 1, 3) := by decide +kernel
theorem dX8_fitsLean_85 : decode cX8_fitsLean 85 = .ok (.goto (-81), 3) := by decide +kernel
theorem dX8_fitsLean_88 : decode cX8_fitsLean 88 = .ok (.iload_n 2, 1) := by decide +kernel
theorem dX8_fitsLean_89 : decode cX8_fitsLean 89 = .ok (.ireturn, 1) := by decide +kernel
theorem dX8_marksBy_0 : decode cX8_marksBy 0 = .ok (.bipush 7, 2) := by decide +kernel
theorem dX8_marksBy_2 : decode cX8_marksBy 2 = .ok (.istore_n 2, 1) := by decide +kernel
theorem dX8_marksBy_3 : decode cX8_marksBy 3 = .ok (.iconst 0, 1) := by decide +kernel
theorem dX8_marksBy_4 : decode cX8_marksBy 4 = .ok (.istore_n 3, 1) := by decide +kernel
theorem dX8_marksBy_5 : decode cX8_marksBy 5 = .ok (.iload_n 3, 1) := by decide +kernel
theorem dX8_marksBy_6 : decode cX8_marksBy 6 = .ok (.aload_n 0, 1) := by decide +kernel
theorem dX8_marksBy_7 : decode cX8_marksBy 7 = .ok (.getfield 115, 3) := by decide +kernel
theorem dX8_marksBy_10 : decode cX8_marksBy 10 = .ok (.if_icmp .ge 68, 3) := by decide +kernel
theorem dX8_marksBy_13 : decode cX8_marksBy 13 = .ok (.aload_n 0, 1) := by decide +kernel
theorem dX8_marksBy_14 : decode cX8_marksBy 14 = .ok (.getfield 26, 3) := by decide +kernel
theorem dX8_marksBy_17 : decode cX8_marksBy 17 = .ok (.iconst 2, 1) := by decide +kernel
theorem dX8_marksBy_18 : decode cX8_marksBy 18 = .ok (.iload_n 3, 1) := by decide +kernel
theorem dX8_marksBy_19 : decode cX8_marksBy 19 = .ok (.imul, 1) := by decide +kernel
theorem dX8_marksBy_20 : decode cX8_marksBy 20 = .ok (.iaload, 1) := by decide +kernel
theorem dX8_marksBy_21 : decode cX8_marksBy 21 = .ok (.bipush 10, 2) := by decide +kernel
theorem dX8_marksBy_23 : decode cX8_marksBy 23 = .ok (.idiv, 1) := by decide +kernel
theorem dX8_marksBy_24 : decode cX8_marksBy 24 = .ok (.istore 4, 2) := by decide +kernel
theorem dX8_marksBy_26 : decode cX8_marksBy 26 = .ok (.aload_n 0, 1) := by decide +kernel
theorem dX8_marksBy_27 : decode cX8_marksBy 27 = .ok (.getfield 26, 3) := by decide +kernel
theorem dX8_marksBy_30 : decode cX8_marksBy 30 = .ok (.iconst 2, 1) := by decide +kernel
theorem dX8_marksBy_31 : decode cX8_marksBy 31 = .ok (.iload_n 3, 1) := by decide +kernel
theorem dX8_marksBy_32 : decode cX8_marksBy 32 = .ok (.imul, 1) := by decide +kernel
theorem dX8_marksBy_33 : decode cX8_marksBy 33 = .ok (.iconst 1, 1) := by decide +kernel
theorem dX8_marksBy_34 : decode cX8_marksBy 34 = .ok (.iadd, 1) := by decide +kernel
theorem dX8_marksBy_35 : decode cX8_marksBy 35 = .ok (.iaload, 1) := by decide +kernel
theorem dX8_marksBy_36 : decode cX8_marksBy 36 = .ok (.bipush 10, 2) := by decide +kernel
theorem dX8_marksBy_38 : decode cX8_marksBy 38 = .ok (.idiv, 1) := by decide +kernel
theorem dX8_marksBy_39 : decode cX8_marksBy 39 = .ok (.istore 5, 2) := by decide +kernel
theorem dX8_marksBy_41 : decode cX8_marksBy 41 = .ok (.iload_n 2, 1) := by decide +kernel
theorem dX8_marksBy_42 : decode cX8_marksBy 42 = .ok (.iload_n 1, 1) := by decide +kernel
theorem dX8_marksBy_43 : decode cX8_marksBy 43 = .ok (.ifCond .ne 8, 3) := by decide +kernel
theorem dX8_marksBy_46 : decode cX8_marksBy 46 = .ok (.iload 5, 2) := by decide +kernel
theorem dX8_marksBy_48 : decode cX8_marksBy 48 = .ok (.goto 22, 3) := by decide +kernel
theorem dX8_marksBy_51 : decode cX8_marksBy 51 = .ok (.iload_n 1, 1) := by decide +kernel
theorem dX8_marksBy_52 : decode cX8_marksBy 52 = .ok (.iconst 1, 1) := by decide +kernel
theorem dX8_marksBy_53 : decode cX8_marksBy 53 = .ok (.if_icmp .ne 10, 3) := by decide +kernel
theorem dX8_marksBy_56 : decode cX8_marksBy 56 = .ok (.iload 5, 2) := by decide +kernel
theorem dX8_marksBy_58 : decode cX8_marksBy 58 = .ok (.iconst (-1), 1) := by decide +kernel
theorem dX8_marksBy_59 : decode cX8_marksBy 59 = .ok (.ixor, 1) := by decide +kernel
theorem dX8_marksBy_60 : decode cX8_marksBy 60 = .ok (.goto 10, 3) := by decide +kernel
theorem dX8_marksBy_63 : decode cX8_marksBy 63 = .ok (.iload 4, 2) := by decide +kernel
theorem dX8_marksBy_65 : decode cX8_marksBy 65 = .ok (.iload 5, 2) := by decide +kernel
theorem dX8_marksBy_67 : decode cX8_marksBy 67 = .ok (.ixor, 1) := by decide +kernel
theorem dX8_marksBy_68 : decode cX8_marksBy 68 = .ok (.iconst (-1), 1) := by decide +kernel
theorem dX8_marksBy_69 : decode cX8_marksBy 69 = .ok (.ixor, 1) := by decide +kernel
theorem dX8_marksBy_70 : decode cX8_marksBy 70 = .ok (.iand, 1) := by decide +kernel
theorem dX8_marksBy_71 : decode cX8_marksBy 71 = .ok (.istore_n 2, 1) := by decide +kernel
theorem dX8_marksBy_72 : decode cX8_marksBy 72 = .ok (.iinc 3 1, 3) := by decide +kernel
theorem dX8_marksBy_75 : decode cX8_marksBy 75 = .ok (.goto (-70), 3) := by decide +kernel
theorem dX8_marksBy_78 : decode cX8_marksBy 78 = .ok (.iload_n 2, 1) := by decide +kernel
theorem dX8_marksBy_79 : decode cX8_marksBy 79 = .ok (.ireturn, 1) := by decide +kernel
set_option maxRecDepth 20000 in
theorem ggX8_learnt_X8_in : GoodIn wsX8_learnt wsX8_in := goodIn_r _ [5] (by decide +kernel) (by decide +kernel)
set_option maxRecDepth 20000 in
theorem gX8_learnt_X8_in : GoodIn wsX8_learnt (va_wsS RX8 46 yX8_in wsX8_in) := goodIn_app (goodIn_of _ (by decide +kernel)) ggX8_learnt_X8_in
set_option maxRecDepth 20000 in
theorem ggX8_learnt_X8_fitsLean : GoodIn wsX8_learnt wsX8_fitsLean := goodIn_r _ [9, 10, 11, 16, 17, 18, 19, 20, 21, 22, 23, 24, 25, 26, 27, 28, 29, 30, 31, 32, 33, 34, 35, 36, 37, 38] (by decide +kernel) (by decide +kernel)
set_option maxRecDepth 20000 in
theorem gX8_learnt_X8_fitsLean : GoodIn wsX8_learnt (wsV RX8 178 RX8 yX8_fitsLean wsX8_fitsLean) := goodIn_app (goodIn_of _ (by decide +kernel)) ggX8_learnt_X8_fitsLean
set_option maxRecDepth 20000 in
theorem ggX8_learnt_X8_marksBy : GoodIn wsX8_learnt wsX8_marksBy := goodIn_r _ [15, 10, 11, 16, 17, 18, 19, 20, 21, 22, 23, 24, 25, 26, 27, 28, 29, 30, 31, 32, 33, 34, 35, 36, 37, 38] (by decide +kernel) (by decide +kernel)
set_option maxRecDepth 20000 in
theorem gX8_learnt_X8_marksBy : GoodIn wsX8_learnt (wsV RX8 181 RX8 yX8_marksBy wsX8_marksBy) := goodIn_app (goodIn_of _ (by decide +kernel)) ggX8_learnt_X8_marksBy
theorem dX8_learnt_0 : decode cX8_learnt 0 = .ok (.aload_n 0, 1) := by decide +kernel
theorem dX8_learnt_1 : decode cX8_learnt 1 = .ok (.iconst 0, 1) := by decide +kernel
theorem dX8_learnt_2 : decode cX8_learnt 2 = .ok (.putfield 42, 3) := by decide +kernel
theorem dX8_learnt_5 : decode cX8_learnt 5 = .ok (.iload_n 1, 1) := by decide +kernel
theorem dX8_learnt_6 : decode cX8_learnt 6 = .ok (.iconst 0, 1) := by decide +kernel
theorem dX8_learnt_7 : decode cX8_learnt 7 = .ok (.iconst 5, 1) := by decide +kernel
theorem dX8_learnt_8 : decode cX8_learnt 8 = .ok (.invokestatic 46, 3) := by decide +kernel
theorem dX8_learnt_11 : decode cX8_learnt 11 = .ok (.ifCond .ne 5, 3) := by decide +kernel
theorem dX8_learnt_14 : decode cX8_learnt 14 = .ok (.iconst (-1), 1) := by decide +kernel
theorem dX8_learnt_15 : decode cX8_learnt 15 = .ok (.ireturn, 1) := by decide +kernel
theorem dX8_learnt_16 : decode cX8_learnt 16 = .ok (.bipush (-9), 2) := by decide +kernel
theorem dX8_learnt_18 : decode cX8_learnt 18 = .ok (.istore_n 2, 1) := by decide +kernel
theorem dX8_learnt_19 : decode cX8_learnt 19 = .ok (.bipush (-9), 2) := by decide +kernel
theorem dX8_learnt_21 : decode cX8_learnt 21 = .ok (.istore_n 3, 1) := by decide +kernel
theorem dX8_learnt_22 : decode cX8_learnt 22 = .ok (.iconst 0, 1) := by decide +kernel
theorem dX8_learnt_23 : decode cX8_learnt 23 = .ok (.istore 4, 2) := by decide +kernel
theorem dX8_learnt_25 : decode cX8_learnt 25 = .ok (.iload 4, 2) := by decide +kernel
theorem dX8_learnt_27 : decode cX8_learnt 27 = .ok (.bipush 9, 2) := by decide +kernel
theorem dX8_learnt_29 : decode cX8_learnt 29 = .ok (.if_icmp .ge 34, 3) := by decide +kernel
theorem dX8_learnt_32 : decode cX8_learnt 32 = .ok (.aload_n 0, 1) := by decide +kernel
theorem dX8_learnt_33 : decode cX8_learnt 33 = .ok (.iload 4, 2) := by decide +kernel
theorem dX8_learnt_35 : decode cX8_learnt 35 = .ok (.invokevirtual 178, 3) := by decide +kernel
theorem dX8_learnt_38 : decode cX8_learnt 38 = .ok (.ifCond .eq 19, 3) := by decide +kernel
theorem dX8_learnt_41 : decode cX8_learnt 41 = .ok (.iload_n 2, 1) := by decide +kernel
theorem dX8_learnt_42 : decode cX8_learnt 42 = .ok (.bipush (-9), 2) := by decide +kernel
theorem dX8_learnt_44 : decode cX8_learnt 44 = .ok (.if_icmp .ne 8, 3) := by decide +kernel
theorem dX8_learnt_47 : decode cX8_learnt 47 = .ok (.iload 4, 2) := by decide +kernel
theorem dX8_learnt_49 : decode cX8_learnt 49 = .ok (.goto 4, 3) := by decide +kernel
theorem dX8_learnt_52 : decode cX8_learnt 52 = .ok (.iload_n 2, 1) := by decide +kernel
theorem dX8_learnt_53 : decode cX8_learnt 53 = .ok (.istore_n 2, 1) := by decide +kernel
theorem dX8_learnt_54 : decode cX8_learnt 54 = .ok (.iload 4, 2) := by decide +kernel
theorem dX8_learnt_56 : decode cX8_learnt 56 = .ok (.istore_n 3, 1) := by decide +kernel
theorem dX8_learnt_57 : decode cX8_learnt 57 = .ok (.iinc 4 1, 3) := by decide +kernel
theorem dX8_learnt_60 : decode cX8_learnt 60 = .ok (.goto (-35), 3) := by decide +kernel
theorem dX8_learnt_63 : decode cX8_learnt 63 = .ok (.aload_n 0, 1) := by decide +kernel
theorem dX8_learnt_64 : decode cX8_learnt 64 = .ok (.iconst 0, 1) := by decide +kernel
theorem dX8_learnt_65 : decode cX8_learnt 65 = .ok (.invokevirtual 181, 3) := by decide +kernel
theorem dX8_learnt_68 : decode cX8_learnt 68 = .ok (.istore 4, 2) := by decide +kernel
theorem dX8_learnt_70 : decode cX8_learnt 70 = .ok (.aload_n 0, 1) := by decide +kernel
theorem dX8_learnt_71 : decode cX8_learnt 71 = .ok (.iconst 1, 1) := by decide +kernel
theorem dX8_learnt_72 : decode cX8_learnt 72 = .ok (.invokevirtual 181, 3) := by decide +kernel
theorem dX8_learnt_75 : decode cX8_learnt 75 = .ok (.istore 5, 2) := by decide +kernel
theorem dX8_learnt_77 : decode cX8_learnt 77 = .ok (.aload_n 0, 1) := by decide +kernel
theorem dX8_learnt_78 : decode cX8_learnt 78 = .ok (.iconst 2, 1) := by decide +kernel
theorem dX8_learnt_79 : decode cX8_learnt 79 = .ok (.invokevirtual 181, 3) := by decide +kernel
theorem dX8_learnt_82 : decode cX8_learnt 82 = .ok (.istore 6, 2) := by decide +kernel
theorem dX8_learnt_84 : decode cX8_learnt 84 = .ok (.iload_n 2, 1) := by decide +kernel
theorem dX8_learnt_85 : decode cX8_learnt 85 = .ok (.bipush (-9), 2) := by decide +kernel
theorem dX8_learnt_87 : decode cX8_learnt 87 = .ok (.if_icmp .eq 16, 3) := by decide +kernel
theorem dX8_learnt_90 : decode cX8_learnt 90 = .ok (.iload 4, 2) := by decide +kernel
theorem dX8_learnt_92 : decode cX8_learnt 92 = .ok (.iload 5, 2) := by decide +kernel
theorem dX8_learnt_94 : decode cX8_learnt 94 = .ok (.ior, 1) := by decide +kernel
theorem dX8_learnt_95 : decode cX8_learnt 95 = .ok (.iload 6, 2) := by decide +kernel
theorem dX8_learnt_97 : decode cX8_learnt 97 = .ok (.ior, 1) := by decide +kernel
theorem dX8_learnt_98 : decode cX8_learnt 98 = .ok (.bipush 7, 2) := by decide +kernel
theorem dX8_learnt_100 : decode cX8_learnt 100 = .ok (.if_icmp .eq 6, 3) := by decide +kernel
theorem dX8_learnt_103 : decode cX8_learnt 103 = .ok (.bipush (-9), 2) := by decide +kernel
theorem dX8_learnt_105 : decode cX8_learnt 105 = .ok (.ireturn, 1) := by decide +kernel
theorem dX8_learnt_106 : decode cX8_learnt 106 = .ok (.iload_n 1, 1) := by decide +kernel
theorem dX8_learnt_107 : decode cX8_learnt 107 = .ok (.ifCond .ne 7, 3) := by decide +kernel
theorem dX8_learnt_110 : decode cX8_learnt 110 = .ok (.iload_n 2, 1) := by decide +kernel
theorem dX8_learnt_111 : decode cX8_learnt 111 = .ok (.goto 64, 3) := by decide +kernel
theorem dX8_learnt_114 : decode cX8_learnt 114 = .ok (.iload_n 1, 1) := by decide +kernel
theorem dX8_learnt_115 : decode cX8_learnt 115 = .ok (.iconst 1, 1) := by decide +kernel
theorem dX8_learnt_116 : decode cX8_learnt 116 = .ok (.if_icmp .ne 7, 3) := by decide +kernel
theorem dX8_learnt_119 : decode cX8_learnt 119 = .ok (.iload_n 3, 1) := by decide +kernel
theorem dX8_learnt_120 : decode cX8_learnt 120 = .ok (.goto 55, 3) := by decide +kernel
theorem dX8_learnt_123 : decode cX8_learnt 123 = .ok (.iload_n 1, 1) := by decide +kernel
theorem dX8_learnt_124 : decode cX8_learnt 124 = .ok (.iconst 2, 1) := by decide +kernel
theorem dX8_learnt_125 : decode cX8_learnt 125 = .ok (.if_icmp .ne 18, 3) := by decide +kernel
theorem dX8_learnt_128 : decode cX8_learnt 128 = .ok (.iload 4, 2) := by decide +kernel
theorem dX8_learnt_130 : decode cX8_learnt 130 = .ok (.iload 5, 2) := by decide +kernel
theorem dX8_learnt_132 : decode cX8_learnt 132 = .ok (.iconst (-1), 1) := by decide +kernel
theorem dX8_learnt_133 : decode cX8_learnt 133 = .ok (.ixor, 1) := by decide +kernel
theorem dX8_learnt_134 : decode cX8_learnt 134 = .ok (.iand, 1) := by decide +kernel
theorem dX8_learnt_135 : decode cX8_learnt 135 = .ok (.iload 6, 2) := by decide +kernel
theorem dX8_learnt_137 : decode cX8_learnt 137 = .ok (.iconst (-1), 1) := by decide +kernel
theorem dX8_learnt_138 : decode cX8_learnt 138 = .ok (.ixor, 1) := by decide +kernel
theorem dX8_learnt_139 : decode cX8_learnt 139 = .ok (.iand, 1) := by decide +kernel
theorem dX8_learnt_140 : decode cX8_learnt 140 = .ok (.goto 35, 3) := by decide +kernel
theorem dX8_learnt_143 : decode cX8_learnt 143 = .ok (.iload_n 1, 1) := by decide +kernel
theorem dX8_learnt_144 : decode cX8_learnt 144 = .ok (.iconst 3, 1) := by decide +kernel
theorem dX8_learnt_145 : decode cX8_learnt 145 = .ok (.if_icmp .ne 18, 3) := by decide +kernel
theorem dX8_learnt_148 : decode cX8_learnt 148 = .ok (.iload 5, 2) := by decide +kernel
theorem dX8_learnt_150 : decode cX8_learnt 150 = .ok (.iload 4, 2) := by decide +kernel
theorem dX8_learnt_152 : decode cX8_learnt 152 = .ok (.iconst (-1), 1) := by decide +kernel
theorem dX8_learnt_153 : decode cX8_learnt 153 = .ok (.ixor, 1) := by decide +kernel
theorem dX8_learnt_154 : decode cX8_learnt 154 = .ok (.iand, 1) := by decide +kernel
theorem dX8_learnt_155 : decode cX8_learnt 155 = .ok (.iload 6, 2) := by decide +kernel
theorem dX8_learnt_157 : decode cX8_learnt 157 = .ok (.iconst (-1), 1) := by decide +kernel
theorem dX8_learnt_158 : decode cX8_learnt 158 = .ok (.ixor, 1) := by decide +kernel
theorem dX8_learnt_159 : decode cX8_learnt 159 = .ok (.iand, 1) := by decide +kernel
theorem dX8_learnt_160 : decode cX8_learnt 160 = .ok (.goto 15, 3) := by decide +kernel
theorem dX8_learnt_163 : decode cX8_learnt 163 = .ok (.iload_n 1, 1) := by decide +kernel
theorem dX8_learnt_164 : decode cX8_learnt 164 = .ok (.iconst 4, 1) := by decide +kernel
theorem dX8_learnt_165 : decode cX8_learnt 165 = .ok (.if_icmp .ne 8, 3) := by decide +kernel
theorem dX8_learnt_168 : decode cX8_learnt 168 = .ok (.iload 4, 2) := by decide +kernel
theorem dX8_learnt_170 : decode cX8_learnt 170 = .ok (.goto 5, 3) := by decide +kernel
theorem dX8_learnt_173 : decode cX8_learnt 173 = .ok (.iload 5, 2) := by decide +kernel
theorem dX8_learnt_175 : decode cX8_learnt 175 = .ok (.ireturn, 1) := by decide +kernel
theorem dX8_forget_0 : decode cX8_forget 0 = .ok (.aload_n 0, 1) := by decide +kernel
theorem dX8_forget_1 : decode cX8_forget 1 = .ok (.iconst 0, 1) := by decide +kernel
theorem dX8_forget_2 : decode cX8_forget 2 = .ok (.putfield 42, 3) := by decide +kernel
theorem dX8_forget_5 : decode cX8_forget 5 = .ok (.aload_n 0, 1) := by decide +kernel
theorem dX8_forget_6 : decode cX8_forget 6 = .ok (.getfield 115, 3) := by decide +kernel
theorem dX8_forget_9 : decode cX8_forget 9 = .ok (.istore_n 1, 1) := by decide +kernel
theorem dX8_forget_10 : decode cX8_forget 10 = .ok (.aload_n 0, 1) := by decide +kernel
theorem dX8_forget_11 : decode cX8_forget 11 = .ok (.iconst 0, 1) := by decide +kernel
theorem dX8_forget_12 : decode cX8_forget 12 = .ok (.putfield 115, 3) := by decide +kernel
theorem dX8_forget_15 : decode cX8_forget 15 = .ok (.iload_n 1, 1) := by decide +kernel
theorem dX8_forget_16 : decode cX8_forget 16 = .ok (.ireturn, 1) := by decide +kernel
set_option maxRecDepth 20000 in
theorem ggX8_copy_X8_in : GoodIn wsX8_copy wsX8_in := goodIn_r _ [7] (by decide +kernel) (by decide +kernel)
set_option maxRecDepth 20000 in
theorem gX8_copy_X8_in : GoodIn wsX8_copy (va_wsS RX8 46 yX8_in wsX8_in) := goodIn_app (goodIn_of _ (by decide +kernel)) ggX8_copy_X8_in
theorem dX8_copy_0 : decode cX8_copy 0 = .ok (.aload_n 0, 1) := by decide +kernel
theorem dX8_copy_1 : decode cX8_copy 1 = .ok (.iconst 0, 1) := by decide +kernel
theorem dX8_copy_2 : decode cX8_copy 2 = .ok (.putfield 42, 3) := by decide +kernel
theorem dX8_copy_5 : decode cX8_copy 5 = .ok (.iload_n 1, 1) := by decide +kernel
theorem dX8_copy_6 : decode cX8_copy 6 = .ok (.iconst 0, 1) := by decide +kernel
theorem dX8_copy_7 : decode cX8_copy 7 = .ok (.sipush 255, 3) := by decide +kernel
theorem dX8_copy_10 : decode cX8_copy 10 = .ok (.invokestatic 46, 3) := by decide +kernel
theorem dX8_copy_13 : decode cX8_copy 13 = .ok (.ifCond .ne 5, 3) := by decide +kernel
theorem dX8_copy_16 : decode cX8_copy 16 = .ok (.iconst (-1), 1) := by decide +kernel
theorem dX8_copy_17 : decode cX8_copy 17 = .ok (.ireturn, 1) := by decide +kernel
theorem dX8_copy_18 : decode cX8_copy 18 = .ok (.aload_n 0, 1) := by decide +kernel
theorem dX8_copy_19 : decode cX8_copy 19 = .ok (.getfield 118, 3) := by decide +kernel
theorem dX8_copy_22 : decode cX8_copy 22 = .ok (.bipush 8, 2) := by decide +kernel
theorem dX8_copy_24 : decode cX8_copy 24 = .ok (.if_icmp .ne 6, 3) := by decide +kernel
theorem dX8_copy_27 : decode cX8_copy 27 = .ok (.bipush (-3), 2) := by decide +kernel
theorem dX8_copy_29 : decode cX8_copy 29 = .ok (.ireturn, 1) := by decide +kernel
theorem dX8_copy_30 : decode cX8_copy 30 = .ok (.aload_n 0, 1) := by decide +kernel
theorem dX8_copy_31 : decode cX8_copy 31 = .ok (.getfield 29, 3) := by decide +kernel
theorem dX8_copy_34 : decode cX8_copy 34 = .ok (.aload_n 0, 1) := by decide +kernel
theorem dX8_copy_35 : decode cX8_copy 35 = .ok (.getfield 118, 3) := by decide +kernel
theorem dX8_copy_38 : decode cX8_copy 38 = .ok (.iload_n 1, 1) := by decide +kernel
theorem dX8_copy_39 : decode cX8_copy 39 = .ok (.iastore, 1) := by decide +kernel
theorem dX8_copy_40 : decode cX8_copy 40 = .ok (.aload_n 0, 1) := by decide +kernel
theorem dX8_copy_41 : decode cX8_copy 41 = .ok (.dup, 1) := by decide +kernel
theorem dX8_copy_42 : decode cX8_copy 42 = .ok (.getfield 118, 3) := by decide +kernel
theorem dX8_copy_45 : decode cX8_copy 45 = .ok (.iconst 1, 1) := by decide +kernel
theorem dX8_copy_46 : decode cX8_copy 46 = .ok (.iadd, 1) := by decide +kernel
theorem dX8_copy_47 : decode cX8_copy 47 = .ok (.putfield 118, 3) := by decide +kernel
theorem dX8_copy_50 : decode cX8_copy 50 = .ok (.aload_n 0, 1) := by decide +kernel
theorem dX8_copy_51 : decode cX8_copy 51 = .ok (.getfield 118, 3) := by decide +kernel
theorem dX8_copy_54 : decode cX8_copy 54 = .ok (.iconst 1, 1) := by decide +kernel
theorem dX8_copy_55 : decode cX8_copy 55 = .ok (.isub, 1) := by decide +kernel
theorem dX8_copy_56 : decode cX8_copy 56 = .ok (.ireturn, 1) := by decide +kernel
set_option maxRecDepth 20000 in
theorem ggX8_cameOf_X8_ones : GoodIn wsX8_cameOf wsX8_ones := goodIn_r _ [6] (by decide +kernel) (by decide +kernel)
set_option maxRecDepth 20000 in
theorem gX8_cameOf_X8_ones : GoodIn wsX8_cameOf (va_wsS RX8 147 yX8_ones wsX8_ones) := goodIn_app (goodIn_of _ (by decide +kernel)) ggX8_cameOf_X8_ones
theorem dX8_cameOf_0 : decode cX8_cameOf 0 = .ok (.bipush (-9), 2) := by decide +kernel
theorem dX8_cameOf_2 : decode cX8_cameOf 2 = .ok (.istore_n 2, 1) := by decide +kernel
theorem dX8_cameOf_3 : decode cX8_cameOf 3 = .ok (.iconst 0, 1) := by decide +kernel
theorem dX8_cameOf_4 : decode cX8_cameOf 4 = .ok (.istore_n 3, 1) := by decide +kernel
theorem dX8_cameOf_5 : decode cX8_cameOf 5 = .ok (.iload_n 3, 1) := by decide +kernel
theorem dX8_cameOf_6 : decode cX8_cameOf 6 = .ok (.aload_n 0, 1) := by decide +kernel
theorem dX8_cameOf_7 : decode cX8_cameOf 7 = .ok (.getfield 118, 3) := by decide +kernel
theorem dX8_cameOf_10 : decode cX8_cameOf 10 = .ok (.if_icmp .ge 97, 3) := by decide +kernel
theorem dX8_cameOf_13 : decode cX8_cameOf 13 = .ok (.iload_n 3, 1) := by decide +kernel
theorem dX8_cameOf_14 : decode cX8_cameOf 14 = .ok (.iload_n 1, 1) := by decide +kernel
theorem dX8_cameOf_15 : decode cX8_cameOf 15 = .ok (.if_icmp .eq 45, 3) := by decide +kernel
theorem dX8_cameOf_18 : decode cX8_cameOf 18 = .ok (.aload_n 0, 1) := by decide +kernel
theorem dX8_cameOf_19 : decode cX8_cameOf 19 = .ok (.getfield 29, 3) := by decide +kernel
theorem dX8_cameOf_22 : decode cX8_cameOf 22 = .ok (.iload_n 3, 1) := by decide +kernel
theorem dX8_cameOf_23 : decode cX8_cameOf 23 = .ok (.iaload, 1) := by decide +kernel
theorem dX8_cameOf_24 : decode cX8_cameOf 24 = .ok (.aload_n 0, 1) := by decide +kernel
theorem dX8_cameOf_25 : decode cX8_cameOf 25 = .ok (.getfield 29, 3) := by decide +kernel
theorem dX8_cameOf_28 : decode cX8_cameOf 28 = .ok (.iload_n 1, 1) := by decide +kernel
theorem dX8_cameOf_29 : decode cX8_cameOf 29 = .ok (.iaload, 1) := by decide +kernel
theorem dX8_cameOf_30 : decode cX8_cameOf 30 = .ok (.iconst (-1), 1) := by decide +kernel
theorem dX8_cameOf_31 : decode cX8_cameOf 31 = .ok (.ixor, 1) := by decide +kernel
theorem dX8_cameOf_32 : decode cX8_cameOf 32 = .ok (.iand, 1) := by decide +kernel
theorem dX8_cameOf_33 : decode cX8_cameOf 33 = .ok (.ifCond .ne 27, 3) := by decide +kernel
theorem dX8_cameOf_36 : decode cX8_cameOf 36 = .ok (.aload_n 0, 1) := by decide +kernel
theorem dX8_cameOf_37 : decode cX8_cameOf 37 = .ok (.getfield 29, 3) := by decide +kernel
theorem dX8_cameOf_40 : decode cX8_cameOf 40 = .ok (.iload_n 3, 1) := by decide +kernel
theorem dX8_cameOf_41 : decode cX8_cameOf 41 = .ok (.iaload, 1) := by decide +kernel
theorem dX8_cameOf_42 : decode cX8_cameOf 42 = .ok (.aload_n 0, 1) := by decide +kernel
theorem dX8_cameOf_43 : decode cX8_cameOf 43 = .ok (.getfield 29, 3) := by decide +kernel
theorem dX8_cameOf_46 : decode cX8_cameOf 46 = .ok (.iload_n 1, 1) := by decide +kernel
theorem dX8_cameOf_47 : decode cX8_cameOf 47 = .ok (.iaload, 1) := by decide +kernel
theorem dX8_cameOf_48 : decode cX8_cameOf 48 = .ok (.if_icmp .ne 8, 3) := by decide +kernel
theorem dX8_cameOf_51 : decode cX8_cameOf 51 = .ok (.iload_n 3, 1) := by decide +kernel
theorem dX8_cameOf_52 : decode cX8_cameOf 52 = .ok (.iload_n 1, 1) := by decide +kernel
theorem dX8_cameOf_53 : decode cX8_cameOf 53 = .ok (.if_icmp .ge 7, 3) := by decide +kernel
theorem dX8_cameOf_56 : decode cX8_cameOf 56 = .ok (.iconst 1, 1) := by decide +kernel
theorem dX8_cameOf_57 : decode cX8_cameOf 57 = .ok (.goto 4, 3) := by decide +kernel
theorem dX8_cameOf_60 : decode cX8_cameOf 60 = .ok (.iconst 0, 1) := by decide +kernel
theorem dX8_cameOf_61 : decode cX8_cameOf 61 = .ok (.istore 4, 2) := by decide +kernel
theorem dX8_cameOf_63 : decode cX8_cameOf 63 = .ok (.iload 4, 2) := by decide +kernel
theorem dX8_cameOf_65 : decode cX8_cameOf 65 = .ok (.ifCond .eq 34, 3) := by decide +kernel
theorem dX8_cameOf_68 : decode cX8_cameOf 68 = .ok (.iload_n 2, 1) := by decide +kernel
theorem dX8_cameOf_69 : decode cX8_cameOf 69 = .ok (.bipush (-9), 2) := by decide +kernel
theorem dX8_cameOf_71 : decode cX8_cameOf 71 = .ok (.if_icmp .eq 24, 3) := by decide +kernel
theorem dX8_cameOf_74 : decode cX8_cameOf 74 = .ok (.aload_n 0, 1) := by decide +kernel
theorem dX8_cameOf_75 : decode cX8_cameOf 75 = .ok (.getfield 29, 3) := by decide +kernel
theorem dX8_cameOf_78 : decode cX8_cameOf 78 = .ok (.iload_n 3, 1) := by decide +kernel
theorem dX8_cameOf_79 : decode cX8_cameOf 79 = .ok (.iaload, 1) := by decide +kernel
theorem dX8_cameOf_80 : decode cX8_cameOf 80 = .ok (.invokestatic 147, 3) := by decide +kernel
theorem dX8_cameOf_83 : decode cX8_cameOf 83 = .ok (.aload_n 0, 1) := by decide +kernel
theorem dX8_cameOf_84 : decode cX8_cameOf 84 = .ok (.getfield 29, 3) := by decide +kernel
theorem dX8_cameOf_87 : decode cX8_cameOf 87 = .ok (.iload_n 2, 1) := by decide +kernel
theorem dX8_cameOf_88 : decode cX8_cameOf 88 = .ok (.iaload, 1) := by decide +kernel
theorem dX8_cameOf_89 : decode cX8_cameOf 89 = .ok (.invokestatic 147, 3) := by decide +kernel
theorem dX8_cameOf_92 : decode cX8_cameOf 92 = .ok (.if_icmp .le 7, 3) := by decide +kernel
theorem dX8_cameOf_95 : decode cX8_cameOf 95 = .ok (.iload_n 3, 1) := by decide +kernel
theorem dX8_cameOf_96 : decode cX8_cameOf 96 = .ok (.goto 4, 3) := by decide +kernel
theorem dX8_cameOf_99 : decode cX8_cameOf 99 = .ok (.iload_n 2, 1) := by decide +kernel
theorem dX8_cameOf_100 : decode cX8_cameOf 100 = .ok (.istore_n 2, 1) := by decide +kernel
theorem dX8_cameOf_101 : decode cX8_cameOf 101 = .ok (.iinc 3 1, 3) := by decide +kernel
theorem dX8_cameOf_104 : decode cX8_cameOf 104 = .ok (.goto (-99), 3) := by decide +kernel
theorem dX8_cameOf_107 : decode cX8_cameOf 107 = .ok (.iload_n 2, 1) := by decide +kernel
theorem dX8_cameOf_108 : decode cX8_cameOf 108 = .ok (.ireturn, 1) := by decide +kernel
set_option maxRecDepth 20000 in
theorem ggX8_came_X8_in : GoodIn wsX8_came wsX8_in := goodIn_r _ [7] (by decide +kernel) (by decide +kernel)
set_option maxRecDepth 20000 in
theorem gX8_came_X8_in : GoodIn wsX8_came (va_wsS RX8 46 yX8_in wsX8_in) := goodIn_app (goodIn_of _ (by decide +kernel)) ggX8_came_X8_in
set_option maxRecDepth 20000 in
theorem ggX8_came_X8_cameOf : GoodIn wsX8_came wsX8_cameOf := goodIn_r _ [11, 2, 3, 12, 13, 6, 14, 15, 16, 17, 18, 19, 20, 21, 22, 23, 24, 25, 26, 27, 28, 29, 30, 31, 32, 33, 34, 35, 36, 37] (by decide +kernel) (by decide +kernel)
set_option maxRecDepth 20000 in
theorem gX8_came_X8_cameOf : GoodIn wsX8_came (wsV RX8 184 RX8 yX8_cameOf wsX8_cameOf) := goodIn_app (goodIn_of _ (by decide +kernel)) ggX8_came_X8_cameOf
theorem dX8_came_0 : decode cX8_came 0 = .ok (.aload_n 0, 1) := by decide +kernel
theorem dX8_came_1 : decode cX8_came 1 = .ok (.iconst 0, 1) := by decide +kernel
theorem dX8_came_2 : decode cX8_came 2 = .ok (.putfield 42, 3) := by decide +kernel
theorem dX8_came_5 : decode cX8_came 5 = .ok (.iload_n 1, 1) := by decide +kernel
theorem dX8_came_6 : decode cX8_came 6 = .ok (.iconst 0, 1) := by decide +kernel
theorem dX8_came_7 : decode cX8_came 7 = .ok (.aload_n 0, 1) := by decide +kernel
theorem dX8_came_8 : decode cX8_came 8 = .ok (.getfield 118, 3) := by decide +kernel
theorem dX8_came_11 : decode cX8_came 11 = .ok (.iconst 1, 1) := by decide +kernel
theorem dX8_came_12 : decode cX8_came 12 = .ok (.isub, 1) := by decide +kernel
theorem dX8_came_13 : decode cX8_came 13 = .ok (.invokestatic 46, 3) := by decide +kernel
theorem dX8_came_16 : decode cX8_came 16 = .ok (.ifCond .eq 12, 3) := by decide +kernel
theorem dX8_came_19 : decode cX8_came 19 = .ok (.iload_n 2, 1) := by decide +kernel
theorem dX8_came_20 : decode cX8_came 20 = .ok (.iconst 0, 1) := by decide +kernel
theorem dX8_came_21 : decode cX8_came 21 = .ok (.iconst 2, 1) := by decide +kernel
theorem dX8_came_22 : decode cX8_came 22 = .ok (.invokestatic 46, 3) := by decide +kernel
theorem dX8_came_25 : decode cX8_came 25 = .ok (.ifCond .ne 5, 3) := by decide +kernel
theorem dX8_came_28 : decode cX8_came 28 = .ok (.iconst (-1), 1) := by decide +kernel
theorem dX8_came_29 : decode cX8_came 29 = .ok (.ireturn, 1) := by decide +kernel
theorem dX8_came_30 : decode cX8_came 30 = .ok (.iload_n 2, 1) := by decide +kernel
theorem dX8_came_31 : decode cX8_came 31 = .ok (.iconst 2, 1) := by decide +kernel
theorem dX8_came_32 : decode cX8_came 32 = .ok (.if_icmp .ge 22, 3) := by decide +kernel
theorem dX8_came_35 : decode cX8_came 35 = .ok (.iload_n 2, 1) := by decide +kernel
theorem dX8_came_36 : decode cX8_came 36 = .ok (.ifCond .ne 12, 3) := by decide +kernel
theorem dX8_came_39 : decode cX8_came 39 = .ok (.aload_n 0, 1) := by decide +kernel
theorem dX8_came_40 : decode cX8_came 40 = .ok (.getfield 29, 3) := by decide +kernel
theorem dX8_came_43 : decode cX8_came 43 = .ok (.iload_n 1, 1) := by decide +kernel
theorem dX8_came_44 : decode cX8_came 44 = .ok (.iaload, 1) := by decide +kernel
theorem dX8_came_45 : decode cX8_came 45 = .ok (.goto 8, 3) := by decide +kernel
theorem dX8_came_48 : decode cX8_came 48 = .ok (.aload_n 0, 1) := by decide +kernel
theorem dX8_came_49 : decode cX8_came 49 = .ok (.iload_n 1, 1) := by decide +kernel
theorem dX8_came_50 : decode cX8_came 50 = .ok (.invokevirtual 184, 3) := by decide +kernel
theorem dX8_came_53 : decode cX8_came 53 = .ok (.ireturn, 1) := by decide +kernel
theorem dX8_came_54 : decode cX8_came 54 = .ok (.iconst 0, 1) := by decide +kernel
theorem dX8_came_55 : decode cX8_came 55 = .ok (.istore_n 3, 1) := by decide +kernel
theorem dX8_came_56 : decode cX8_came 56 = .ok (.aload_n 0, 1) := by decide +kernel
theorem dX8_came_57 : decode cX8_came 57 = .ok (.iload_n 1, 1) := by decide +kernel
theorem dX8_came_58 : decode cX8_came 58 = .ok (.invokevirtual 184, 3) := by decide +kernel
theorem dX8_came_61 : decode cX8_came 61 = .ok (.istore 4, 2) := by decide +kernel
theorem dX8_came_63 : decode cX8_came 63 = .ok (.iload 4, 2) := by decide +kernel
theorem dX8_came_65 : decode cX8_came 65 = .ok (.bipush (-9), 2) := by decide +kernel
theorem dX8_came_67 : decode cX8_came 67 = .ok (.if_icmp .eq 17, 3) := by decide +kernel
theorem dX8_came_70 : decode cX8_came 70 = .ok (.iinc 3 1, 3) := by decide +kernel
theorem dX8_came_73 : decode cX8_came 73 = .ok (.aload_n 0, 1) := by decide +kernel
theorem dX8_came_74 : decode cX8_came 74 = .ok (.iload 4, 2) := by decide +kernel
theorem dX8_came_76 : decode cX8_came 76 = .ok (.invokevirtual 184, 3) := by decide +kernel
theorem dX8_came_79 : decode cX8_came 79 = .ok (.istore 4, 2) := by decide +kernel
theorem dX8_came_81 : decode cX8_came 81 = .ok (.goto (-18), 3) := by decide +kernel
theorem dX8_came_84 : decode cX8_came 84 = .ok (.iload_n 3, 1) := by decide +kernel
theorem dX8_came_85 : decode cX8_came 85 = .ok (.ireturn, 1) := by decide +kernel
set_option maxRecDepth 20000 in
theorem ggX8_firsts_X8_cameOf : GoodIn wsX8_firsts wsX8_cameOf := goodIn_r _ [7, 2, 8, 9, 10, 6, 11, 12, 13, 14, 15, 16, 17, 18, 19, 20, 21, 22, 23, 24, 25, 26, 27, 28, 29, 30, 31, 32, 33, 34] (by decide +kernel) (by decide +kernel)
set_option maxRecDepth 20000 in
theorem gX8_firsts_X8_cameOf : GoodIn wsX8_firsts (wsV RX8 184 RX8 yX8_cameOf wsX8_cameOf) := goodIn_app (goodIn_of _ (by decide +kernel)) ggX8_firsts_X8_cameOf
theorem dX8_firsts_0 : decode cX8_firsts 0 = .ok (.aload_n 0, 1) := by decide +kernel
theorem dX8_firsts_1 : decode cX8_firsts 1 = .ok (.iconst 0, 1) := by decide +kernel
theorem dX8_firsts_2 : decode cX8_firsts 2 = .ok (.putfield 42, 3) := by decide +kernel
theorem dX8_firsts_5 : decode cX8_firsts 5 = .ok (.iconst 0, 1) := by decide +kernel
theorem dX8_firsts_6 : decode cX8_firsts 6 = .ok (.istore_n 1, 1) := by decide +kernel
theorem dX8_firsts_7 : decode cX8_firsts 7 = .ok (.iconst 0, 1) := by decide +kernel
theorem dX8_firsts_8 : decode cX8_firsts 8 = .ok (.istore_n 2, 1) := by decide +kernel
theorem dX8_firsts_9 : decode cX8_firsts 9 = .ok (.iload_n 2, 1) := by decide +kernel
theorem dX8_firsts_10 : decode cX8_firsts 10 = .ok (.aload_n 0, 1) := by decide +kernel
theorem dX8_firsts_11 : decode cX8_firsts 11 = .ok (.getfield 118, 3) := by decide +kernel
theorem dX8_firsts_14 : decode cX8_firsts 14 = .ok (.if_icmp .ge 29, 3) := by decide +kernel
theorem dX8_firsts_17 : decode cX8_firsts 17 = .ok (.iload_n 1, 1) := by decide +kernel
theorem dX8_firsts_18 : decode cX8_firsts 18 = .ok (.aload_n 0, 1) := by decide +kernel
theorem dX8_firsts_19 : decode cX8_firsts 19 = .ok (.iload_n 2, 1) := by decide +kernel
theorem dX8_firsts_20 : decode cX8_firsts 20 = .ok (.invokevirtual 184, 3) := by decide +kernel
theorem dX8_firsts_23 : decode cX8_firsts 23 = .ok (.bipush (-9), 2) := by decide +kernel
theorem dX8_firsts_25 : decode cX8_firsts 25 = .ok (.if_icmp .ne 9, 3) := by decide +kernel
theorem dX8_firsts_28 : decode cX8_firsts 28 = .ok (.iconst 1, 1) := by decide +kernel
theorem dX8_firsts_29 : decode cX8_firsts 29 = .ok (.iload_n 2, 1) := by decide +kernel
theorem dX8_firsts_30 : decode cX8_firsts 30 = .ok (.ishl, 1) := by decide +kernel
theorem dX8_firsts_31 : decode cX8_firsts 31 = .ok (.goto 4, 3) := by decide +kernel
theorem dX8_firsts_34 : decode cX8_firsts 34 = .ok (.iconst 0, 1) := by decide +kernel
theorem dX8_firsts_35 : decode cX8_firsts 35 = .ok (.ior, 1) := by decide +kernel
theorem dX8_firsts_36 : decode cX8_firsts 36 = .ok (.istore_n 1, 1) := by decide +kernel
theorem dX8_firsts_37 : decode cX8_firsts 37 = .ok (.iinc 2 1, 3) := by decide +kernel
theorem dX8_firsts_40 : decode cX8_firsts 40 = .ok (.goto (-31), 3) := by decide +kernel
theorem dX8_firsts_43 : decode cX8_firsts 43 = .ok (.iload_n 1, 1) := by decide +kernel
theorem dX8_firsts_44 : decode cX8_firsts 44 = .ok (.ireturn, 1) := by decide +kernel
theorem dX8_burn_0 : decode cX8_burn 0 = .ok (.aload_n 0, 1) := by decide +kernel
theorem dX8_burn_1 : decode cX8_burn 1 = .ok (.iconst 0, 1) := by decide +kernel
theorem dX8_burn_2 : decode cX8_burn 2 = .ok (.putfield 42, 3) := by decide +kernel
theorem dX8_burn_5 : decode cX8_burn 5 = .ok (.aload_n 0, 1) := by decide +kernel
theorem dX8_burn_6 : decode cX8_burn 6 = .ok (.getfield 118, 3) := by decide +kernel
theorem dX8_burn_9 : decode cX8_burn 9 = .ok (.istore_n 1, 1) := by decide +kernel
theorem dX8_burn_10 : decode cX8_burn 10 = .ok (.aload_n 0, 1) := by decide +kernel
theorem dX8_burn_11 : decode cX8_burn 11 = .ok (.iconst 0, 1) := by decide +kernel
theorem dX8_burn_12 : decode cX8_burn 12 = .ok (.putfield 118, 3) := by decide +kernel
theorem dX8_burn_15 : decode cX8_burn 15 = .ok (.iload_n 1, 1) := by decide +kernel
theorem dX8_burn_16 : decode cX8_burn 16 = .ok (.ireturn, 1) := by decide +kernel
set_option maxRecDepth 20000 in
theorem ggX8_rate_X8_in : GoodIn wsX8_rate wsX8_in := goodIn_r _ [13] (by decide +kernel) (by decide +kernel)
set_option maxRecDepth 20000 in
theorem gX8_rate_X8_in : GoodIn wsX8_rate (va_wsS RX8 46 yX8_in wsX8_in) := goodIn_app (goodIn_of _ (by decide +kernel)) ggX8_rate_X8_in
set_option maxRecDepth 20000 in
theorem ggX8_rate_X8_isClerk : GoodIn wsX8_rate wsX8_isClerk := goodIn_r _ [17, 18, 10, 11, 12, 13, 22, 23, 24, 25, 26, 27, 28, 29, 30, 31, 32, 33, 34, 35, 36, 37, 38, 39, 40, 41, 42, 43, 44] (by decide +kernel) (by decide +kernel)
set_option maxRecDepth 20000 in
theorem gX8_rate_X8_isClerk : GoodIn wsX8_rate (wsV RX8 121 RX8 yX8_isClerk wsX8_isClerk) := goodIn_app (goodIn_of _ (by decide +kernel)) ggX8_rate_X8_isClerk
set_option maxRecDepth 20000 in
theorem ggX8_rate_X8_ones : GoodIn wsX8_rate wsX8_ones := goodIn_r _ [21] (by decide +kernel) (by decide +kernel)
set_option maxRecDepth 20000 in
theorem gX8_rate_X8_ones : GoodIn wsX8_rate (va_wsS RX8 147 yX8_ones wsX8_ones) := goodIn_app (goodIn_of _ (by decide +kernel)) ggX8_rate_X8_ones
theorem dX8_rate_0 : decode cX8_rate 0 = .ok (.aload_n 0, 1) := by decide +kernel
theorem dX8_rate_1 : decode cX8_rate 1 = .ok (.iconst 0, 1) := by decide +kernel
theorem dX8_rate_2 : decode cX8_rate 2 = .ok (.putfield 42, 3) := by decide +kernel
theorem dX8_rate_5 : decode cX8_rate 5 = .ok (.iload_n 1, 1) := by decide +kernel
theorem dX8_rate_6 : decode cX8_rate 6 = .ok (.iconst 0, 1) := by decide +kernel
theorem dX8_rate_7 : decode cX8_rate 7 = .ok (.iconst 5, 1) := by decide +kernel
theorem dX8_rate_8 : decode cX8_rate 8 = .ok (.invokestatic 46, 3) := by decide +kernel
theorem dX8_rate_11 : decode cX8_rate 11 = .ok (.ifCond .eq 11, 3) := by decide +kernel
theorem dX8_rate_14 : decode cX8_rate 14 = .ok (.aload_n 0, 1) := by decide +kernel
theorem dX8_rate_15 : decode cX8_rate 15 = .ok (.iload_n 2, 1) := by decide +kernel
theorem dX8_rate_16 : decode cX8_rate 16 = .ok (.invokevirtual 121, 3) := by decide +kernel
theorem dX8_rate_19 : decode cX8_rate 19 = .ok (.ifCond .ne 6, 3) := by decide +kernel
theorem dX8_rate_22 : decode cX8_rate 22 = .ok (.ldc 187, 2) := by decide +kernel
theorem dX8_rate_24 : decode cX8_rate 24 = .ok (.ireturn, 1) := by decide +kernel
theorem dX8_rate_25 : decode cX8_rate 25 = .ok (.aload_n 0, 1) := by decide +kernel
theorem dX8_rate_26 : decode cX8_rate 26 = .ok (.getfield 13, 3) := by decide +kernel
theorem dX8_rate_29 : decode cX8_rate 29 = .ok (.iconst 4, 1) := by decide +kernel
theorem dX8_rate_30 : decode cX8_rate 30 = .ok (.iload_n 2, 1) := by decide +kernel
theorem dX8_rate_31 : decode cX8_rate 31 = .ok (.imul, 1) := by decide +kernel
theorem dX8_rate_32 : decode cX8_rate 32 = .ok (.iaload, 1) := by decide +kernel
theorem dX8_rate_33 : decode cX8_rate 33 = .ok (.iconst 4, 1) := by decide +kernel
theorem dX8_rate_34 : decode cX8_rate 34 = .ok (.isub, 1) := by decide +kernel
theorem dX8_rate_35 : decode cX8_rate 35 = .ok (.istore_n 3, 1) := by decide +kernel
theorem dX8_rate_36 : decode cX8_rate 36 = .ok (.iload_n 3, 1) := by decide +kernel
theorem dX8_rate_37 : decode cX8_rate 37 = .ok (.aload_n 0, 1) := by decide +kernel
theorem dX8_rate_38 : decode cX8_rate 38 = .ok (.getfield 13, 3) := by decide +kernel
theorem dX8_rate_41 : decode cX8_rate 41 = .ok (.iconst 4, 1) := by decide +kernel
theorem dX8_rate_42 : decode cX8_rate 42 = .ok (.iload_n 2, 1) := by decide +kernel
theorem dX8_rate_43 : decode cX8_rate 43 = .ok (.imul, 1) := by decide +kernel
theorem dX8_rate_44 : decode cX8_rate 44 = .ok (.iconst 1, 1) := by decide +kernel
theorem dX8_rate_45 : decode cX8_rate 45 = .ok (.iadd, 1) := by decide +kernel
theorem dX8_rate_46 : decode cX8_rate 46 = .ok (.iaload, 1) := by decide +kernel
theorem dX8_rate_47 : decode cX8_rate 47 = .ok (.invokestatic 147, 3) := by decide +kernel
theorem dX8_rate_50 : decode cX8_rate 50 = .ok (.iadd, 1) := by decide +kernel
theorem dX8_rate_51 : decode cX8_rate 51 = .ok (.istore 4, 2) := by decide +kernel
theorem dX8_rate_53 : decode cX8_rate 53 = .ok (.iload_n 3, 1) := by decide +kernel
theorem dX8_rate_54 : decode cX8_rate 54 = .ok (.aload_n 0, 1) := by decide +kernel
theorem dX8_rate_55 : decode cX8_rate 55 = .ok (.getfield 13, 3) := by decide +kernel
theorem dX8_rate_58 : decode cX8_rate 58 = .ok (.iconst 4, 1) := by decide +kernel
theorem dX8_rate_59 : decode cX8_rate 59 = .ok (.iload_n 2, 1) := by decide +kernel
theorem dX8_rate_60 : decode cX8_rate 60 = .ok (.imul, 1) := by decide +kernel
theorem dX8_rate_61 : decode cX8_rate 61 = .ok (.iconst 2, 1) := by decide +kernel
theorem dX8_rate_62 : decode cX8_rate 62 = .ok (.iadd, 1) := by decide +kernel
theorem dX8_rate_63 : decode cX8_rate 63 = .ok (.iaload, 1) := by decide +kernel
theorem dX8_rate_64 : decode cX8_rate 64 = .ok (.invokestatic 147, 3) := by decide +kernel
theorem dX8_rate_67 : decode cX8_rate 67 = .ok (.isub, 1) := by decide +kernel
theorem dX8_rate_68 : decode cX8_rate 68 = .ok (.istore 5, 2) := by decide +kernel
theorem dX8_rate_70 : decode cX8_rate 70 = .ok (.aload_n 0, 1) := by decide +kernel
theorem dX8_rate_71 : decode cX8_rate 71 = .ok (.dup, 1) := by decide +kernel
theorem dX8_rate_72 : decode cX8_rate 72 = .ok (.getfield 188, 3) := by decide +kernel
theorem dX8_rate_75 : decode cX8_rate 75 = .ok (.iload_n 1, 1) := by decide +kernel
theorem dX8_rate_76 : decode cX8_rate 76 = .ok (.ifCond .ne 7, 3) := by decide +kernel
theorem dX8_rate_79 : decode cX8_rate 79 = .ok (.lconst 1, 1) := by decide +kernel
theorem dX8_rate_80 : decode cX8_rate 80 = .ok (.goto 50, 3) := by decide +kernel
theorem dX8_rate_83 : decode cX8_rate 83 = .ok (.iload_n 1, 1) := by decide +kernel
theorem dX8_rate_84 : decode cX8_rate 84 = .ok (.iconst 1, 1) := by decide +kernel
theorem dX8_rate_85 : decode cX8_rate 85 = .ok (.if_icmp .ne 9, 3) := by decide +kernel
theorem dX8_rate_88 : decode cX8_rate 88 = .ok (.ldc2_w 192, 3) := by decide +kernel
theorem dX8_rate_91 : decode cX8_rate 91 = .ok (.goto 39, 3) := by decide +kernel
theorem dX8_rate_94 : decode cX8_rate 94 = .ok (.iload_n 1, 1) := by decide +kernel
theorem dX8_rate_95 : decode cX8_rate 95 = .ok (.iconst 2, 1) := by decide +kernel
theorem dX8_rate_96 : decode cX8_rate 96 = .ok (.if_icmp .ne 9, 3) := by decide +kernel
theorem dX8_rate_99 : decode cX8_rate 99 = .ok (.ldc2_w 194, 3) := by decide +kernel
theorem dX8_rate_102 : decode cX8_rate 102 = .ok (.goto 28, 3) := by decide +kernel
theorem dX8_rate_105 : decode cX8_rate 105 = .ok (.iload_n 1, 1) := by decide +kernel
theorem dX8_rate_106 : decode cX8_rate 106 = .ok (.iconst 3, 1) := by decide +kernel
theorem dX8_rate_107 : decode cX8_rate 107 = .ok (.if_icmp .ne 9, 3) := by decide +kernel
theorem dX8_rate_110 : decode cX8_rate 110 = .ok (.ldc2_w 196, 3) := by decide +kernel
theorem dX8_rate_113 : decode cX8_rate 113 = .ok (.goto 17, 3) := by decide +kernel
theorem dX8_rate_116 : decode cX8_rate 116 = .ok (.iload_n 1, 1) := by decide +kernel
theorem dX8_rate_117 : decode cX8_rate 117 = .ok (.iconst 4, 1) := by decide +kernel
theorem dX8_rate_118 : decode cX8_rate 118 = .ok (.if_icmp .ne 9, 3) := by decide +kernel
theorem dX8_rate_121 : decode cX8_rate 121 = .ok (.ldc2_w 198, 3) := by decide +kernel
theorem dX8_rate_124 : decode cX8_rate 124 = .ok (.goto 6, 3) := by decide +kernel
theorem dX8_rate_127 : decode cX8_rate 127 = .ok (.ldc2_w 200, 3) := by decide +kernel
theorem dX8_rate_130 : decode cX8_rate 130 = .ok (.ladd, 1) := by decide +kernel
theorem dX8_rate_131 : decode cX8_rate 131 = .ok (.putfield 188, 3) := by decide +kernel
theorem dX8_rate_134 : decode cX8_rate 134 = .ok (.iload_n 1, 1) := by decide +kernel
theorem dX8_rate_135 : decode cX8_rate 135 = .ok (.ifCond .ne 7, 3) := by decide +kernel
theorem dX8_rate_138 : decode cX8_rate 138 = .ok (.iload_n 3, 1) := by decide +kernel
theorem dX8_rate_139 : decode cX8_rate 139 = .ok (.goto 62, 3) := by decide +kernel
theorem dX8_rate_142 : decode cX8_rate 142 = .ok (.iload_n 1, 1) := by decide +kernel
theorem dX8_rate_143 : decode cX8_rate 143 = .ok (.iconst 1, 1) := by decide +kernel
theorem dX8_rate_144 : decode cX8_rate 144 = .ok (.if_icmp .ne 8, 3) := by decide +kernel
theorem dX8_rate_147 : decode cX8_rate 147 = .ok (.iload 4, 2) := by decide +kernel
theorem dX8_rate_149 : decode cX8_rate 149 = .ok (.goto 52, 3) := by decide +kernel
theorem dX8_rate_152 : decode cX8_rate 152 = .ok (.iload_n 1, 1) := by decide +kernel
theorem dX8_rate_153 : decode cX8_rate 153 = .ok (.iconst 2, 1) := by decide +kernel
theorem dX8_rate_154 : decode cX8_rate 154 = .ok (.if_icmp .ne 8, 3) := by decide +kernel
theorem dX8_rate_157 : decode cX8_rate 157 = .ok (.iload 5, 2) := by decide +kernel
theorem dX8_rate_159 : decode cX8_rate 159 = .ok (.goto 42, 3) := by decide +kernel
theorem dX8_rate_162 : decode cX8_rate 162 = .ok (.iload_n 1, 1) := by decide +kernel
theorem dX8_rate_163 : decode cX8_rate 163 = .ok (.iconst 3, 1) := by decide +kernel
theorem dX8_rate_164 : decode cX8_rate 164 = .ok (.if_icmp .ne 10, 3) := by decide +kernel
theorem dX8_rate_167 : decode cX8_rate 167 = .ok (.iconst 2, 1) := by decide +kernel
theorem dX8_rate_168 : decode cX8_rate 168 = .ok (.iload 4, 2) := by decide +kernel
theorem dX8_rate_170 : decode cX8_rate 170 = .ok (.imul, 1) := by decide +kernel
theorem dX8_rate_171 : decode cX8_rate 171 = .ok (.goto 30, 3) := by decide +kernel
theorem dX8_rate_174 : decode cX8_rate 174 = .ok (.iload_n 1, 1) := by decide +kernel
theorem dX8_rate_175 : decode cX8_rate 175 = .ok (.iconst 4, 1) := by decide +kernel
theorem dX8_rate_176 : decode cX8_rate 176 = .ok (.if_icmp .ne 10, 3) := by decide +kernel
theorem dX8_rate_179 : decode cX8_rate 179 = .ok (.iload 5, 2) := by decide +kernel
theorem dX8_rate_181 : decode cX8_rate 181 = .ok (.iload_n 2, 1) := by decide +kernel
theorem dX8_rate_182 : decode cX8_rate 182 = .ok (.iadd, 1) := by decide +kernel
theorem dX8_rate_183 : decode cX8_rate 183 = .ok (.goto 18, 3) := by decide +kernel
theorem dX8_rate_186 : decode cX8_rate 186 = .ok (.iload_n 3, 1) := by decide +kernel
theorem dX8_rate_187 : decode cX8_rate 187 = .ok (.bipush 10, 2) := by decide +kernel
theorem dX8_rate_189 : decode cX8_rate 189 = .ok (.iadd, 1) := by decide +kernel
theorem dX8_rate_190 : decode cX8_rate 190 = .ok (.aload_n 0, 1) := by decide +kernel
theorem dX8_rate_191 : decode cX8_rate 191 = .ok (.getfield 13, 3) := by decide +kernel
theorem dX8_rate_194 : decode cX8_rate 194 = .ok (.iconst 4, 1) := by decide +kernel
theorem dX8_rate_195 : decode cX8_rate 195 = .ok (.iload_n 2, 1) := by decide +kernel
theorem dX8_rate_196 : decode cX8_rate 196 = .ok (.imul, 1) := by decide +kernel
theorem dX8_rate_197 : decode cX8_rate 197 = .ok (.iconst 3, 1) := by decide +kernel
theorem dX8_rate_198 : decode cX8_rate 198 = .ok (.iadd, 1) := by decide +kernel
theorem dX8_rate_199 : decode cX8_rate 199 = .ok (.iaload, 1) := by decide +kernel
theorem dX8_rate_200 : decode cX8_rate 200 = .ok (.isub, 1) := by decide +kernel
theorem dX8_rate_201 : decode cX8_rate 201 = .ok (.ireturn, 1) := by decide +kernel
set_option maxRecDepth 20000 in
theorem ggX8_keep_X8_in : GoodIn wsX8_keep wsX8_in := goodIn_r _ [8] (by decide +kernel) (by decide +kernel)
set_option maxRecDepth 20000 in
theorem gX8_keep_X8_in : GoodIn wsX8_keep (va_wsS RX8 46 yX8_in wsX8_in) := goodIn_app (goodIn_of _ (by decide +kernel)) ggX8_keep_X8_in
theorem dX8_keep_0 : decode cX8_keep 0 = .ok (.aload_n 0, 1) := by decide +kernel
theorem dX8_keep_1 : decode cX8_keep 1 = .ok (.iconst 0, 1) := by decide +kernel
theorem dX8_keep_2 : decode cX8_keep 2 = .ok (.putfield 42, 3) := by decide +kernel
theorem dX8_keep_5 : decode cX8_keep 5 = .ok (.iload_n 1, 1) := by decide +kernel
theorem dX8_keep_6 : decode cX8_keep 6 = .ok (.iconst 0, 1) := by decide +kernel
theorem dX8_keep_7 : decode cX8_keep 7 = .ok (.iconst 1, 1) := by decide +kernel
theorem dX8_keep_8 : decode cX8_keep 8 = .ok (.invokestatic 46, 3) := by decide +kernel
theorem dX8_keep_11 : decode cX8_keep 11 = .ok (.ifCond .ne 5, 3) := by decide +kernel
theorem dX8_keep_14 : decode cX8_keep 14 = .ok (.iconst (-1), 1) := by decide +kernel
theorem dX8_keep_15 : decode cX8_keep 15 = .ok (.ireturn, 1) := by decide +kernel
theorem dX8_keep_16 : decode cX8_keep 16 = .ok (.iconst 0, 1) := by decide +kernel
theorem dX8_keep_17 : decode cX8_keep 17 = .ok (.istore_n 2, 1) := by decide +kernel
theorem dX8_keep_18 : decode cX8_keep 18 = .ok (.iload_n 2, 1) := by decide +kernel
theorem dX8_keep_19 : decode cX8_keep 19 = .ok (.bipush 22, 2) := by decide +kernel
theorem dX8_keep_21 : decode cX8_keep 21 = .ok (.if_icmp .ge 26, 3) := by decide +kernel
theorem dX8_keep_24 : decode cX8_keep 24 = .ok (.aload_n 0, 1) := by decide +kernel
theorem dX8_keep_25 : decode cX8_keep 25 = .ok (.getfield 19, 3) := by decide +kernel
theorem dX8_keep_28 : decode cX8_keep 28 = .ok (.bipush 22, 2) := by decide +kernel
theorem dX8_keep_30 : decode cX8_keep 30 = .ok (.iload_n 1, 1) := by decide +kernel
theorem dX8_keep_31 : decode cX8_keep 31 = .ok (.imul, 1) := by decide +kernel
theorem dX8_keep_32 : decode cX8_keep 32 = .ok (.iload_n 2, 1) := by decide +kernel
theorem dX8_keep_33 : decode cX8_keep 33 = .ok (.iadd, 1) := by decide +kernel
theorem dX8_keep_34 : decode cX8_keep 34 = .ok (.aload_n 0, 1) := by decide +kernel
theorem dX8_keep_35 : decode cX8_keep 35 = .ok (.getfield 16, 3) := by decide +kernel
theorem dX8_keep_38 : decode cX8_keep 38 = .ok (.iload_n 2, 1) := by decide +kernel
theorem dX8_keep_39 : decode cX8_keep 39 = .ok (.iaload, 1) := by decide +kernel
theorem dX8_keep_40 : decode cX8_keep 40 = .ok (.iastore, 1) := by decide +kernel
theorem dX8_keep_41 : decode cX8_keep 41 = .ok (.iinc 2 1, 3) := by decide +kernel
theorem dX8_keep_44 : decode cX8_keep 44 = .ok (.goto (-26), 3) := by decide +kernel
theorem dX8_keep_47 : decode cX8_keep 47 = .ok (.aload_n 0, 1) := by decide +kernel
theorem dX8_keep_48 : decode cX8_keep 48 = .ok (.getfield 22, 3) := by decide +kernel
theorem dX8_keep_51 : decode cX8_keep 51 = .ok (.iload_n 1, 1) := by decide +kernel
theorem dX8_keep_52 : decode cX8_keep 52 = .ok (.iconst 1, 1) := by decide +kernel
theorem dX8_keep_53 : decode cX8_keep 53 = .ok (.bastore, 1) := by decide +kernel
theorem dX8_keep_54 : decode cX8_keep 54 = .ok (.aload_n 0, 1) := by decide +kernel
theorem dX8_keep_55 : decode cX8_keep 55 = .ok (.getfield 16, 3) := by decide +kernel
theorem dX8_keep_58 : decode cX8_keep 58 = .ok (.bipush 20, 2) := by decide +kernel
theorem dX8_keep_60 : decode cX8_keep 60 = .ok (.iaload, 1) := by decide +kernel
theorem dX8_keep_61 : decode cX8_keep 61 = .ok (.ireturn, 1) := by decide +kernel
set_option maxRecDepth 20000 in
theorem ggX8_back_X8_in : GoodIn wsX8_back wsX8_in := goodIn_r _ [8] (by decide +kernel) (by decide +kernel)
set_option maxRecDepth 20000 in
theorem gX8_back_X8_in : GoodIn wsX8_back (va_wsS RX8 46 yX8_in wsX8_in) := goodIn_app (goodIn_of _ (by decide +kernel)) ggX8_back_X8_in
theorem dX8_back_0 : decode cX8_back 0 = .ok (.aload_n 0, 1) := by decide +kernel
theorem dX8_back_1 : decode cX8_back 1 = .ok (.iconst 0, 1) := by decide +kernel
theorem dX8_back_2 : decode cX8_back 2 = .ok (.putfield 42, 3) := by decide +kernel
theorem dX8_back_5 : decode cX8_back 5 = .ok (.iload_n 1, 1) := by decide +kernel
theorem dX8_back_6 : decode cX8_back 6 = .ok (.iconst 0, 1) := by decide +kernel
theorem dX8_back_7 : decode cX8_back 7 = .ok (.iconst 1, 1) := by decide +kernel
theorem dX8_back_8 : decode cX8_back 8 = .ok (.invokestatic 46, 3) := by decide +kernel
theorem dX8_back_11 : decode cX8_back 11 = .ok (.ifCond .ne 5, 3) := by decide +kernel
theorem dX8_back_14 : decode cX8_back 14 = .ok (.iconst (-1), 1) := by decide +kernel
theorem dX8_back_15 : decode cX8_back 15 = .ok (.ireturn, 1) := by decide +kernel
theorem dX8_back_16 : decode cX8_back 16 = .ok (.aload_n 0, 1) := by decide +kernel
theorem dX8_back_17 : decode cX8_back 17 = .ok (.getfield 22, 3) := by decide +kernel
theorem dX8_back_20 : decode cX8_back 20 = .ok (.iload_n 1, 1) := by decide +kernel
theorem dX8_back_21 : decode cX8_back 21 = .ok (.baload, 1) := by decide +kernel
theorem dX8_back_22 : decode cX8_back 22 = .ok (.ifCond .ne 6, 3) := by decide +kernel
theorem dX8_back_25 : decode cX8_back 25 = .ok (.bipush (-2), 2) := by decide +kernel
theorem dX8_back_27 : decode cX8_back 27 = .ok (.ireturn, 1) := by decide +kernel
theorem dX8_back_28 : decode cX8_back 28 = .ok (.iconst 0, 1) := by decide +kernel
theorem dX8_back_29 : decode cX8_back 29 = .ok (.istore_n 2, 1) := by decide +kernel
theorem dX8_back_30 : decode cX8_back 30 = .ok (.iload_n 2, 1) := by decide +kernel
theorem dX8_back_31 : decode cX8_back 31 = .ok (.bipush 22, 2) := by decide +kernel
theorem dX8_back_33 : decode cX8_back 33 = .ok (.if_icmp .ge 26, 3) := by decide +kernel
theorem dX8_back_36 : decode cX8_back 36 = .ok (.aload_n 0, 1) := by decide +kernel
theorem dX8_back_37 : decode cX8_back 37 = .ok (.getfield 16, 3) := by decide +kernel
theorem dX8_back_40 : decode cX8_back 40 = .ok (.iload_n 2, 1) := by decide +kernel
theorem dX8_back_41 : decode cX8_back 41 = .ok (.aload_n 0, 1) := by decide +kernel
theorem dX8_back_42 : decode cX8_back 42 = .ok (.getfield 19, 3) := by decide +kernel
theorem dX8_back_45 : decode cX8_back 45 = .ok (.bipush 22, 2) := by decide +kernel
theorem dX8_back_47 : decode cX8_back 47 = .ok (.iload_n 1, 1) := by decide +kernel
theorem dX8_back_48 : decode cX8_back 48 = .ok (.imul, 1) := by decide +kernel
theorem dX8_back_49 : decode cX8_back 49 = .ok (.iload_n 2, 1) := by decide +kernel
theorem dX8_back_50 : decode cX8_back 50 = .ok (.iadd, 1) := by decide +kernel
theorem dX8_back_51 : decode cX8_back 51 = .ok (.iaload, 1) := by decide +kernel
theorem dX8_back_52 : decode cX8_back 52 = .ok (.iastore, 1) := by decide +kernel
theorem dX8_back_53 : decode cX8_back 53 = .ok (.iinc 2 1, 3) := by decide +kernel
theorem dX8_back_56 : decode cX8_back 56 = .ok (.goto (-26), 3) := by decide +kernel
theorem dX8_back_59 : decode cX8_back 59 = .ok (.aload_n 0, 1) := by decide +kernel
theorem dX8_back_60 : decode cX8_back 60 = .ok (.getfield 16, 3) := by decide +kernel
theorem dX8_back_63 : decode cX8_back 63 = .ok (.bipush 20, 2) := by decide +kernel
theorem dX8_back_65 : decode cX8_back 65 = .ok (.iaload, 1) := by decide +kernel
theorem dX8_back_66 : decode cX8_back 66 = .ok (.ireturn, 1) := by decide +kernel
theorem dX8_count_0 : decode cX8_count 0 = .ok (.aload_n 0, 1) := by decide +kernel
theorem dX8_count_1 : decode cX8_count 1 = .ok (.iconst 0, 1) := by decide +kernel
theorem dX8_count_2 : decode cX8_count 2 = .ok (.putfield 42, 3) := by decide +kernel
theorem dX8_count_5 : decode cX8_count 5 = .ok (.iload_n 1, 1) := by decide +kernel
theorem dX8_count_6 : decode cX8_count 6 = .ok (.ifCond .ne 10, 3) := by decide +kernel
theorem dX8_count_9 : decode cX8_count 9 = .ok (.aload_n 0, 1) := by decide +kernel
theorem dX8_count_10 : decode cX8_count 10 = .ok (.getfield 112, 3) := by decide +kernel
theorem dX8_count_13 : decode cX8_count 13 = .ok (.goto 55, 3) := by decide +kernel
theorem dX8_count_16 : decode cX8_count 16 = .ok (.iload_n 1, 1) := by decide +kernel
theorem dX8_count_17 : decode cX8_count 17 = .ok (.iconst 1, 1) := by decide +kernel
theorem dX8_count_18 : decode cX8_count 18 = .ok (.if_icmp .ne 13, 3) := by decide +kernel
theorem dX8_count_21 : decode cX8_count 21 = .ok (.aload_n 0, 1) := by decide +kernel
theorem dX8_count_22 : decode cX8_count 22 = .ok (.getfield 16, 3) := by decide +kernel
theorem dX8_count_25 : decode cX8_count 25 = .ok (.bipush 20, 2) := by decide +kernel
theorem dX8_count_27 : decode cX8_count 27 = .ok (.iaload, 1) := by decide +kernel
theorem dX8_count_28 : decode cX8_count 28 = .ok (.goto 40, 3) := by decide +kernel
theorem dX8_count_31 : decode cX8_count 31 = .ok (.iload_n 1, 1) := by decide +kernel
theorem dX8_count_32 : decode cX8_count 32 = .ok (.iconst 2, 1) := by decide +kernel
theorem dX8_count_33 : decode cX8_count 33 = .ok (.if_icmp .ne 10, 3) := by decide +kernel
theorem dX8_count_36 : decode cX8_count 36 = .ok (.aload_n 0, 1) := by decide +kernel
theorem dX8_count_37 : decode cX8_count 37 = .ok (.getfield 115, 3) := by decide +kernel
theorem dX8_count_40 : decode cX8_count 40 = .ok (.goto 28, 3) := by decide +kernel
theorem dX8_count_43 : decode cX8_count 43 = .ok (.iload_n 1, 1) := by decide +kernel
theorem dX8_count_44 : decode cX8_count 44 = .ok (.iconst 3, 1) := by decide +kernel
theorem dX8_count_45 : decode cX8_count 45 = .ok (.if_icmp .ne 10, 3) := by decide +kernel
theorem dX8_count_48 : decode cX8_count 48 = .ok (.aload_n 0, 1) := by decide +kernel
theorem dX8_count_49 : decode cX8_count 49 = .ok (.getfield 118, 3) := by decide +kernel
theorem dX8_count_52 : decode cX8_count 52 = .ok (.goto 16, 3) := by decide +kernel
theorem dX8_count_55 : decode cX8_count 55 = .ok (.iload_n 1, 1) := by decide +kernel
theorem dX8_count_56 : decode cX8_count 56 = .ok (.iconst 4, 1) := by decide +kernel
theorem dX8_count_57 : decode cX8_count 57 = .ok (.if_icmp .ne 10, 3) := by decide +kernel
theorem dX8_count_60 : decode cX8_count 60 = .ok (.aload_n 0, 1) := by decide +kernel
theorem dX8_count_61 : decode cX8_count 61 = .ok (.getfield 50, 3) := by decide +kernel
theorem dX8_count_64 : decode cX8_count 64 = .ok (.goto 4, 3) := by decide +kernel
theorem dX8_count_67 : decode cX8_count 67 = .ok (.iconst (-1), 1) := by decide +kernel
theorem dX8_count_68 : decode cX8_count 68 = .ok (.ireturn, 1) := by decide +kernel
theorem dX8_trace_0 : decode cX8_trace 0 = .ok (.aload_n 0, 1) := by decide +kernel
theorem dX8_trace_1 : decode cX8_trace 1 = .ok (.iconst 0, 1) := by decide +kernel
theorem dX8_trace_2 : decode cX8_trace 2 = .ok (.putfield 42, 3) := by decide +kernel
theorem dX8_trace_5 : decode cX8_trace 5 = .ok (.aload_n 0, 1) := by decide +kernel
theorem dX8_trace_6 : decode cX8_trace 6 = .ok (.getfield 188, 3) := by decide +kernel
theorem dX8_trace_9 : decode cX8_trace 9 = .ok (.lreturn, 1) := by decide +kernel
theorem dJ6_bitCount_0f7a4_0 : decode cJ6_bitCount_0f7a4 0 = .ok (.iload_n 0, 1) := by decide +kernel
theorem dJ6_bitCount_0f7a4_1 : decode cJ6_bitCount_0f7a4 1 = .ok (.iload_n 0, 1) := by decide +kernel
theorem dJ6_bitCount_0f7a4_2 : decode cJ6_bitCount_0f7a4 2 = .ok (.iconst 1, 1) := by decide +kernel
theorem dJ6_bitCount_0f7a4_3 : decode cJ6_bitCount_0f7a4 3 = .ok (.iushr, 1) := by decide +kernel
theorem dJ6_bitCount_0f7a4_4 : decode cJ6_bitCount_0f7a4 4 = .ok (.ldc_w 265, 3) := by decide +kernel
theorem dJ6_bitCount_0f7a4_7 : decode cJ6_bitCount_0f7a4 7 = .ok (.iand, 1) := by decide +kernel
theorem dJ6_bitCount_0f7a4_8 : decode cJ6_bitCount_0f7a4 8 = .ok (.isub, 1) := by decide +kernel
theorem dJ6_bitCount_0f7a4_9 : decode cJ6_bitCount_0f7a4 9 = .ok (.istore_n 0, 1) := by decide +kernel
theorem dJ6_bitCount_0f7a4_10 : decode cJ6_bitCount_0f7a4 10 = .ok (.iload_n 0, 1) := by decide +kernel
theorem dJ6_bitCount_0f7a4_11 : decode cJ6_bitCount_0f7a4 11 = .ok (.ldc_w 266, 3) := by decide +kernel
theorem dJ6_bitCount_0f7a4_14 : decode cJ6_bitCount_0f7a4 14 = .ok (.iand, 1) := by decide +kernel
theorem dJ6_bitCount_0f7a4_15 : decode cJ6_bitCount_0f7a4 15 = .ok (.iload_n 0, 1) := by decide +kernel
theorem dJ6_bitCount_0f7a4_16 : decode cJ6_bitCount_0f7a4 16 = .ok (.iconst 2, 1) := by decide +kernel
theorem dJ6_bitCount_0f7a4_17 : decode cJ6_bitCount_0f7a4 17 = .ok (.iushr, 1) := by decide +kernel
theorem dJ6_bitCount_0f7a4_18 : decode cJ6_bitCount_0f7a4 18 = .ok (.ldc_w 266, 3) := by decide +kernel
theorem dJ6_bitCount_0f7a4_21 : decode cJ6_bitCount_0f7a4 21 = .ok (.iand, 1) := by decide +kernel
theorem dJ6_bitCount_0f7a4_22 : decode cJ6_bitCount_0f7a4 22 = .ok (.iadd, 1) := by decide +kernel
theorem dJ6_bitCount_0f7a4_23 : decode cJ6_bitCount_0f7a4 23 = .ok (.istore_n 0, 1) := by decide +kernel
theorem dJ6_bitCount_0f7a4_24 : decode cJ6_bitCount_0f7a4 24 = .ok (.iload_n 0, 1) := by decide +kernel
theorem dJ6_bitCount_0f7a4_25 : decode cJ6_bitCount_0f7a4 25 = .ok (.iload_n 0, 1) := by decide +kernel
theorem dJ6_bitCount_0f7a4_26 : decode cJ6_bitCount_0f7a4 26 = .ok (.iconst 4, 1) := by decide +kernel
theorem dJ6_bitCount_0f7a4_27 : decode cJ6_bitCount_0f7a4 27 = .ok (.iushr, 1) := by decide +kernel
theorem dJ6_bitCount_0f7a4_28 : decode cJ6_bitCount_0f7a4 28 = .ok (.iadd, 1) := by decide +kernel
theorem dJ6_bitCount_0f7a4_29 : decode cJ6_bitCount_0f7a4 29 = .ok (.ldc_w 267, 3) := by decide +kernel
theorem dJ6_bitCount_0f7a4_32 : decode cJ6_bitCount_0f7a4 32 = .ok (.iand, 1) := by decide +kernel
theorem dJ6_bitCount_0f7a4_33 : decode cJ6_bitCount_0f7a4 33 = .ok (.istore_n 0, 1) := by decide +kernel
theorem dJ6_bitCount_0f7a4_34 : decode cJ6_bitCount_0f7a4 34 = .ok (.iload_n 0, 1) := by decide +kernel
theorem dJ6_bitCount_0f7a4_35 : decode cJ6_bitCount_0f7a4 35 = .ok (.iload_n 0, 1) := by decide +kernel
theorem dJ6_bitCount_0f7a4_36 : decode cJ6_bitCount_0f7a4 36 = .ok (.bipush 8, 2) := by decide +kernel
theorem dJ6_bitCount_0f7a4_38 : decode cJ6_bitCount_0f7a4 38 = .ok (.iushr, 1) := by decide +kernel
theorem dJ6_bitCount_0f7a4_39 : decode cJ6_bitCount_0f7a4 39 = .ok (.iadd, 1) := by decide +kernel
theorem dJ6_bitCount_0f7a4_40 : decode cJ6_bitCount_0f7a4 40 = .ok (.istore_n 0, 1) := by decide +kernel
theorem dJ6_bitCount_0f7a4_41 : decode cJ6_bitCount_0f7a4 41 = .ok (.iload_n 0, 1) := by decide +kernel
theorem dJ6_bitCount_0f7a4_42 : decode cJ6_bitCount_0f7a4 42 = .ok (.iload_n 0, 1) := by decide +kernel
theorem dJ6_bitCount_0f7a4_43 : decode cJ6_bitCount_0f7a4 43 = .ok (.bipush 16, 2) := by decide +kernel
theorem dJ6_bitCount_0f7a4_45 : decode cJ6_bitCount_0f7a4 45 = .ok (.iushr, 1) := by decide +kernel
theorem dJ6_bitCount_0f7a4_46 : decode cJ6_bitCount_0f7a4 46 = .ok (.iadd, 1) := by decide +kernel
theorem dJ6_bitCount_0f7a4_47 : decode cJ6_bitCount_0f7a4 47 = .ok (.istore_n 0, 1) := by decide +kernel
theorem dJ6_bitCount_0f7a4_48 : decode cJ6_bitCount_0f7a4 48 = .ok (.iload_n 0, 1) := by decide +kernel
theorem dJ6_bitCount_0f7a4_49 : decode cJ6_bitCount_0f7a4 49 = .ok (.bipush 63, 2) := by decide +kernel
theorem dJ6_bitCount_0f7a4_51 : decode cJ6_bitCount_0f7a4 51 = .ok (.iand, 1) := by decide +kernel
theorem dJ6_bitCount_0f7a4_52 : decode cJ6_bitCount_0f7a4 52 = .ok (.ireturn, 1) := by decide +kernel
theorem dJ9_abs_0f7a4_0 : decode cJ9_abs_0f7a4 0 = .ok (.iload_n 0, 1) := by decide +kernel
theorem dJ9_abs_0f7a4_1 : decode cJ9_abs_0f7a4 1 = .ok (.ifCond .ge 8, 3) := by decide +kernel
theorem dJ9_abs_0f7a4_4 : decode cJ9_abs_0f7a4 4 = .ok (.iload_n 0, 1) := by decide +kernel
theorem dJ9_abs_0f7a4_5 : decode cJ9_abs_0f7a4 5 = .ok (.ineg, 1) := by decide +kernel
theorem dJ9_abs_0f7a4_6 : decode cJ9_abs_0f7a4 6 = .ok (.goto 4, 3) := by decide +kernel
theorem dJ9_abs_0f7a4_9 : decode cJ9_abs_0f7a4 9 = .ok (.iload_n 0, 1) := by decide +kernel
theorem dJ9_abs_0f7a4_10 : decode cJ9_abs_0f7a4 10 = .ok (.ireturn, 1) := by decide +kernel
theorem dJ9_max_7cf53_0 : decode cJ9_max_7cf53 0 = .ok (.iload_n 0, 1) := by decide +kernel
theorem dJ9_max_7cf53_1 : decode cJ9_max_7cf53 1 = .ok (.iload_n 1, 1) := by decide +kernel
theorem dJ9_max_7cf53_2 : decode cJ9_max_7cf53 2 = .ok (.if_icmp .lt 7, 3) := by decide +kernel
theorem dJ9_max_7cf53_5 : decode cJ9_max_7cf53 5 = .ok (.iload_n 0, 1) := by decide +kernel
theorem dJ9_max_7cf53_6 : decode cJ9_max_7cf53 6 = .ok (.goto 4, 3) := by decide +kernel
theorem dJ9_max_7cf53_9 : decode cJ9_max_7cf53 9 = .ok (.iload_n 1, 1) := by decide +kernel
theorem dJ9_max_7cf53_10 : decode cJ9_max_7cf53 10 = .ok (.ireturn, 1) := by decide +kernel
theorem dJ9_min_7cf53_0 : decode cJ9_min_7cf53 0 = .ok (.iload_n 0, 1) := by decide +kernel
theorem dJ9_min_7cf53_1 : decode cJ9_min_7cf53 1 = .ok (.iload_n 1, 1) := by decide +kernel
theorem dJ9_min_7cf53_2 : decode cJ9_min_7cf53 2 = .ok (.if_icmp .gt 7, 3) := by decide +kernel
theorem dJ9_min_7cf53_5 : decode cJ9_min_7cf53 5 = .ok (.iload_n 0, 1) := by decide +kernel
theorem dJ9_min_7cf53_6 : decode cJ9_min_7cf53 6 = .ok (.goto 4, 3) := by decide +kernel
theorem dJ9_min_7cf53_9 : decode cJ9_min_7cf53 9 = .ok (.iload_n 1, 1) := by decide +kernel
theorem dJ9_min_7cf53_10 : decode cJ9_min_7cf53 10 = .ok (.ireturn, 1) := by decide +kernel
set_option maxRecDepth 20000 in
theorem ggJ0_length_8abf5_J0_coder_7d493 : GoodIn wsJ0_length_8abf5 wsJ0_coder_7d493 := goodIn_r _ [6, 7, 8] (by decide +kernel) (by decide +kernel)
set_option maxRecDepth 20000 in
theorem gJ0_length_8abf5_J0_coder_7d493 : GoodIn wsJ0_length_8abf5 (wsV RJ0 335 RJ0 yJ0_coder_7d493 wsJ0_coder_7d493) := goodIn_app (goodIn_of _ (by decide +kernel)) ggJ0_length_8abf5_J0_coder_7d493
theorem dJ0_length_8abf5_0 : decode cJ0_length_8abf5 0 = .ok (.aload_n 0, 1) := by decide +kernel
theorem dJ0_length_8abf5_1 : decode cJ0_length_8abf5 1 = .ok (.getfield 9, 3) := by decide +kernel
theorem dJ0_length_8abf5_4 : decode cJ0_length_8abf5 4 = .ok (.arraylength, 1) := by decide +kernel
theorem dJ0_length_8abf5_5 : decode cJ0_length_8abf5 5 = .ok (.aload_n 0, 1) := by decide +kernel
theorem dJ0_length_8abf5_6 : decode cJ0_length_8abf5 6 = .ok (.invokevirtual 335, 3) := by decide +kernel
theorem dJ0_length_8abf5_9 : decode cJ0_length_8abf5 9 = .ok (.ishr, 1) := by decide +kernel
theorem dJ0_length_8abf5_10 : decode cJ0_length_8abf5 10 = .ok (.ireturn, 1) := by decide +kernel
set_option maxRecDepth 20000 in
theorem ggJ0_charAt_5068e_J0_isLatin1_aae02 : GoodIn wsJ0_charAt_5068e wsJ0_isLatin1_aae02 := goodIn_r _ [6, 7, 8] (by decide +kernel) (by decide +kernel)
set_option maxRecDepth 20000 in
theorem gJ0_charAt_5068e_J0_isLatin1_aae02 : GoodIn wsJ0_charAt_5068e (wsV RJ0 492 RJ0 yJ0_isLatin1_aae02 wsJ0_isLatin1_aae02) := goodIn_app (goodIn_of _ (by decide +kernel)) ggJ0_charAt_5068e_J0_isLatin1_aae02
set_option maxRecDepth 20000 in
theorem ggJ0_charAt_5068e_J1_charAt_3b067 : GoodIn wsJ0_charAt_5068e wsJ1_charAt_3b067 := goodIn_r _ [12, 13, 14, 5, 15, 16, 17, 18, 19, 20] (by decide +kernel) (by decide +kernel)
set_option maxRecDepth 20000 in
theorem gJ0_charAt_5068e_J1_charAt_3b067 : GoodIn wsJ0_charAt_5068e (va_wsS RJ0 495 yJ1_charAt_3b067 wsJ1_charAt_3b067) := goodIn_app (goodIn_of _ (by decide +kernel)) ggJ0_charAt_5068e_J1_charAt_3b067
set_option maxRecDepth 20000 in
theorem ggJ0_charAt_5068e_J2_charAt_3b067 : GoodIn wsJ0_charAt_5068e wsJ2_charAt_3b067 := goodIn_r _ [24, 25, 26, 23, 27, 28, 29, 30, 31, 14, 5, 15, 16, 17, 18, 19, 20, 32, 33, 34, 35, 36, 37] (by decide +kernel) (by decide +kernel)
set_option maxRecDepth 20000 in
theorem gJ0_charAt_5068e_J2_charAt_3b067 : GoodIn wsJ0_charAt_5068e (va_wsS RJ0 498 yJ2_charAt_3b067 wsJ2_charAt_3b067) := goodIn_app (goodIn_of _ (by decide +kernel)) ggJ0_charAt_5068e_J2_charAt_3b067
theorem dJ0_charAt_5068e_0 : decode cJ0_charAt_5068e 0 = .ok (.aload_n 0, 1) := by decide +kernel
theorem dJ0_charAt_5068e_1 : decode cJ0_charAt_5068e 1 = .ok (.invokevirtual 492, 3) := by decide +kernel
theorem dJ0_charAt_5068e_4 : decode cJ0_charAt_5068e 4 = .ok (.ifCond .eq 12, 3) := by decide +kernel
theorem dJ0_charAt_5068e_7 : decode cJ0_charAt_5068e 7 = .ok (.aload_n 0, 1) := by decide +kernel
theorem dJ0_charAt_5068e_8 : decode cJ0_charAt_5068e 8 = .ok (.getfield 9, 3) := by decide +kernel
theorem dJ0_charAt_5068e_11 : decode cJ0_charAt_5068e 11 = .ok (.iload_n 1, 1) := by decide +kernel
theorem dJ0_charAt_5068e_12 : decode cJ0_charAt_5068e 12 = .ok (.invokestatic 495, 3) := by decide +kernel
theorem dJ0_charAt_5068e_15 : decode cJ0_charAt_5068e 15 = .ok (.ireturn, 1) := by decide +kernel
theorem dJ0_charAt_5068e_16 : decode cJ0_charAt_5068e 16 = .ok (.aload_n 0, 1) := by decide +kernel
theorem dJ0_charAt_5068e_17 : decode cJ0_charAt_5068e 17 = .ok (.getfield 9, 3) := by decide +kernel
theorem dJ0_charAt_5068e_20 : decode cJ0_charAt_5068e 20 = .ok (.iload_n 1, 1) := by decide +kernel
theorem dJ0_charAt_5068e_21 : decode cJ0_charAt_5068e 21 = .ok (.invokestatic 498, 3) := by decide +kernel
theorem dJ0_charAt_5068e_24 : decode cJ0_charAt_5068e 24 = .ok (.ireturn, 1) := by decide +kernel
theorem dJ0_coder_7d493_0 : decode cJ0_coder_7d493 0 = .ok (.getstatic 38, 3) := by decide +kernel
theorem dJ0_coder_7d493_3 : decode cJ0_coder_7d493 3 = .ok (.ifCond .eq 10, 3) := by decide +kernel
theorem dJ0_coder_7d493_6 : decode cJ0_coder_7d493 6 = .ok (.aload_n 0, 1) := by decide +kernel
theorem dJ0_coder_7d493_7 : decode cJ0_coder_7d493 7 = .ok (.getfield 15, 3) := by decide +kernel
theorem dJ0_coder_7d493_10 : decode cJ0_coder_7d493 10 = .ok (.goto 4, 3) := by decide +kernel
theorem dJ0_coder_7d493_13 : decode cJ0_coder_7d493 13 = .ok (.iconst 1, 1) := by decide +kernel
theorem dJ0_coder_7d493_14 : decode cJ0_coder_7d493 14 = .ok (.ireturn, 1) := by decide +kernel
theorem dJ0_isLatin1_aae02_0 : decode cJ0_isLatin1_aae02 0 = .ok (.getstatic 38, 3) := by decide +kernel
theorem dJ0_isLatin1_aae02_3 : decode cJ0_isLatin1_aae02 3 = .ok (.ifCond .eq 14, 3) := by decide +kernel
theorem dJ0_isLatin1_aae02_6 : decode cJ0_isLatin1_aae02 6 = .ok (.aload_n 0, 1) := by decide +kernel
theorem dJ0_isLatin1_aae02_7 : decode cJ0_isLatin1_aae02 7 = .ok (.getfield 15, 3) := by decide +kernel
theorem dJ0_isLatin1_aae02_10 : decode cJ0_isLatin1_aae02 10 = .ok (.ifCond .ne 7, 3) := by decide +kernel
theorem dJ0_isLatin1_aae02_13 : decode cJ0_isLatin1_aae02 13 = .ok (.iconst 1, 1) := by decide +kernel
theorem dJ0_isLatin1_aae02_14 : decode cJ0_isLatin1_aae02 14 = .ok (.goto 4, 3) := by decide +kernel
theorem dJ0_isLatin1_aae02_17 : decode cJ0_isLatin1_aae02 17 = .ok (.iconst 0, 1) := by decide +kernel
theorem dJ0_isLatin1_aae02_18 : decode cJ0_isLatin1_aae02 18 = .ok (.ireturn, 1) := by decide +kernel
set_option maxRecDepth 20000 in
theorem ggJ0_checkIndex_df160_J3_checkIndex_8e157 : GoodIn wsJ0_checkIndex_df160 wsJ3_checkIndex_8e157 := goodIn_r _ [5] (by decide +kernel) (by decide +kernel)
set_option maxRecDepth 20000 in
theorem gJ0_checkIndex_df160_J3_checkIndex_8e157 : GoodIn wsJ0_checkIndex_df160 (va_wsS RJ0 1059 yJ3_checkIndex_8e157 wsJ3_checkIndex_8e157) := goodIn_app (goodIn_of _ (by decide +kernel)) ggJ0_checkIndex_df160_J3_checkIndex_8e157
theorem dJ0_checkIndex_df160_0 : decode cJ0_checkIndex_df160 0 = .ok (.iload_n 0, 1) := by decide +kernel
theorem dJ0_checkIndex_df160_1 : decode cJ0_checkIndex_df160 1 = .ok (.iload_n 1, 1) := by decide +kernel
theorem dJ0_checkIndex_df160_2 : decode cJ0_checkIndex_df160 2 = .ok (.getstatic 1053, 3) := by decide +kernel
theorem dJ0_checkIndex_df160_5 : decode cJ0_checkIndex_df160 5 = .ok (.invokestatic 1059, 3) := by decide +kernel
theorem dJ0_checkIndex_df160_8 : decode cJ0_checkIndex_df160 8 = .ok (.pop, 1) := by decide +kernel
theorem dJ0_checkIndex_df160_9 : decode cJ0_checkIndex_df160 9 = .ok (.return_, 1) := by decide +kernel
set_option maxRecDepth 20000 in
theorem ggJ1_charAt_3b067_J0_checkIndex_df160 : GoodIn wsJ1_charAt_3b067 wsJ0_checkIndex_df160 := goodIn_r _ [4, 5, 6, 7, 8, 9] (by decide +kernel) (by decide +kernel)
set_option maxRecDepth 20000 in
theorem gJ1_charAt_3b067_J0_checkIndex_df160 : GoodIn wsJ1_charAt_3b067 (va_wsS RJ1 9 yJ0_checkIndex_df160 wsJ0_checkIndex_df160) := goodIn_app (goodIn_of _ (by decide +kernel)) ggJ1_charAt_3b067_J0_checkIndex_df160
theorem dJ1_charAt_3b067_0 : decode cJ1_charAt_3b067 0 = .ok (.iload_n 1, 1) := by decide +kernel
theorem dJ1_charAt_3b067_1 : decode cJ1_charAt_3b067 1 = .ok (.aload_n 0, 1) := by decide +kernel
theorem dJ1_charAt_3b067_2 : decode cJ1_charAt_3b067 2 = .ok (.arraylength, 1) := by decide +kernel
theorem dJ1_charAt_3b067_3 : decode cJ1_charAt_3b067 3 = .ok (.invokestatic 9, 3) := by decide +kernel
theorem dJ1_charAt_3b067_6 : decode cJ1_charAt_3b067 6 = .ok (.aload_n 0, 1) := by decide +kernel
theorem dJ1_charAt_3b067_7 : decode cJ1_charAt_3b067 7 = .ok (.iload_n 1, 1) := by decide +kernel
theorem dJ1_charAt_3b067_8 : decode cJ1_charAt_3b067 8 = .ok (.baload, 1) := by decide +kernel
theorem dJ1_charAt_3b067_9 : decode cJ1_charAt_3b067 9 = .ok (.sipush 255, 3) := by decide +kernel
theorem dJ1_charAt_3b067_12 : decode cJ1_charAt_3b067 12 = .ok (.iand, 1) := by decide +kernel
theorem dJ1_charAt_3b067_13 : decode cJ1_charAt_3b067 13 = .ok (.i2c, 1) := by decide +kernel
theorem dJ1_charAt_3b067_14 : decode cJ1_charAt_3b067 14 = .ok (.ireturn, 1) := by decide +kernel
set_option maxRecDepth 20000 in
theorem ggJ2_getChar_3b067_J2_length_9d52b : GoodIn wsJ2_getChar_3b067 wsJ2_length_9d52b := goodIn_r _ [7] (by decide +kernel) (by decide +kernel)
set_option maxRecDepth 20000 in
theorem gJ2_getChar_3b067_J2_length_9d52b : GoodIn wsJ2_getChar_3b067 (va_wsS RJ2 48 yJ2_length_9d52b wsJ2_length_9d52b) := goodIn_app (goodIn_of _ (by decide +kernel)) ggJ2_getChar_3b067_J2_length_9d52b
theorem dJ2_getChar_3b067_0 : decode cJ2_getChar_3b067 0 = .ok (.getstatic 44, 3) := by decide +kernel
theorem dJ2_getChar_3b067_3 : decode cJ2_getChar_3b067 3 = .ok (.ifCond .ne 25, 3) := by decide +kernel
theorem dJ2_getChar_3b067_6 : decode cJ2_getChar_3b067 6 = .ok (.iload_n 1, 1) := by decide +kernel
theorem dJ2_getChar_3b067_7 : decode cJ2_getChar_3b067 7 = .ok (.ifCond .lt 11, 3) := by decide +kernel
theorem dJ2_getChar_3b067_10 : decode cJ2_getChar_3b067 10 = .ok (.iload_n 1, 1) := by decide +kernel
theorem dJ2_getChar_3b067_11 : decode cJ2_getChar_3b067 11 = .ok (.aload_n 0, 1) := by decide +kernel
theorem dJ2_getChar_3b067_12 : decode cJ2_getChar_3b067 12 = .ok (.invokestatic 48, 3) := by decide +kernel
theorem dJ2_getChar_3b067_15 : decode cJ2_getChar_3b067 15 = .ok (.if_icmp .lt 13, 3) := by decide +kernel
theorem dJ2_getChar_3b067_18 : decode cJ2_getChar_3b067 18 = .ok (.new 52, 3) := by decide +kernel
theorem dJ2_getChar_3b067_21 : decode cJ2_getChar_3b067 21 = .ok (.dup, 1) := by decide +kernel
theorem dJ2_getChar_3b067_22 : decode cJ2_getChar_3b067 22 = .ok (.ldc 54, 2) := by decide +kernel
theorem dJ2_getChar_3b067_24 : decode cJ2_getChar_3b067 24 = .ok (.invokespecial 56, 3) := by decide +kernel
theorem dJ2_getChar_3b067_27 : decode cJ2_getChar_3b067 27 = .ok (.athrow, 1) := by decide +kernel
theorem dJ2_getChar_3b067_28 : decode cJ2_getChar_3b067 28 = .ok (.iload_n 1, 1) := by decide +kernel
theorem dJ2_getChar_3b067_29 : decode cJ2_getChar_3b067 29 = .ok (.iconst 1, 1) := by decide +kernel
theorem dJ2_getChar_3b067_30 : decode cJ2_getChar_3b067 30 = .ok (.ishl, 1) := by decide +kernel
theorem dJ2_getChar_3b067_31 : decode cJ2_getChar_3b067 31 = .ok (.istore_n 1, 1) := by decide +kernel
theorem dJ2_getChar_3b067_32 : decode cJ2_getChar_3b067 32 = .ok (.aload_n 0, 1) := by decide +kernel
theorem dJ2_getChar_3b067_33 : decode cJ2_getChar_3b067 33 = .ok (.iload_n 1, 1) := by decide +kernel
theorem dJ2_getChar_3b067_34 : decode cJ2_getChar_3b067 34 = .ok (.iinc 1 1, 3) := by decide +kernel
theorem dJ2_getChar_3b067_37 : decode cJ2_getChar_3b067 37 = .ok (.baload, 1) := by decide +kernel
theorem dJ2_getChar_3b067_38 : decode cJ2_getChar_3b067 38 = .ok (.sipush 255, 3) := by decide +kernel
theorem dJ2_getChar_3b067_41 : decode cJ2_getChar_3b067 41 = .ok (.iand, 1) := by decide +kernel
theorem dJ2_getChar_3b067_42 : decode cJ2_getChar_3b067 42 = .ok (.getstatic 59, 3) := by decide +kernel
theorem dJ2_getChar_3b067_45 : decode cJ2_getChar_3b067 45 = .ok (.ishl, 1) := by decide +kernel
theorem dJ2_getChar_3b067_46 : decode cJ2_getChar_3b067 46 = .ok (.aload_n 0, 1) := by decide +kernel
theorem dJ2_getChar_3b067_47 : decode cJ2_getChar_3b067 47 = .ok (.iload_n 1, 1) := by decide +kernel
theorem dJ2_getChar_3b067_48 : decode cJ2_getChar_3b067 48 = .ok (.baload, 1) := by decide +kernel
theorem dJ2_getChar_3b067_49 : decode cJ2_getChar_3b067 49 = .ok (.sipush 255, 3) := by decide +kernel
theorem dJ2_getChar_3b067_52 : decode cJ2_getChar_3b067 52 = .ok (.iand, 1) := by decide +kernel
theorem dJ2_getChar_3b067_53 : decode cJ2_getChar_3b067 53 = .ok (.getstatic 63, 3) := by decide +kernel
theorem dJ2_getChar_3b067_56 : decode cJ2_getChar_3b067 56 = .ok (.ishl, 1) := by decide +kernel
theorem dJ2_getChar_3b067_57 : decode cJ2_getChar_3b067 57 = .ok (.ior, 1) := by decide +kernel
theorem dJ2_getChar_3b067_58 : decode cJ2_getChar_3b067 58 = .ok (.i2c, 1) := by decide +kernel
theorem dJ2_getChar_3b067_59 : decode cJ2_getChar_3b067 59 = .ok (.ireturn, 1) := by decide +kernel
theorem dJ2_length_9d52b_0 : decode cJ2_length_9d52b 0 = .ok (.aload_n 0, 1) := by decide +kernel
theorem dJ2_length_9d52b_1 : decode cJ2_length_9d52b 1 = .ok (.arraylength, 1) := by decide +kernel
theorem dJ2_length_9d52b_2 : decode cJ2_length_9d52b 2 = .ok (.iconst 1, 1) := by decide +kernel
theorem dJ2_length_9d52b_3 : decode cJ2_length_9d52b 3 = .ok (.ishr, 1) := by decide +kernel
theorem dJ2_length_9d52b_4 : decode cJ2_length_9d52b 4 = .ok (.ireturn, 1) := by decide +kernel
set_option maxRecDepth 20000 in
theorem ggJ2_charAt_3b067_J2_checkIndex_2214a : GoodIn wsJ2_charAt_3b067 wsJ2_checkIndex_2214a := goodIn_r _ [4, 5, 6, 3, 7, 8, 9, 10, 11, 12, 13, 14, 15, 16] (by decide +kernel) (by decide +kernel)
set_option maxRecDepth 20000 in
theorem gJ2_charAt_3b067_J2_checkIndex_2214a : GoodIn wsJ2_charAt_3b067 (va_wsS RJ2 67 yJ2_checkIndex_2214a wsJ2_checkIndex_2214a) := goodIn_app (goodIn_of _ (by decide +kernel)) ggJ2_charAt_3b067_J2_checkIndex_2214a
set_option maxRecDepth 20000 in
theorem ggJ2_charAt_3b067_J2_getChar_3b067 : GoodIn wsJ2_charAt_3b067 wsJ2_getChar_3b067 := goodIn_r _ [19, 20, 21, 22, 5, 6, 3, 7] (by decide +kernel) (by decide +kernel)
set_option maxRecDepth 20000 in
theorem gJ2_charAt_3b067_J2_getChar_3b067 : GoodIn wsJ2_charAt_3b067 (va_wsS RJ2 71 yJ2_getChar_3b067 wsJ2_getChar_3b067) := goodIn_app (goodIn_of _ (by decide +kernel)) ggJ2_charAt_3b067_J2_getChar_3b067
theorem dJ2_charAt_3b067_0 : decode cJ2_charAt_3b067 0 = .ok (.iload_n 1, 1) := by decide +kernel
theorem dJ2_charAt_3b067_1 : decode cJ2_charAt_3b067 1 = .ok (.aload_n 0, 1) := by decide +kernel
theorem dJ2_charAt_3b067_2 : decode cJ2_charAt_3b067 2 = .ok (.invokestatic 67, 3) := by decide +kernel
theorem dJ2_charAt_3b067_5 : decode cJ2_charAt_3b067 5 = .ok (.aload_n 0, 1) := by decide +kernel
theorem dJ2_charAt_3b067_6 : decode cJ2_charAt_3b067 6 = .ok (.iload_n 1, 1) := by decide +kernel
theorem dJ2_charAt_3b067_7 : decode cJ2_charAt_3b067 7 = .ok (.invokestatic 71, 3) := by decide +kernel
theorem dJ2_charAt_3b067_10 : decode cJ2_charAt_3b067 10 = .ok (.ireturn, 1) := by decide +kernel
set_option maxRecDepth 20000 in
theorem ggJ2_checkIndex_2214a_J2_length_9d52b : GoodIn wsJ2_checkIndex_2214a wsJ2_length_9d52b := goodIn_r _ [4] (by decide +kernel) (by decide +kernel)
set_option maxRecDepth 20000 in
theorem gJ2_checkIndex_2214a_J2_length_9d52b : GoodIn wsJ2_checkIndex_2214a (va_wsS RJ2 48 yJ2_length_9d52b wsJ2_length_9d52b) := goodIn_app (goodIn_of _ (by decide +kernel)) ggJ2_checkIndex_2214a_J2_length_9d52b
set_option maxRecDepth 20000 in
theorem ggJ2_checkIndex_2214a_J0_checkIndex_df160 : GoodIn wsJ2_checkIndex_2214a wsJ0_checkIndex_df160 := goodIn_r _ [8, 9, 10, 11, 12, 13] (by decide +kernel) (by decide +kernel)
set_option maxRecDepth 20000 in
theorem gJ2_checkIndex_2214a_J0_checkIndex_df160 : GoodIn wsJ2_checkIndex_2214a (va_wsS RJ2 414 yJ0_checkIndex_df160 wsJ0_checkIndex_df160) := goodIn_app (goodIn_of _ (by decide +kernel)) ggJ2_checkIndex_2214a_J0_checkIndex_df160
theorem dJ2_checkIndex_2214a_0 : decode cJ2_checkIndex_2214a 0 = .ok (.iload_n 0, 1) := by decide +kernel
theorem dJ2_checkIndex_2214a_1 : decode cJ2_checkIndex_2214a 1 = .ok (.aload_n 1, 1) := by decide +kernel
theorem dJ2_checkIndex_2214a_2 : decode cJ2_checkIndex_2214a 2 = .ok (.invokestatic 48, 3) := by decide +kernel
theorem dJ2_checkIndex_2214a_5 : decode cJ2_checkIndex_2214a 5 = .ok (.invokestatic 414, 3) := by decide +kernel
theorem dJ2_checkIndex_2214a_8 : decode cJ2_checkIndex_2214a 8 = .ok (.return_, 1) := by decide +kernel
theorem dJ3_checkIndex_8e157_0 : decode cJ3_checkIndex_8e157 0 = .ok (.iload_n 0, 1) := by decide +kernel
theorem dJ3_checkIndex_8e157_1 : decode cJ3_checkIndex_8e157 1 = .ok (.ifCond .lt 8, 3) := by decide +kernel
theorem dJ3_checkIndex_8e157_4 : decode cJ3_checkIndex_8e157 4 = .ok (.iload_n 0, 1) := by decide +kernel
theorem dJ3_checkIndex_8e157_5 : decode cJ3_checkIndex_8e157 5 = .ok (.iload_n 1, 1) := by decide +kernel
theorem dJ3_checkIndex_8e157_6 : decode cJ3_checkIndex_8e157 6 = .ok (.if_icmp .lt 10, 3) := by decide +kernel
theorem dJ3_checkIndex_8e157_9 : decode cJ3_checkIndex_8e157 9 = .ok (.aload_n 2, 1) := by decide +kernel
theorem dJ3_checkIndex_8e157_10 : decode cJ3_checkIndex_8e157 10 = .ok (.iload_n 0, 1) := by decide +kernel
theorem dJ3_checkIndex_8e157_11 : decode cJ3_checkIndex_8e157 11 = .ok (.iload_n 1, 1) := by decide +kernel
theorem dJ3_checkIndex_8e157_12 : decode cJ3_checkIndex_8e157 12 = .ok (.invokestatic 95, 3) := by decide +kernel
theorem dJ3_checkIndex_8e157_15 : decode cJ3_checkIndex_8e157 15 = .ok (.athrow, 1) := by decide +kernel
theorem dJ3_checkIndex_8e157_16 : decode cJ3_checkIndex_8e157 16 = .ok (.iload_n 0, 1) := by decide +kernel
theorem dJ3_checkIndex_8e157_17 : decode cJ3_checkIndex_8e157 17 = .ok (.ireturn, 1) := by decide +kernel
set_option maxRecDepth 20000 in
theorem ggL_law_X7_init : GoodIn wsL_law wsX7_init := goodIn_r _ [9, 10, 11, 12, 13, 14, 15, 16, 17, 18, 19, 20, 21, 22, 23, 24, 25, 26, 27, 28, 29, 30, 31, 32, 33, 34, 35, 36, 37, 38, 39, 40, 41, 42, 43, 44, 45, 46, 47, 48, 49, 50, 51, 52, 53, 54, 55, 56, 57, 58, 59, 60, 61, 62, 63, 64, 65, 66, 67, 68, 69, 70, 71, 72, 73, 74, 75, 76, 77, 78, 79, 80, 81, 82, 83, 84, 85, 86, 87, 88, 89, 90, 91, 92, 93, 94, 95, 96, 97, 98, 99, 100, 101, 102, 103, 104, 105, 106, 107, 108, 854, 855, 856, 857, 858, 822, 823, 824, 825, 826, 827, 828, 829, 830, 859, 860, 861, 862, 863, 864, 865, 866, 867, 868, 869, 870, 871, 872, 873, 874, 875, 876, 877, 878, 879, 880, 881, 882, 883] (by decide +kernel) (by decide +kernel)
set_option maxRecDepth 20000 in
theorem gL_law_X7_init : GoodIn wsL_law (wsX7_init) := ggL_law_X7_init
set_option maxRecDepth 20000 in
theorem ggL_law_X8_init : GoodIn wsL_law wsX8_init := goodIn_r _ [111, 112, 11, 12, 52, 113, 114, 115, 116, 117, 118, 119, 120, 121, 122, 123, 124, 125, 5, 126, 831, 832, 833, 834, 835, 836, 837, 838, 839, 840, 841, 842, 843, 844, 845, 846, 847, 848, 849, 850, 851, 852, 853] (by decide +kernel) (by decide +kernel)
set_option maxRecDepth 20000 in
theorem gL_law_X8_init : GoodIn wsL_law (wsX8_init) := ggL_law_X8_init
set_option maxRecDepth 20000 in
theorem ggL_law_X7_type : GoodIn wsL_law wsX7_type := goodIn_r _ [130, 16, 131, 132, 133, 15, 134, 45, 44, 822, 823, 824, 825, 826, 827, 828, 829, 830, 854, 855, 856, 857, 858] (by decide +kernel) (by decide +kernel)
set_option maxRecDepth 20000 in
theorem gL_law_X7_type : GoodIn wsL_law (wsV RL 15 RX7 yX7_type wsX7_type) := goodIn_app (goodIn_of _ (by decide +kernel)) ggL_law_X7_type
set_option maxRecDepth 20000 in
theorem ggL_law_X8_type : GoodIn wsL_law wsX8_type := goodIn_r _ [138, 139, 140, 113, 141, 142, 143, 5, 144, 831, 832, 833, 834, 835, 836, 837, 838, 839, 840, 841, 842, 843, 844, 845, 846, 847, 848, 849, 850, 851, 852, 853] (by decide +kernel) (by decide +kernel)
set_option maxRecDepth 20000 in
theorem gL_law_X8_type : GoodIn wsL_law (wsV RL 19 RX8 yX8_type wsX8_type) := goodIn_app (goodIn_of _ (by decide +kernel)) ggL_law_X8_type
set_option maxRecDepth 20000 in
theorem ggL_law_X7_clear : GoodIn wsL_law wsX7_clear := goodIn_r _ [148, 16, 822, 823, 824, 825, 826, 827, 828, 829, 830, 854, 855, 856, 857, 858] (by decide +kernel) (by decide +kernel)
set_option maxRecDepth 20000 in
theorem gL_law_X7_clear : GoodIn wsL_law (wsV RL 20 RX7 yX7_clear wsX7_clear) := goodIn_app (goodIn_of _ (by decide +kernel)) ggL_law_X7_clear
set_option maxRecDepth 20000 in
theorem ggL_law_X8_clear : GoodIn wsL_law wsX8_clear := goodIn_r _ [152, 139, 140, 831, 832, 833, 834, 835, 836, 837, 838, 839, 840, 841, 842, 843, 844, 845, 846, 847, 848, 849, 850, 851, 852, 853] (by decide +kernel) (by decide +kernel)
set_option maxRecDepth 20000 in
theorem gL_law_X8_clear : GoodIn wsL_law (wsV RL 24 RX8 yX8_clear wsX8_clear) := goodIn_app (goodIn_of _ (by decide +kernel)) ggL_law_X8_clear
set_option maxRecDepth 20000 in
theorem ggL_law_X7_chancery : GoodIn wsL_law wsX7_chancery := goodIn_r _ [156, 16, 38, 37, 157, 158, 159, 15, 160, 46, 47, 90, 36, 91, 92, 93, 94, 95, 96, 161, 162, 163, 164, 45, 44, 165, 166, 167, 168, 169, 170, 171, 172, 173, 174, 175, 176, 177, 178, 179, 180, 181, 182, 183, 184, 185, 186, 187, 188, 189, 190, 191, 192, 193, 194, 195, 196, 197, 198, 199, 200, 201, 202, 203, 204, 205, 206, 207, 208, 209, 210, 211, 212, 213, 214, 215, 216, 217, 218, 219, 220, 221, 222, 223, 224, 225, 226, 227, 228, 229, 230, 231, 232, 48, 233, 234, 235, 236, 237, 238, 239, 240, 83, 241, 242, 243, 244, 245, 246, 247, 248, 2, 249, 20, 25, 29, 21, 97, 98, 99, 19, 100, 56, 101, 102, 103, 104, 53, 54, 55, 105, 106, 107, 108, 822, 823, 824, 825, 826, 827, 828, 829, 830, 854, 855, 856, 857, 858, 875, 876, 877, 878, 879, 880, 881, 882, 883, 864, 865, 866, 867, 868, 869, 870, 859, 860, 861, 862, 863] (by decide +kernel) (by decide +kernel)
set_option maxRecDepth 20000 in
theorem gL_law_X7_chancery : GoodIn wsL_law (wsV RL 25 RX7 yX7_chancery wsX7_chancery) := goodIn_app (goodIn_of _ (by decide +kernel)) ggL_law_X7_chancery
set_option maxRecDepth 20000 in
theorem ggL_law_X8_chancery : GoodIn wsL_law wsX8_chancery := goodIn_r _ [253, 139, 254, 255, 256, 257, 258, 259, 260, 114, 140, 261, 262, 118, 263, 264, 265, 5, 266, 267, 268, 269, 270, 271, 113, 142, 143, 144, 272, 273, 274, 275, 276, 277, 278, 279, 280, 281, 282, 283, 284, 285, 286, 287, 288, 289, 290, 291, 292, 293, 294, 295, 296, 297, 123, 124, 125, 126, 115, 831, 832, 833, 834, 835, 836, 837, 838, 839, 840, 841, 842, 843, 844, 845, 846, 847, 848, 849, 850, 851, 852, 853] (by decide +kernel) (by decide +kernel)
set_option maxRecDepth 20000 in
theorem gL_law_X8_chancery : GoodIn wsL_law (wsV RL 28 RX8 yX8_chancery wsX8_chancery) := goodIn_app (goodIn_of _ (by decide +kernel)) ggL_law_X8_chancery
set_option maxRecDepth 20000 in
theorem ggL_law_X7_clerk : GoodIn wsL_law wsX7_clerk := goodIn_r _ [301, 37, 302, 303, 304, 36, 305, 93, 83, 822, 823, 824, 825, 826, 827, 828, 829, 830, 880, 881, 882, 883, 875, 876, 877, 878, 879] (by decide +kernel) (by decide +kernel)
set_option maxRecDepth 20000 in
theorem gL_law_X7_clerk : GoodIn wsL_law (wsV RL 29 RX7 yX7_clerk wsX7_clerk) := goodIn_app (goodIn_of _ (by decide +kernel)) ggL_law_X7_clerk
set_option maxRecDepth 20000 in
theorem ggL_law_X8_clerk : GoodIn wsL_law wsX8_clerk := goodIn_r _ [309, 139, 114, 310, 311, 312, 5, 313, 260, 142, 143, 144, 831, 832, 833, 834, 835, 836, 837, 838, 839, 840, 841, 842, 843, 844, 845, 846, 847, 848, 849, 850, 851, 852, 853] (by decide +kernel) (by decide +kernel)
set_option maxRecDepth 20000 in
theorem gL_law_X8_clerk : GoodIn wsL_law (wsV RL 33 RX8 yX8_clerk wsX8_clerk) := goodIn_app (goodIn_of _ (by decide +kernel)) ggL_law_X8_clerk
set_option maxRecDepth 20000 in
theorem ggL_law_X7_line : GoodIn wsL_law wsX7_line := goodIn_r _ [317, 20, 822, 823, 824, 825, 826, 827, 828, 829, 830, 859, 860, 861, 862, 863] (by decide +kernel) (by decide +kernel)
set_option maxRecDepth 20000 in
theorem gL_law_X7_line : GoodIn wsL_law (wsV RL 34 RX7 yX7_line wsX7_line) := goodIn_app (goodIn_of _ (by decide +kernel)) ggL_law_X7_line
set_option maxRecDepth 20000 in
theorem ggL_law_X8_line : GoodIn wsL_law wsX8_line := goodIn_r _ [321, 139, 115, 142, 143, 5, 144, 831, 832, 833, 834, 835, 836, 837, 838, 839, 840, 841, 842, 843, 844, 845, 846, 847, 848, 849, 850, 851, 852, 853] (by decide +kernel) (by decide +kernel)
set_option maxRecDepth 20000 in
theorem gL_law_X8_line : GoodIn wsL_law (wsV RL 37 RX8 yX8_line wsX8_line) := goodIn_app (goodIn_of _ (by decide +kernel)) ggL_law_X8_line
set_option maxRecDepth 20000 in
theorem ggL_law_X7_makes : GoodIn wsL_law wsX7_makes := goodIn_r _ [325, 37, 302, 303, 304, 36, 305, 93, 83, 326, 327, 2, 328, 329, 330, 331, 332, 333, 334, 85, 335, 336, 337, 338, 339, 340, 341, 342, 343, 344, 345, 346, 347, 348, 349, 350, 351, 352, 353, 354, 822, 823, 824, 825, 826, 827, 828, 829, 830, 875, 876, 877, 878, 879, 880, 881, 882, 883] (by decide +kernel) (by decide +kernel)
set_option maxRecDepth 20000 in
theorem gL_law_X7_makes : GoodIn wsL_law (wsV RL 38 RX7 yX7_makes wsX7_makes) := goodIn_app (goodIn_of _ (by decide +kernel)) ggL_law_X7_makes
set_option maxRecDepth 20000 in
theorem ggL_law_X8_makes : GoodIn wsL_law wsX8_makes := goodIn_r _ [358, 139, 310, 311, 312, 5, 313, 260, 142, 143, 144, 359, 360, 361, 362, 114, 363, 364, 365, 366, 831, 832, 833, 834, 835, 836, 837, 838, 839, 840, 841, 842, 843, 844, 845, 846, 847, 848, 849, 850, 851, 852, 853] (by decide +kernel) (by decide +kernel)
set_option maxRecDepth 20000 in
theorem gL_law_X8_makes : GoodIn wsL_law (wsV RL 42 RX8 yX8_makes wsX8_makes) := goodIn_app (goodIn_of _ (by decide +kernel)) ggL_law_X8_makes
set_option maxRecDepth 20000 in
theorem ggL_law_X7_write : GoodIn wsL_law wsX7_write := goodIn_r _ [370, 37, 20, 302, 303, 304, 36, 305, 93, 83, 371, 106, 107, 19, 108, 56, 372, 373, 374, 375, 53, 376, 377, 378, 379, 380, 381, 382, 383, 54, 384, 385, 386, 387, 57, 388, 332, 333, 334, 85, 335, 336, 337, 2, 338, 339, 340, 341, 342, 343, 344, 345, 346, 347, 348, 349, 350, 351, 389, 102, 103, 104, 55, 105, 352, 353, 354, 822, 823, 824, 825, 826, 827, 828, 829, 830, 880, 881, 882, 883, 875, 876, 877, 878, 879, 859, 860, 861, 862, 863] (by decide +kernel) (by decide +kernel)
set_option maxRecDepth 20000 in
theorem gL_law_X7_write : GoodIn wsL_law (wsV RL 43 RX7 yX7_write wsX7_write) := goodIn_app (goodIn_of _ (by decide +kernel)) ggL_law_X7_write
set_option maxRecDepth 20000 in
theorem ggL_law_X8_write : GoodIn wsL_law wsX8_write := goodIn_r _ [393, 139, 115, 394, 395, 114, 310, 311, 312, 5, 313, 260, 142, 143, 144, 396, 397, 398, 399, 359, 360, 361, 362, 363, 364, 365, 366, 400, 401, 402, 403, 831, 832, 833, 834, 835, 836, 837, 838, 839, 840, 841, 842, 843, 844, 845, 846, 847, 848, 849, 850, 851, 852, 853] (by decide +kernel) (by decide +kernel)
set_option maxRecDepth 20000 in
theorem gL_law_X8_write : GoodIn wsL_law (wsV RL 47 RX8 yX8_write wsX8_write) := goodIn_app (goodIn_of _ (by decide +kernel)) ggL_law_X8_write
set_option maxRecDepth 20000 in
theorem ggL_law_X7_forge : GoodIn wsL_law wsX7_forge := goodIn_r _ [407, 20, 326, 327, 2, 328, 329, 330, 331, 371, 106, 107, 19, 108, 56, 389, 102, 103, 104, 53, 54, 55, 105, 822, 823, 824, 825, 826, 827, 828, 829, 830, 859, 860, 861, 862, 863] (by decide +kernel) (by decide +kernel)
set_option maxRecDepth 20000 in
theorem gL_law_X7_forge : GoodIn wsL_law (wsV RL 48 RX7 yX7_forge wsX7_forge) := goodIn_app (goodIn_of _ (by decide +kernel)) ggL_law_X7_forge
set_option maxRecDepth 20000 in
theorem ggL_law_X8_forge : GoodIn wsL_law wsX8_forge := goodIn_r _ [411, 139, 115, 142, 143, 5, 144, 400, 401, 402, 403, 831, 832, 833, 834, 835, 836, 837, 838, 839, 840, 841, 842, 843, 844, 845, 846, 847, 848, 849, 850, 851, 852, 853] (by decide +kernel) (by decide +kernel)
set_option maxRecDepth 20000 in
theorem gL_law_X8_forge : GoodIn wsL_law (wsV RL 51 RX8 yX8_forge wsX8_forge) := goodIn_app (goodIn_of _ (by decide +kernel)) ggL_law_X8_forge
set_option maxRecDepth 20000 in
theorem ggL_law_X7_undo : GoodIn wsL_law wsX7_undo := goodIn_r _ [415, 20, 822, 823, 824, 825, 826, 827, 828, 829, 830, 859, 860, 861, 862, 863] (by decide +kernel) (by decide +kernel)
set_option maxRecDepth 20000 in
theorem gL_law_X7_undo : GoodIn wsL_law (wsV RL 52 RX7 yX7_undo wsX7_undo) := goodIn_app (goodIn_of _ (by decide +kernel)) ggL_law_X7_undo
set_option maxRecDepth 20000 in
theorem ggL_law_X8_undo : GoodIn wsL_law wsX8_undo := goodIn_r _ [419, 139, 115, 831, 832, 833, 834, 835, 836, 837, 838, 839, 840, 841, 842, 843, 844, 845, 846, 847, 848, 849, 850, 851, 852, 853] (by decide +kernel) (by decide +kernel)
set_option maxRecDepth 20000 in
theorem gL_law_X8_undo : GoodIn wsL_law (wsV RL 55 RX8 yX8_undo wsX8_undo) := goodIn_app (goodIn_of _ (by decide +kernel)) ggL_law_X8_undo
set_option maxRecDepth 20000 in
theorem ggL_law_X7_lot : GoodIn wsL_law wsX7_lot := goodIn_r _ [423, 20, 822, 823, 824, 825, 826, 827, 828, 829, 830, 859, 860, 861, 862, 863] (by decide +kernel) (by decide +kernel)
set_option maxRecDepth 20000 in
theorem gL_law_X7_lot : GoodIn wsL_law (wsV RL 56 RX7 yX7_lot wsX7_lot) := goodIn_app (goodIn_of _ (by decide +kernel)) ggL_law_X7_lot
set_option maxRecDepth 20000 in
theorem ggL_law_X8_lot : GoodIn wsL_law wsX8_lot := goodIn_r _ [427, 139, 115, 831, 832, 833, 834, 835, 836, 837, 838, 839, 840, 841, 842, 843, 844, 845, 846, 847, 848, 849, 850, 851, 852, 853] (by decide +kernel) (by decide +kernel)
set_option maxRecDepth 20000 in
theorem gL_law_X8_lot : GoodIn wsL_law (wsV RL 59 RX8 yX8_lot wsX8_lot) := goodIn_app (goodIn_of _ (by decide +kernel)) ggL_law_X8_lot
set_option maxRecDepth 20000 in
theorem ggL_law_X7_turned : GoodIn wsL_law wsX7_turned := goodIn_r _ [431, 20, 432, 433, 2, 434, 822, 823, 824, 825, 826, 827, 828, 829, 830, 859, 860, 861, 862, 863] (by decide +kernel) (by decide +kernel)
set_option maxRecDepth 20000 in
theorem gL_law_X7_turned : GoodIn wsL_law (wsV RL 60 RX7 yX7_turned wsX7_turned) := goodIn_app (goodIn_of _ (by decide +kernel)) ggL_law_X7_turned
set_option maxRecDepth 20000 in
theorem ggL_law_X8_turned : GoodIn wsL_law wsX8_turned := goodIn_r _ [438, 139, 115, 831, 832, 833, 834, 835, 836, 837, 838, 839, 840, 841, 842, 843, 844, 845, 846, 847, 848, 849, 850, 851, 852, 853] (by decide +kernel) (by decide +kernel)
set_option maxRecDepth 20000 in
theorem gL_law_X8_turned : GoodIn wsL_law (wsV RL 63 RX8 yX8_turned wsX8_turned) := goodIn_app (goodIn_of _ (by decide +kernel)) ggL_law_X8_turned
set_option maxRecDepth 20000 in
theorem ggL_law_X7_who : GoodIn wsL_law wsX7_who := goodIn_r _ [442, 443, 444, 445, 2, 446, 20, 447, 448, 449, 450, 37, 451, 452, 453, 454, 302, 303, 304, 36, 305, 93, 83, 455, 456, 457, 85, 458, 459, 460, 333, 334, 335, 336, 337, 338, 339, 340, 341, 342, 343, 344, 345, 461, 347, 348, 349, 350, 351, 462, 463, 464, 465, 822, 823, 824, 825, 826, 827, 828, 829, 830, 859, 860, 861, 862, 863, 875, 876, 877, 878, 879, 880, 881, 882, 883] (by decide +kernel) (by decide +kernel)
set_option maxRecDepth 20000 in
theorem gL_law_X7_who : GoodIn wsL_law (wsV RL 64 RX7 yX7_who wsX7_who) := goodIn_app (goodIn_of _ (by decide +kernel)) ggL_law_X7_who
set_option maxRecDepth 20000 in
theorem ggL_law_X8_who : GoodIn wsL_law wsX8_who := goodIn_r _ [469, 139, 115, 260, 142, 143, 5, 144, 470, 471, 472, 473, 474, 475, 476, 477, 114, 359, 360, 361, 362, 363, 364, 365, 366, 831, 832, 833, 834, 835, 836, 837, 838, 839, 840, 841, 842, 843, 844, 845, 846, 847, 848, 849, 850, 851, 852, 853] (by decide +kernel) (by decide +kernel)
set_option maxRecDepth 20000 in
theorem gL_law_X8_who : GoodIn wsL_law (wsV RL 67 RX8 yX8_who wsX8_who) := goodIn_app (goodIn_of _ (by decide +kernel)) ggL_law_X8_who
set_option maxRecDepth 20000 in
theorem ggL_law_X7_rows : GoodIn wsL_law wsX7_rows := goodIn_r _ [481, 20, 447, 448, 449, 2, 450, 37, 451, 452, 453, 454, 302, 303, 304, 36, 305, 93, 83, 443, 444, 445, 446, 455, 456, 457, 85, 458, 459, 460, 333, 334, 335, 336, 337, 338, 339, 340, 341, 342, 343, 344, 345, 461, 347, 348, 349, 350, 351, 482, 483, 484, 485, 486, 487, 488, 822, 823, 824, 825, 826, 827, 828, 829, 830, 859, 860, 861, 862, 863, 875, 876, 877, 878, 879, 880, 881, 882, 883] (by decide +kernel) (by decide +kernel)
set_option maxRecDepth 20000 in
theorem gL_law_X7_rows : GoodIn wsL_law (wsV RL 68 RX7 yX7_rows wsX7_rows) := goodIn_app (goodIn_of _ (by decide +kernel)) ggL_law_X7_rows
set_option maxRecDepth 20000 in
theorem ggL_law_X8_rows : GoodIn wsL_law wsX8_rows := goodIn_r _ [492, 139, 115, 470, 471, 472, 5, 473, 260, 474, 475, 476, 477, 114, 359, 360, 361, 362, 363, 364, 365, 366, 493, 494, 495, 831, 832, 833, 834, 835, 836, 837, 838, 839, 840, 841, 842, 843, 844, 845, 846, 847, 848, 849, 850, 851, 852, 853] (by decide +kernel) (by decide +kernel)
set_option maxRecDepth 20000 in
theorem gL_law_X8_rows : GoodIn wsL_law (wsV RL 71 RX8 yX8_rows wsX8_rows) := goodIn_app (goodIn_of _ (by decide +kernel)) ggL_law_X8_rows
set_option maxRecDepth 20000 in
theorem ggL_law_X7_odds : GoodIn wsL_law wsX7_odds := goodIn_r _ [499, 37, 302, 303, 304, 36, 305, 93, 83, 443, 444, 445, 2, 446, 20, 500, 501, 502, 503, 451, 452, 453, 454, 455, 456, 457, 85, 458, 459, 460, 333, 334, 335, 336, 337, 338, 339, 340, 341, 342, 343, 344, 345, 461, 347, 348, 349, 350, 351, 504, 505, 506, 822, 823, 824, 825, 826, 827, 828, 829, 830, 875, 876, 877, 878, 879, 859, 860, 861, 862, 863, 880, 881, 882, 883] (by decide +kernel) (by decide +kernel)
set_option maxRecDepth 20000 in
theorem gL_law_X7_odds : GoodIn wsL_law (wsV RL 72 RX7 yX7_odds wsX7_odds) := goodIn_app (goodIn_of _ (by decide +kernel)) ggL_law_X7_odds
set_option maxRecDepth 20000 in
theorem ggL_law_X8_odds : GoodIn wsL_law wsX8_odds := goodIn_r _ [510, 139, 115, 260, 310, 311, 312, 5, 313, 142, 143, 144, 474, 475, 476, 477, 114, 359, 360, 361, 362, 363, 364, 365, 366, 511, 512, 513, 831, 832, 833, 834, 835, 836, 837, 838, 839, 840, 841, 842, 843, 844, 845, 846, 847, 848, 849, 850, 851, 852, 853] (by decide +kernel) (by decide +kernel)
set_option maxRecDepth 20000 in
theorem gL_law_X8_odds : GoodIn wsL_law (wsV RL 75 RX8 yX8_odds wsX8_odds) := goodIn_app (goodIn_of _ (by decide +kernel)) ggL_law_X8_odds
set_option maxRecDepth 20000 in
theorem ggL_law_X7_order : GoodIn wsL_law wsX7_order := goodIn_r _ [517, 37, 33, 20, 518, 519, 520, 36, 521, 93, 329, 330, 2, 331, 372, 373, 374, 19, 375, 53, 56, 376, 377, 378, 379, 522, 523, 524, 32, 525, 77, 526, 527, 528, 529, 76, 74, 530, 531, 532, 533, 534, 535, 341, 536, 537, 344, 345, 538, 303, 304, 305, 83, 539, 333, 334, 85, 335, 336, 337, 338, 339, 340, 342, 343, 540, 541, 542, 543, 75, 544, 545, 546, 547, 548, 549, 550, 551, 552, 553, 554, 555, 556, 557, 558, 559, 822, 823, 824, 825, 826, 827, 828, 829, 830, 875, 876, 877, 878, 879, 859, 860, 861, 862, 863, 871, 872, 873, 874, 880, 881, 882, 883] (by decide +kernel) (by decide +kernel)
set_option maxRecDepth 20000 in
theorem gL_law_X7_order : GoodIn wsL_law (wsV RL 76 RX7 yX7_order wsX7_order) := goodIn_app (goodIn_of _ (by decide +kernel)) ggL_law_X7_order
set_option maxRecDepth 20000 in
theorem ggL_law_X8_order : GoodIn wsL_law wsX8_order := goodIn_r _ [563, 139, 564, 565, 566, 5, 567, 260, 142, 143, 144, 568, 569, 570, 571, 572, 122, 573, 574, 575, 576, 121, 577, 578, 579, 580, 396, 397, 398, 399, 115, 363, 364, 365, 366, 114, 581, 582, 583, 584, 585, 586, 587, 588, 589, 590, 591, 831, 832, 833, 834, 835, 836, 837, 838, 839, 840, 841, 842, 843, 844, 845, 846, 847, 848, 849, 850, 851, 852, 853] (by decide +kernel) (by decide +kernel)
set_option maxRecDepth 20000 in
theorem gL_law_X8_order : GoodIn wsL_law (wsV RL 79 RX8 yX8_order wsX8_order) := goodIn_app (goodIn_of _ (by decide +kernel)) ggL_law_X8_order
set_option maxRecDepth 20000 in
theorem ggL_law_X7_drift : GoodIn wsL_law wsX7_drift := goodIn_r _ [595, 37, 33, 20, 518, 519, 520, 36, 521, 93, 372, 373, 374, 19, 375, 53, 56, 376, 377, 378, 379, 522, 523, 524, 32, 525, 77, 526, 527, 528, 529, 76, 74, 530, 531, 532, 533, 534, 535, 341, 536, 537, 344, 345, 538, 303, 304, 305, 83, 539, 333, 334, 85, 335, 336, 337, 2, 338, 339, 340, 342, 343, 540, 541, 542, 543, 75, 544, 545, 546, 547, 548, 549, 550, 551, 552, 553, 554, 555, 556, 557, 558, 559, 822, 823, 824, 825, 826, 827, 828, 829, 830, 875, 876, 877, 878, 879, 859, 860, 861, 862, 863, 871, 872, 873, 874, 880, 881, 882, 883] (by decide +kernel) (by decide +kernel)
set_option maxRecDepth 20000 in
theorem gL_law_X7_drift : GoodIn wsL_law (wsV RL 80 RX7 yX7_drift wsX7_drift) := goodIn_app (goodIn_of _ (by decide +kernel)) ggL_law_X7_drift
set_option maxRecDepth 20000 in
theorem ggL_law_X8_drift : GoodIn wsL_law wsX8_drift := goodIn_r _ [599, 139, 564, 565, 566, 5, 567, 260, 142, 143, 144, 568, 569, 570, 571, 572, 122, 573, 574, 575, 576, 121, 577, 578, 579, 580, 396, 397, 398, 399, 115, 363, 364, 365, 366, 114, 581, 582, 583, 584, 585, 586, 587, 588, 589, 590, 591, 831, 832, 833, 834, 835, 836, 837, 838, 839, 840, 841, 842, 843, 844, 845, 846, 847, 848, 849, 850, 851, 852, 853] (by decide +kernel) (by decide +kernel)
set_option maxRecDepth 20000 in
theorem gL_law_X8_drift : GoodIn wsL_law (wsV RL 83 RX8 yX8_drift wsX8_drift) := goodIn_app (goodIn_of _ (by decide +kernel)) ggL_law_X8_drift
set_option maxRecDepth 20000 in
theorem ggL_law_X7_sign : GoodIn wsL_law wsX7_sign := goodIn_r _ [603, 25, 326, 327, 2, 328, 329, 330, 331, 604, 605, 606, 24, 607, 65, 608, 609, 610, 611, 61, 62, 63, 64, 612, 822, 823, 824, 825, 826, 827, 828, 829, 830, 864, 865, 866, 867, 868] (by decide +kernel) (by decide +kernel)
set_option maxRecDepth 20000 in
theorem gL_law_X7_sign : GoodIn wsL_law (wsV RL 84 RX7 yX7_sign wsX7_sign) := goodIn_app (goodIn_of _ (by decide +kernel)) ggL_law_X7_sign
set_option maxRecDepth 20000 in
theorem ggL_law_X8_sign : GoodIn wsL_law wsX8_sign := goodIn_r _ [616, 139, 261, 119, 142, 143, 5, 144, 831, 832, 833, 834, 835, 836, 837, 838, 839, 840, 841, 842, 843, 844, 845, 846, 847, 848, 849, 850, 851, 852, 853] (by decide +kernel) (by decide +kernel)
set_option maxRecDepth 20000 in
theorem gL_law_X8_sign : GoodIn wsL_law (wsV RL 88 RX8 yX8_sign wsX8_sign) := goodIn_app (goodIn_of _ (by decide +kernel)) ggL_law_X8_sign
set_option maxRecDepth 20000 in
theorem ggL_law_X7_learnt : GoodIn wsL_law wsX7_learnt := goodIn_r _ [620, 25, 621, 622, 623, 24, 624, 625, 626, 627, 628, 629, 630, 631, 632, 65, 61, 63, 337, 2, 338, 339, 340, 341, 342, 343, 344, 345, 633, 634, 635, 636, 64, 637, 638, 639, 640, 641, 642, 643, 644, 62, 645, 646, 647, 648, 649, 650, 651, 652, 653, 654, 655, 656, 657, 658, 659, 822, 823, 824, 825, 826, 827, 828, 829, 830, 864, 865, 866, 867, 868] (by decide +kernel) (by decide +kernel)
set_option maxRecDepth 20000 in
theorem gL_law_X7_learnt : GoodIn wsL_law (wsV RL 89 RX7 yX7_learnt wsX7_learnt) := goodIn_app (goodIn_of _ (by decide +kernel)) ggL_law_X7_learnt
set_option maxRecDepth 20000 in
theorem ggL_law_X8_learnt : GoodIn wsL_law wsX8_learnt := goodIn_r _ [663, 139, 142, 143, 5, 144, 664, 665, 666, 667, 261, 119, 668, 669, 670, 671, 831, 832, 833, 834, 835, 836, 837, 838, 839, 840, 841, 842, 843, 844, 845, 846, 847, 848, 849, 850, 851, 852, 853] (by decide +kernel) (by decide +kernel)
set_option maxRecDepth 20000 in
theorem gL_law_X8_learnt : GoodIn wsL_law (wsV RL 92 RX8 yX8_learnt wsX8_learnt) := goodIn_app (goodIn_of _ (by decide +kernel)) ggL_law_X8_learnt
set_option maxRecDepth 20000 in
theorem ggL_law_X7_forget : GoodIn wsL_law wsX7_forget := goodIn_r _ [675, 25, 822, 823, 824, 825, 826, 827, 828, 829, 830, 864, 865, 866, 867, 868] (by decide +kernel) (by decide +kernel)
set_option maxRecDepth 20000 in
theorem gL_law_X7_forget : GoodIn wsL_law (wsV RL 93 RX7 yX7_forget wsX7_forget) := goodIn_app (goodIn_of _ (by decide +kernel)) ggL_law_X7_forget
set_option maxRecDepth 20000 in
theorem ggL_law_X8_forget : GoodIn wsL_law wsX8_forget := goodIn_r _ [679, 139, 261, 831, 832, 833, 834, 835, 836, 837, 838, 839, 840, 841, 842, 843, 844, 845, 846, 847, 848, 849, 850, 851, 852, 853] (by decide +kernel) (by decide +kernel)
set_option maxRecDepth 20000 in
theorem gL_law_X8_forget : GoodIn wsL_law (wsV RL 96 RX8 yX8_forget wsX8_forget) := goodIn_app (goodIn_of _ (by decide +kernel)) ggL_law_X8_forget
set_option maxRecDepth 20000 in
theorem ggL_law_X7_copy : GoodIn wsL_law wsX7_copy := goodIn_r _ [683, 29, 684, 685, 686, 28, 687, 70, 688, 689, 690, 691, 69, 692, 822, 823, 824, 825, 826, 827, 828, 829, 830, 869, 870] (by decide +kernel) (by decide +kernel)
set_option maxRecDepth 20000 in
theorem gL_law_X7_copy : GoodIn wsL_law (wsV RL 97 RX7 yX7_copy wsX7_copy) := goodIn_app (goodIn_of _ (by decide +kernel)) ggL_law_X7_copy
set_option maxRecDepth 20000 in
theorem ggL_law_X8_copy : GoodIn wsL_law wsX8_copy := goodIn_r _ [696, 139, 262, 120, 142, 143, 5, 144, 831, 832, 833, 834, 835, 836, 837, 838, 839, 840, 841, 842, 843, 844, 845, 846, 847, 848, 849, 850, 851, 852, 853] (by decide +kernel) (by decide +kernel)
set_option maxRecDepth 20000 in
theorem gL_law_X8_copy : GoodIn wsL_law (wsV RL 100 RX8 yX8_copy wsX8_copy) := goodIn_app (goodIn_of _ (by decide +kernel)) ggL_law_X8_copy
set_option maxRecDepth 20000 in
theorem ggL_law_X7_came : GoodIn wsL_law wsX7_came := goodIn_r _ [700, 29, 701, 702, 703, 28, 704, 70, 69, 705, 706, 707, 708, 709, 483, 484, 485, 486, 487, 488, 710, 711, 712, 713, 714, 822, 823, 824, 825, 826, 827, 828, 829, 830, 869, 870] (by decide +kernel) (by decide +kernel)
set_option maxRecDepth 20000 in
theorem gL_law_X7_came : GoodIn wsL_law (wsV RL 101 RX7 yX7_came wsX7_came) := goodIn_app (goodIn_of _ (by decide +kernel)) ggL_law_X7_came
set_option maxRecDepth 20000 in
theorem ggL_law_X8_came : GoodIn wsL_law wsX8_came := goodIn_r _ [718, 139, 262, 120, 142, 143, 5, 144, 719, 720, 721, 722, 493, 494, 495, 831, 832, 833, 834, 835, 836, 837, 838, 839, 840, 841, 842, 843, 844, 845, 846, 847, 848, 849, 850, 851, 852, 853] (by decide +kernel) (by decide +kernel)
set_option maxRecDepth 20000 in
theorem gL_law_X8_came : GoodIn wsL_law (wsV RL 104 RX8 yX8_came wsX8_came) := goodIn_app (goodIn_of _ (by decide +kernel)) ggL_law_X8_came
set_option maxRecDepth 20000 in
theorem ggL_law_X7_firsts : GoodIn wsL_law wsX7_firsts := goodIn_r _ [726, 29, 701, 702, 703, 28, 704, 70, 69, 705, 706, 707, 708, 709, 483, 484, 485, 486, 487, 488, 822, 823, 824, 825, 826, 827, 828, 829, 830, 869, 870] (by decide +kernel) (by decide +kernel)
set_option maxRecDepth 20000 in
theorem gL_law_X7_firsts : GoodIn wsL_law (wsV RL 105 RX7 yX7_firsts wsX7_firsts) := goodIn_app (goodIn_of _ (by decide +kernel)) ggL_law_X7_firsts
set_option maxRecDepth 20000 in
theorem ggL_law_X8_firsts : GoodIn wsL_law wsX8_firsts := goodIn_r _ [730, 139, 262, 719, 720, 721, 5, 722, 120, 493, 494, 495, 831, 832, 833, 834, 835, 836, 837, 838, 839, 840, 841, 842, 843, 844, 845, 846, 847, 848, 849, 850, 851, 852, 853] (by decide +kernel) (by decide +kernel)
set_option maxRecDepth 20000 in
theorem gL_law_X8_firsts : GoodIn wsL_law (wsV RL 108 RX8 yX8_firsts wsX8_firsts) := goodIn_app (goodIn_of _ (by decide +kernel)) ggL_law_X8_firsts
set_option maxRecDepth 20000 in
theorem ggL_law_X7_burn : GoodIn wsL_law wsX7_burn := goodIn_r _ [734, 29, 822, 823, 824, 825, 826, 827, 828, 829, 830, 869, 870] (by decide +kernel) (by decide +kernel)
set_option maxRecDepth 20000 in
theorem gL_law_X7_burn : GoodIn wsL_law (wsV RL 109 RX7 yX7_burn wsX7_burn) := goodIn_app (goodIn_of _ (by decide +kernel)) ggL_law_X7_burn
set_option maxRecDepth 20000 in
theorem ggL_law_X8_burn : GoodIn wsL_law wsX8_burn := goodIn_r _ [738, 139, 262, 831, 832, 833, 834, 835, 836, 837, 838, 839, 840, 841, 842, 843, 844, 845, 846, 847, 848, 849, 850, 851, 852, 853] (by decide +kernel) (by decide +kernel)
set_option maxRecDepth 20000 in
theorem gL_law_X8_burn : GoodIn wsL_law (wsV RL 112 RX8 yX8_burn wsX8_burn) := goodIn_app (goodIn_of _ (by decide +kernel)) ggL_law_X8_burn
set_option maxRecDepth 20000 in
theorem ggL_law_X7_rate : GoodIn wsL_law wsX7_rate := goodIn_r _ [742, 37, 743, 302, 303, 304, 36, 305, 93, 83, 744, 745, 746, 2, 747, 39, 748, 749, 750, 751, 752, 482, 483, 484, 485, 486, 487, 488, 753, 754, 755, 756, 757, 758, 759, 760, 761, 762, 763, 764, 765, 766, 767, 768, 769, 770, 771, 772, 822, 823, 824, 825, 826, 827, 828, 829, 830, 875, 876, 877, 878, 879, 880, 881, 882, 883] (by decide +kernel) (by decide +kernel)
set_option maxRecDepth 20000 in
theorem gL_law_X7_rate : GoodIn wsL_law (wsV RL 113 RX7 yX7_rate wsX7_rate) := goodIn_app (goodIn_of _ (by decide +kernel)) ggL_law_X7_rate
set_option maxRecDepth 20000 in
theorem ggL_law_X8_rate : GoodIn wsL_law wsX8_rate := goodIn_r _ [776, 139, 777, 114, 778, 779, 780, 781, 782, 783, 142, 143, 5, 144, 310, 311, 312, 313, 260, 493, 494, 495, 831, 832, 833, 834, 835, 836, 837, 838, 839, 840, 841, 842, 843, 844, 845, 846, 847, 848, 849, 850, 851, 852, 853] (by decide +kernel) (by decide +kernel)
set_option maxRecDepth 20000 in
theorem gL_law_X8_rate : GoodIn wsL_law (wsV RL 116 RX8 yX8_rate wsX8_rate) := goodIn_app (goodIn_of _ (by decide +kernel)) ggL_law_X8_rate
set_option maxRecDepth 20000 in
theorem ggL_law_X7_keep : GoodIn wsL_law wsX7_keep := goodIn_r _ [787, 21, 20, 788, 789, 790, 19, 791, 53, 792, 545, 546, 547, 54, 55, 56, 57, 822, 823, 824, 825, 826, 827, 828, 829, 830, 859, 860, 861, 862, 863] (by decide +kernel) (by decide +kernel)
set_option maxRecDepth 20000 in
theorem gL_law_X7_keep : GoodIn wsL_law (wsV RL 117 RX7 yX7_keep wsX7_keep) := goodIn_app (goodIn_of _ (by decide +kernel)) ggL_law_X7_keep
set_option maxRecDepth 20000 in
theorem ggL_law_X8_keep : GoodIn wsL_law wsX8_keep := goodIn_r _ [796, 139, 116, 115, 118, 142, 143, 5, 144, 831, 832, 833, 834, 835, 836, 837, 838, 839, 840, 841, 842, 843, 844, 845, 846, 847, 848, 849, 850, 851, 852, 853] (by decide +kernel) (by decide +kernel)
set_option maxRecDepth 20000 in
theorem gL_law_X8_keep : GoodIn wsL_law (wsV RL 120 RX8 yX8_keep wsX8_keep) := goodIn_app (goodIn_of _ (by decide +kernel)) ggL_law_X8_keep
set_option maxRecDepth 20000 in
theorem ggL_law_X7_back : GoodIn wsL_law wsX7_back := goodIn_r _ [800, 21, 20, 801, 377, 378, 19, 379, 56, 788, 789, 790, 791, 53, 792, 545, 546, 547, 54, 55, 57, 822, 823, 824, 825, 826, 827, 828, 829, 830, 859, 860, 861, 862, 863] (by decide +kernel) (by decide +kernel)
set_option maxRecDepth 20000 in
theorem gL_law_X7_back : GoodIn wsL_law (wsV RL 121 RX7 yX7_back wsX7_back) := goodIn_app (goodIn_of _ (by decide +kernel)) ggL_law_X7_back
set_option maxRecDepth 20000 in
theorem ggL_law_X8_back : GoodIn wsL_law wsX8_back := goodIn_r _ [805, 139, 118, 115, 116, 142, 143, 5, 144, 831, 832, 833, 834, 835, 836, 837, 838, 839, 840, 841, 842, 843, 844, 845, 846, 847, 848, 849, 850, 851, 852, 853] (by decide +kernel) (by decide +kernel)
set_option maxRecDepth 20000 in
theorem gL_law_X8_back : GoodIn wsL_law (wsV RL 124 RX8 yX8_back wsX8_back) := goodIn_app (goodIn_of _ (by decide +kernel)) ggL_law_X8_back
set_option maxRecDepth 20000 in
theorem ggL_law_X7_count : GoodIn wsL_law wsX7_count := goodIn_r _ [809, 37, 20, 25, 29, 16, 822, 823, 824, 825, 826, 827, 828, 829, 830, 875, 876, 877, 878, 879, 859, 860, 861, 862, 863, 864, 865, 866, 867, 868, 869, 870, 854, 855, 856, 857, 858] (by decide +kernel) (by decide +kernel)
set_option maxRecDepth 20000 in
theorem gL_law_X7_count : GoodIn wsL_law (wsV RL 125 RX7 yX7_count wsX7_count) := goodIn_app (goodIn_of _ (by decide +kernel)) ggL_law_X7_count
set_option maxRecDepth 20000 in
theorem ggL_law_X8_count : GoodIn wsL_law wsX8_count := goodIn_r _ [813, 139, 260, 115, 261, 262, 140, 831, 832, 833, 834, 835, 836, 837, 838, 839, 840, 841, 842, 843, 844, 845, 846, 847, 848, 849, 850, 851, 852, 853] (by decide +kernel) (by decide +kernel)
set_option maxRecDepth 20000 in
theorem gL_law_X8_count : GoodIn wsL_law (wsV RL 128 RX8 yX8_count wsX8_count) := goodIn_app (goodIn_of _ (by decide +kernel)) ggL_law_X8_count
set_option maxRecDepth 20000 in
theorem ggL_law_X7_trace : GoodIn wsL_law wsX7_trace := goodIn_r _ [817, 39, 822, 823, 824, 825, 826, 827, 828, 829, 830] (by decide +kernel) (by decide +kernel)
set_option maxRecDepth 20000 in
theorem gL_law_X7_trace : GoodIn wsL_law (wsV RL 129 RX7 yX7_trace wsX7_trace) := goodIn_app (goodIn_of _ (by decide +kernel)) ggL_law_X7_trace
set_option maxRecDepth 20000 in
theorem ggL_law_X8_trace : GoodIn wsL_law wsX8_trace := goodIn_r _ [821, 139, 778, 831, 832, 833, 834, 835, 836, 837, 838, 839, 840, 841, 842, 843, 844, 845, 846, 847, 848, 849, 850, 851, 852, 853] (by decide +kernel) (by decide +kernel)
set_option maxRecDepth 20000 in
theorem gL_law_X8_trace : GoodIn wsL_law (wsV RL 133 RX8 yX8_trace wsX8_trace) := goodIn_app (goodIn_of _ (by decide +kernel)) ggL_law_X8_trace
theorem dL_law_0 : decode cL_law 0 = .ok (.new 7, 3) := by decide +kernel
theorem dL_law_3 : decode cL_law 3 = .ok (.dup, 1) := by decide +kernel
theorem dL_law_4 : decode cL_law 4 = .ok (.invokespecial 9, 3) := by decide +kernel
theorem dL_law_7 : decode cL_law 7 = .ok (.astore_n 1, 1) := by decide +kernel
theorem dL_law_8 : decode cL_law 8 = .ok (.new 10, 3) := by decide +kernel
theorem dL_law_11 : decode cL_law 11 = .ok (.dup, 1) := by decide +kernel
theorem dL_law_12 : decode cL_law 12 = .ok (.invokespecial 12, 3) := by decide +kernel
theorem dL_law_15 : decode cL_law 15 = .ok (.astore_n 2, 1) := by decide +kernel
theorem dL_law_16 : decode cL_law 16 = .ok (.iconst 0, 1) := by decide +kernel
theorem dL_law_17 : decode cL_law 17 = .ok (.istore_n 3, 1) := by decide +kernel
theorem dL_law_18 : decode cL_law 18 = .ok (.iload_n 3, 1) := by decide +kernel
theorem dL_law_19 : decode cL_law 19 = .ok (.aload_n 0, 1) := by decide +kernel
theorem dL_law_20 : decode cL_law 20 = .ok (.arraylength, 1) := by decide +kernel
theorem dL_law_21 : decode cL_law 21 = .ok (.iconst 5, 1) := by decide +kernel
theorem dL_law_22 : decode cL_law 22 = .ok (.isub, 1) := by decide +kernel
theorem dL_law_23 : decode cL_law 23 = .ok (.if_icmp .gt 898, 3) := by decide +kernel
theorem dL_law_26 : decode cL_law 26 = .ok (.aload_n 0, 1) := by decide +kernel
theorem dL_law_27 : decode cL_law 27 = .ok (.iload_n 3, 1) := by decide +kernel
theorem dL_law_28 : decode cL_law 28 = .ok (.iaload, 1) := by decide +kernel
theorem dL_law_29 : decode cL_law 29 = .ok (.bipush 31, 2) := by decide +kernel
theorem dL_law_31 : decode cL_law 31 = .ok (.iand, 1) := by decide +kernel
theorem dL_law_32 : decode cL_law 32 = .ok (.tableswitch 883 0 27 #[128, 191, 204, 217, 250, 283, 326, 349, 382, 395, 418, 431, 464, 477, 520, 563, 596, 649, 672, 685, 708, 741, 754, 767, 800, 823, 846, 869], 128) := by decide +kernel
theorem dL_law_160 : decode cL_law 160 = .ok (.aload_n 1, 1) := by decide +kernel
theorem dL_law_161 : decode cL_law 161 = .ok (.aload_n 0, 1) := by decide +kernel
theorem dL_law_162 : decode cL_law 162 = .ok (.iload_n 3, 1) := by decide +kernel
theorem dL_law_163 : decode cL_law 163 = .ok (.iconst 1, 1) := by decide +kernel
theorem dL_law_164 : decode cL_law 164 = .ok (.iadd, 1) := by decide +kernel
theorem dL_law_165 : decode cL_law 165 = .ok (.iaload, 1) := by decide +kernel
theorem dL_law_166 : decode cL_law 166 = .ok (.i2l, 1) := by decide +kernel
theorem dL_law_167 : decode cL_law 167 = .ok (.bipush 32, 2) := by decide +kernel
theorem dL_law_169 : decode cL_law 169 = .ok (.lshl, 1) := by decide +kernel
theorem dL_law_170 : decode cL_law 170 = .ok (.aload_n 0, 1) := by decide +kernel
theorem dL_law_171 : decode cL_law 171 = .ok (.iload_n 3, 1) := by decide +kernel
theorem dL_law_172 : decode cL_law 172 = .ok (.iconst 2, 1) := by decide +kernel
theorem dL_law_173 : decode cL_law 173 = .ok (.iadd, 1) := by decide +kernel
theorem dL_law_174 : decode cL_law 174 = .ok (.iaload, 1) := by decide +kernel
theorem dL_law_175 : decode cL_law 175 = .ok (.i2l, 1) := by decide +kernel
theorem dL_law_176 : decode cL_law 176 = .ok (.ldc2_w 13, 3) := by decide +kernel
theorem dL_law_179 : decode cL_law 179 = .ok (.land, 1) := by decide +kernel
theorem dL_law_180 : decode cL_law 180 = .ok (.lor, 1) := by decide +kernel
theorem dL_law_181 : decode cL_law 181 = .ok (.aload_n 0, 1) := by decide +kernel
theorem dL_law_182 : decode cL_law 182 = .ok (.iload_n 3, 1) := by decide +kernel
theorem dL_law_183 : decode cL_law 183 = .ok (.iconst 3, 1) := by decide +kernel
theorem dL_law_184 : decode cL_law 184 = .ok (.iadd, 1) := by decide +kernel
theorem dL_law_185 : decode cL_law 185 = .ok (.iaload, 1) := by decide +kernel
theorem dL_law_186 : decode cL_law 186 = .ok (.invokevirtual 15, 3) := by decide +kernel
theorem dL_law_189 : decode cL_law 189 = .ok (.aload_n 2, 1) := by decide +kernel
theorem dL_law_190 : decode cL_law 190 = .ok (.aload_n 0, 1) := by decide +kernel
theorem dL_law_191 : decode cL_law 191 = .ok (.iload_n 3, 1) := by decide +kernel
theorem dL_law_192 : decode cL_law 192 = .ok (.iconst 1, 1) := by decide +kernel
theorem dL_law_193 : decode cL_law 193 = .ok (.iadd, 1) := by decide +kernel
theorem dL_law_194 : decode cL_law 194 = .ok (.iaload, 1) := by decide +kernel
theorem dL_law_195 : decode cL_law 195 = .ok (.i2l, 1) := by decide +kernel
theorem dL_law_196 : decode cL_law 196 = .ok (.bipush 32, 2) := by decide +kernel
theorem dL_law_198 : decode cL_law 198 = .ok (.lshl, 1) := by decide +kernel
theorem dL_law_199 : decode cL_law 199 = .ok (.aload_n 0, 1) := by decide +kernel
theorem dL_law_200 : decode cL_law 200 = .ok (.iload_n 3, 1) := by decide +kernel
theorem dL_law_201 : decode cL_law 201 = .ok (.iconst 2, 1) := by decide +kernel
theorem dL_law_202 : decode cL_law 202 = .ok (.iadd, 1) := by decide +kernel
theorem dL_law_203 : decode cL_law 203 = .ok (.iaload, 1) := by decide +kernel
theorem dL_law_204 : decode cL_law 204 = .ok (.i2l, 1) := by decide +kernel
theorem dL_law_205 : decode cL_law 205 = .ok (.ldc2_w 13, 3) := by decide +kernel
theorem dL_law_208 : decode cL_law 208 = .ok (.land, 1) := by decide +kernel
theorem dL_law_209 : decode cL_law 209 = .ok (.lor, 1) := by decide +kernel
theorem dL_law_210 : decode cL_law 210 = .ok (.aload_n 0, 1) := by decide +kernel
theorem dL_law_211 : decode cL_law 211 = .ok (.iload_n 3, 1) := by decide +kernel
theorem dL_law_212 : decode cL_law 212 = .ok (.iconst 3, 1) := by decide +kernel
theorem dL_law_213 : decode cL_law 213 = .ok (.iadd, 1) := by decide +kernel
theorem dL_law_214 : decode cL_law 214 = .ok (.iaload, 1) := by decide +kernel
theorem dL_law_215 : decode cL_law 215 = .ok (.invokevirtual 19, 3) := by decide +kernel
theorem dL_law_218 : decode cL_law 218 = .ok (.if_icmp .eq 697, 3) := by decide +kernel
theorem dL_law_221 : decode cL_law 221 = .ok (.iconst 0, 1) := by decide +kernel
theorem dL_law_222 : decode cL_law 222 = .ok (.ireturn, 1) := by decide +kernel
theorem dL_law_223 : decode cL_law 223 = .ok (.aload_n 1, 1) := by decide +kernel
theorem dL_law_224 : decode cL_law 224 = .ok (.invokevirtual 20, 3) := by decide +kernel
theorem dL_law_227 : decode cL_law 227 = .ok (.aload_n 2, 1) := by decide +kernel
theorem dL_law_228 : decode cL_law 228 = .ok (.invokevirtual 24, 3) := by decide +kernel
theorem dL_law_231 : decode cL_law 231 = .ok (.if_icmp .eq 684, 3) := by decide +kernel
theorem dL_law_234 : decode cL_law 234 = .ok (.iconst 0, 1) := by decide +kernel
theorem dL_law_235 : decode cL_law 235 = .ok (.ireturn, 1) := by decide +kernel
theorem dL_law_236 : decode cL_law 236 = .ok (.aload_n 1, 1) := by decide +kernel
theorem dL_law_237 : decode cL_law 237 = .ok (.invokevirtual 25, 3) := by decide +kernel
theorem dL_law_240 : decode cL_law 240 = .ok (.aload_n 2, 1) := by decide +kernel
theorem dL_law_241 : decode cL_law 241 = .ok (.invokevirtual 28, 3) := by decide +kernel
theorem dL_law_244 : decode cL_law 244 = .ok (.if_icmp .eq 671, 3) := by decide +kernel
theorem dL_law_247 : decode cL_law 247 = .ok (.iconst 0, 1) := by decide +kernel
theorem dL_law_248 : decode cL_law 248 = .ok (.ireturn, 1) := by decide +kernel
theorem dL_law_249 : decode cL_law 249 = .ok (.aload_n 1, 1) := by decide +kernel
theorem dL_law_250 : decode cL_law 250 = .ok (.aload_n 0, 1) := by decide +kernel
theorem dL_law_251 : decode cL_law 251 = .ok (.iload_n 3, 1) := by decide +kernel
theorem dL_law_252 : decode cL_law 252 = .ok (.iconst 1, 1) := by decide +kernel
theorem dL_law_253 : decode cL_law 253 = .ok (.iadd, 1) := by decide +kernel
theorem dL_law_254 : decode cL_law 254 = .ok (.iaload, 1) := by decide +kernel
theorem dL_law_255 : decode cL_law 255 = .ok (.aload_n 0, 1) := by decide +kernel
theorem dL_law_256 : decode cL_law 256 = .ok (.iload_n 3, 1) := by decide +kernel
theorem dL_law_257 : decode cL_law 257 = .ok (.iconst 2, 1) := by decide +kernel
theorem dL_law_258 : decode cL_law 258 = .ok (.iadd, 1) := by decide +kernel
theorem dL_law_259 : decode cL_law 259 = .ok (.iaload, 1) := by decide +kernel
theorem dL_law_260 : decode cL_law 260 = .ok (.invokevirtual 29, 3) := by decide +kernel
theorem dL_law_263 : decode cL_law 263 = .ok (.aload_n 2, 1) := by decide +kernel
theorem dL_law_264 : decode cL_law 264 = .ok (.aload_n 0, 1) := by decide +kernel
theorem dL_law_265 : decode cL_law 265 = .ok (.iload_n 3, 1) := by decide +kernel
theorem dL_law_266 : decode cL_law 266 = .ok (.iconst 1, 1) := by decide +kernel
theorem dL_law_267 : decode cL_law 267 = .ok (.iadd, 1) := by decide +kernel
theorem dL_law_268 : decode cL_law 268 = .ok (.iaload, 1) := by decide +kernel
theorem dL_law_269 : decode cL_law 269 = .ok (.aload_n 0, 1) := by decide +kernel
theorem dL_law_270 : decode cL_law 270 = .ok (.iload_n 3, 1) := by decide +kernel
theorem dL_law_271 : decode cL_law 271 = .ok (.iconst 2, 1) := by decide +kernel
theorem dL_law_272 : decode cL_law 272 = .ok (.iadd, 1) := by decide +kernel
theorem dL_law_273 : decode cL_law 273 = .ok (.iaload, 1) := by decide +kernel
theorem dL_law_274 : decode cL_law 274 = .ok (.invokevirtual 33, 3) := by decide +kernel
theorem dL_law_277 : decode cL_law 277 = .ok (.if_icmp .eq 638, 3) := by decide +kernel
theorem dL_law_280 : decode cL_law 280 = .ok (.iconst 0, 1) := by decide +kernel
theorem dL_law_281 : decode cL_law 281 = .ok (.ireturn, 1) := by decide +kernel
theorem dL_law_282 : decode cL_law 282 = .ok (.aload_n 1, 1) := by decide +kernel
theorem dL_law_283 : decode cL_law 283 = .ok (.aload_n 0, 1) := by decide +kernel
theorem dL_law_284 : decode cL_law 284 = .ok (.iload_n 3, 1) := by decide +kernel
theorem dL_law_285 : decode cL_law 285 = .ok (.iconst 1, 1) := by decide +kernel
theorem dL_law_286 : decode cL_law 286 = .ok (.iadd, 1) := by decide +kernel
theorem dL_law_287 : decode cL_law 287 = .ok (.iaload, 1) := by decide +kernel
theorem dL_law_288 : decode cL_law 288 = .ok (.aload_n 0, 1) := by decide +kernel
theorem dL_law_289 : decode cL_law 289 = .ok (.iload_n 3, 1) := by decide +kernel
theorem dL_law_290 : decode cL_law 290 = .ok (.iconst 2, 1) := by decide +kernel
theorem dL_law_291 : decode cL_law 291 = .ok (.iadd, 1) := by decide +kernel
theorem dL_law_292 : decode cL_law 292 = .ok (.iaload, 1) := by decide +kernel
theorem dL_law_293 : decode cL_law 293 = .ok (.invokevirtual 34, 3) := by decide +kernel
theorem dL_law_296 : decode cL_law 296 = .ok (.aload_n 2, 1) := by decide +kernel
theorem dL_law_297 : decode cL_law 297 = .ok (.aload_n 0, 1) := by decide +kernel
theorem dL_law_298 : decode cL_law 298 = .ok (.iload_n 3, 1) := by decide +kernel
theorem dL_law_299 : decode cL_law 299 = .ok (.iconst 1, 1) := by decide +kernel
theorem dL_law_300 : decode cL_law 300 = .ok (.iadd, 1) := by decide +kernel
theorem dL_law_301 : decode cL_law 301 = .ok (.iaload, 1) := by decide +kernel
theorem dL_law_302 : decode cL_law 302 = .ok (.aload_n 0, 1) := by decide +kernel
theorem dL_law_303 : decode cL_law 303 = .ok (.iload_n 3, 1) := by decide +kernel
theorem dL_law_304 : decode cL_law 304 = .ok (.iconst 2, 1) := by decide +kernel
theorem dL_law_305 : decode cL_law 305 = .ok (.iadd, 1) := by decide +kernel
theorem dL_law_306 : decode cL_law 306 = .ok (.iaload, 1) := by decide +kernel
theorem dL_law_307 : decode cL_law 307 = .ok (.invokevirtual 37, 3) := by decide +kernel
theorem dL_law_310 : decode cL_law 310 = .ok (.if_icmp .eq 605, 3) := by decide +kernel
theorem dL_law_313 : decode cL_law 313 = .ok (.iconst 0, 1) := by decide +kernel
theorem dL_law_314 : decode cL_law 314 = .ok (.ireturn, 1) := by decide +kernel
theorem dL_law_315 : decode cL_law 315 = .ok (.aload_n 1, 1) := by decide +kernel
theorem dL_law_316 : decode cL_law 316 = .ok (.aload_n 0, 1) := by decide +kernel
theorem dL_law_317 : decode cL_law 317 = .ok (.iload_n 3, 1) := by decide +kernel
theorem dL_law_318 : decode cL_law 318 = .ok (.iconst 1, 1) := by decide +kernel
theorem dL_law_319 : decode cL_law 319 = .ok (.iadd, 1) := by decide +kernel
theorem dL_law_320 : decode cL_law 320 = .ok (.iaload, 1) := by decide +kernel
theorem dL_law_321 : decode cL_law 321 = .ok (.aload_n 0, 1) := by decide +kernel
theorem dL_law_322 : decode cL_law 322 = .ok (.iload_n 3, 1) := by decide +kernel
theorem dL_law_323 : decode cL_law 323 = .ok (.iconst 2, 1) := by decide +kernel
theorem dL_law_324 : decode cL_law 324 = .ok (.iadd, 1) := by decide +kernel
theorem dL_law_325 : decode cL_law 325 = .ok (.iaload, 1) := by decide +kernel
theorem dL_law_326 : decode cL_law 326 = .ok (.aload_n 0, 1) := by decide +kernel
theorem dL_law_327 : decode cL_law 327 = .ok (.iload_n 3, 1) := by decide +kernel
theorem dL_law_328 : decode cL_law 328 = .ok (.iconst 3, 1) := by decide +kernel
theorem dL_law_329 : decode cL_law 329 = .ok (.iadd, 1) := by decide +kernel
theorem dL_law_330 : decode cL_law 330 = .ok (.iaload, 1) := by decide +kernel
theorem dL_law_331 : decode cL_law 331 = .ok (.invokevirtual 38, 3) := by decide +kernel
theorem dL_law_334 : decode cL_law 334 = .ok (.aload_n 2, 1) := by decide +kernel
theorem dL_law_335 : decode cL_law 335 = .ok (.aload_n 0, 1) := by decide +kernel
theorem dL_law_336 : decode cL_law 336 = .ok (.iload_n 3, 1) := by decide +kernel
theorem dL_law_337 : decode cL_law 337 = .ok (.iconst 1, 1) := by decide +kernel
theorem dL_law_338 : decode cL_law 338 = .ok (.iadd, 1) := by decide +kernel
theorem dL_law_339 : decode cL_law 339 = .ok (.iaload, 1) := by decide +kernel
theorem dL_law_340 : decode cL_law 340 = .ok (.aload_n 0, 1) := by decide +kernel
theorem dL_law_341 : decode cL_law 341 = .ok (.iload_n 3, 1) := by decide +kernel
theorem dL_law_342 : decode cL_law 342 = .ok (.iconst 2, 1) := by decide +kernel
theorem dL_law_343 : decode cL_law 343 = .ok (.iadd, 1) := by decide +kernel
theorem dL_law_344 : decode cL_law 344 = .ok (.iaload, 1) := by decide +kernel
theorem dL_law_345 : decode cL_law 345 = .ok (.aload_n 0, 1) := by decide +kernel
theorem dL_law_346 : decode cL_law 346 = .ok (.iload_n 3, 1) := by decide +kernel
theorem dL_law_347 : decode cL_law 347 = .ok (.iconst 3, 1) := by decide +kernel
theorem dL_law_348 : decode cL_law 348 = .ok (.iadd, 1) := by decide +kernel
theorem dL_law_349 : decode cL_law 349 = .ok (.iaload, 1) := by decide +kernel
theorem dL_law_350 : decode cL_law 350 = .ok (.invokevirtual 42, 3) := by decide +kernel
theorem dL_law_353 : decode cL_law 353 = .ok (.if_icmp .eq 562, 3) := by decide +kernel
theorem dL_law_356 : decode cL_law 356 = .ok (.iconst 0, 1) := by decide +kernel
theorem dL_law_357 : decode cL_law 357 = .ok (.ireturn, 1) := by decide +kernel
theorem dL_law_358 : decode cL_law 358 = .ok (.aload_n 1, 1) := by decide +kernel
theorem dL_law_359 : decode cL_law 359 = .ok (.aload_n 0, 1) := by decide +kernel
theorem dL_law_360 : decode cL_law 360 = .ok (.iload_n 3, 1) := by decide +kernel
theorem dL_law_361 : decode cL_law 361 = .ok (.iconst 1, 1) := by decide +kernel
theorem dL_law_362 : decode cL_law 362 = .ok (.iadd, 1) := by decide +kernel
theorem dL_law_363 : decode cL_law 363 = .ok (.iaload, 1) := by decide +kernel
theorem dL_law_364 : decode cL_law 364 = .ok (.invokevirtual 43, 3) := by decide +kernel
theorem dL_law_367 : decode cL_law 367 = .ok (.aload_n 2, 1) := by decide +kernel
theorem dL_law_368 : decode cL_law 368 = .ok (.aload_n 0, 1) := by decide +kernel
theorem dL_law_369 : decode cL_law 369 = .ok (.iload_n 3, 1) := by decide +kernel
theorem dL_law_370 : decode cL_law 370 = .ok (.iconst 1, 1) := by decide +kernel
theorem dL_law_371 : decode cL_law 371 = .ok (.iadd, 1) := by decide +kernel
theorem dL_law_372 : decode cL_law 372 = .ok (.iaload, 1) := by decide +kernel
theorem dL_law_373 : decode cL_law 373 = .ok (.invokevirtual 47, 3) := by decide +kernel
theorem dL_law_376 : decode cL_law 376 = .ok (.if_icmp .eq 539, 3) := by decide +kernel
theorem dL_law_379 : decode cL_law 379 = .ok (.iconst 0, 1) := by decide +kernel
theorem dL_law_380 : decode cL_law 380 = .ok (.ireturn, 1) := by decide +kernel
theorem dL_law_381 : decode cL_law 381 = .ok (.aload_n 1, 1) := by decide +kernel
theorem dL_law_382 : decode cL_law 382 = .ok (.aload_n 0, 1) := by decide +kernel
theorem dL_law_383 : decode cL_law 383 = .ok (.iload_n 3, 1) := by decide +kernel
theorem dL_law_384 : decode cL_law 384 = .ok (.iconst 1, 1) := by decide +kernel
theorem dL_law_385 : decode cL_law 385 = .ok (.iadd, 1) := by decide +kernel
theorem dL_law_386 : decode cL_law 386 = .ok (.iaload, 1) := by decide +kernel
theorem dL_law_387 : decode cL_law 387 = .ok (.aload_n 0, 1) := by decide +kernel
theorem dL_law_388 : decode cL_law 388 = .ok (.iload_n 3, 1) := by decide +kernel
theorem dL_law_389 : decode cL_law 389 = .ok (.iconst 2, 1) := by decide +kernel
theorem dL_law_390 : decode cL_law 390 = .ok (.iadd, 1) := by decide +kernel
theorem dL_law_391 : decode cL_law 391 = .ok (.iaload, 1) := by decide +kernel
theorem dL_law_392 : decode cL_law 392 = .ok (.invokevirtual 48, 3) := by decide +kernel
theorem dL_law_395 : decode cL_law 395 = .ok (.aload_n 2, 1) := by decide +kernel
theorem dL_law_396 : decode cL_law 396 = .ok (.aload_n 0, 1) := by decide +kernel
theorem dL_law_397 : decode cL_law 397 = .ok (.iload_n 3, 1) := by decide +kernel
theorem dL_law_398 : decode cL_law 398 = .ok (.iconst 1, 1) := by decide +kernel
theorem dL_law_399 : decode cL_law 399 = .ok (.iadd, 1) := by decide +kernel
theorem dL_law_400 : decode cL_law 400 = .ok (.iaload, 1) := by decide +kernel
theorem dL_law_401 : decode cL_law 401 = .ok (.aload_n 0, 1) := by decide +kernel
theorem dL_law_402 : decode cL_law 402 = .ok (.iload_n 3, 1) := by decide +kernel
theorem dL_law_403 : decode cL_law 403 = .ok (.iconst 2, 1) := by decide +kernel
theorem dL_law_404 : decode cL_law 404 = .ok (.iadd, 1) := by decide +kernel
theorem dL_law_405 : decode cL_law 405 = .ok (.iaload, 1) := by decide +kernel
theorem dL_law_406 : decode cL_law 406 = .ok (.invokevirtual 51, 3) := by decide +kernel
theorem dL_law_409 : decode cL_law 409 = .ok (.if_icmp .eq 506, 3) := by decide +kernel
theorem dL_law_412 : decode cL_law 412 = .ok (.iconst 0, 1) := by decide +kernel
theorem dL_law_413 : decode cL_law 413 = .ok (.ireturn, 1) := by decide +kernel
theorem dL_law_414 : decode cL_law 414 = .ok (.aload_n 1, 1) := by decide +kernel
theorem dL_law_415 : decode cL_law 415 = .ok (.invokevirtual 52, 3) := by decide +kernel
theorem dL_law_418 : decode cL_law 418 = .ok (.aload_n 2, 1) := by decide +kernel
theorem dL_law_419 : decode cL_law 419 = .ok (.invokevirtual 55, 3) := by decide +kernel
theorem dL_law_422 : decode cL_law 422 = .ok (.if_icmp .eq 493, 3) := by decide +kernel
theorem dL_law_425 : decode cL_law 425 = .ok (.iconst 0, 1) := by decide +kernel
theorem dL_law_426 : decode cL_law 426 = .ok (.ireturn, 1) := by decide +kernel
theorem dL_law_427 : decode cL_law 427 = .ok (.aload_n 1, 1) := by decide +kernel
theorem dL_law_428 : decode cL_law 428 = .ok (.aload_n 0, 1) := by decide +kernel
theorem dL_law_429 : decode cL_law 429 = .ok (.iload_n 3, 1) := by decide +kernel
theorem dL_law_430 : decode cL_law 430 = .ok (.iconst 1, 1) := by decide +kernel
theorem dL_law_431 : decode cL_law 431 = .ok (.iadd, 1) := by decide +kernel
theorem dL_law_432 : decode cL_law 432 = .ok (.iaload, 1) := by decide +kernel
theorem dL_law_433 : decode cL_law 433 = .ok (.invokevirtual 56, 3) := by decide +kernel
theorem dL_law_436 : decode cL_law 436 = .ok (.aload_n 2, 1) := by decide +kernel
theorem dL_law_437 : decode cL_law 437 = .ok (.aload_n 0, 1) := by decide +kernel
theorem dL_law_438 : decode cL_law 438 = .ok (.iload_n 3, 1) := by decide +kernel
theorem dL_law_439 : decode cL_law 439 = .ok (.iconst 1, 1) := by decide +kernel
theorem dL_law_440 : decode cL_law 440 = .ok (.iadd, 1) := by decide +kernel
theorem dL_law_441 : decode cL_law 441 = .ok (.iaload, 1) := by decide +kernel
theorem dL_law_442 : decode cL_law 442 = .ok (.invokevirtual 59, 3) := by decide +kernel
theorem dL_law_445 : decode cL_law 445 = .ok (.if_icmp .eq 470, 3) := by decide +kernel
theorem dL_law_448 : decode cL_law 448 = .ok (.iconst 0, 1) := by decide +kernel
theorem dL_law_449 : decode cL_law 449 = .ok (.ireturn, 1) := by decide +kernel
theorem dL_law_450 : decode cL_law 450 = .ok (.aload_n 1, 1) := by decide +kernel
theorem dL_law_451 : decode cL_law 451 = .ok (.invokevirtual 60, 3) := by decide +kernel
theorem dL_law_454 : decode cL_law 454 = .ok (.aload_n 2, 1) := by decide +kernel
theorem dL_law_455 : decode cL_law 455 = .ok (.invokevirtual 63, 3) := by decide +kernel
theorem dL_law_458 : decode cL_law 458 = .ok (.if_icmp .eq 457, 3) := by decide +kernel
theorem dL_law_461 : decode cL_law 461 = .ok (.iconst 0, 1) := by decide +kernel
theorem dL_law_462 : decode cL_law 462 = .ok (.ireturn, 1) := by decide +kernel
theorem dL_law_463 : decode cL_law 463 = .ok (.aload_n 1, 1) := by decide +kernel
theorem dL_law_464 : decode cL_law 464 = .ok (.aload_n 0, 1) := by decide +kernel
theorem dL_law_465 : decode cL_law 465 = .ok (.iload_n 3, 1) := by decide +kernel
theorem dL_law_466 : decode cL_law 466 = .ok (.iconst 1, 1) := by decide +kernel
theorem dL_law_467 : decode cL_law 467 = .ok (.iadd, 1) := by decide +kernel
theorem dL_law_468 : decode cL_law 468 = .ok (.iaload, 1) := by decide +kernel
theorem dL_law_469 : decode cL_law 469 = .ok (.aload_n 0, 1) := by decide +kernel
theorem dL_law_470 : decode cL_law 470 = .ok (.iload_n 3, 1) := by decide +kernel
theorem dL_law_471 : decode cL_law 471 = .ok (.iconst 2, 1) := by decide +kernel
theorem dL_law_472 : decode cL_law 472 = .ok (.iadd, 1) := by decide +kernel
theorem dL_law_473 : decode cL_law 473 = .ok (.iaload, 1) := by decide +kernel
theorem dL_law_474 : decode cL_law 474 = .ok (.invokevirtual 64, 3) := by decide +kernel
theorem dL_law_477 : decode cL_law 477 = .ok (.aload_n 2, 1) := by decide +kernel
theorem dL_law_478 : decode cL_law 478 = .ok (.aload_n 0, 1) := by decide +kernel
theorem dL_law_479 : decode cL_law 479 = .ok (.iload_n 3, 1) := by decide +kernel
theorem dL_law_480 : decode cL_law 480 = .ok (.iconst 1, 1) := by decide +kernel
theorem dL_law_481 : decode cL_law 481 = .ok (.iadd, 1) := by decide +kernel
theorem dL_law_482 : decode cL_law 482 = .ok (.iaload, 1) := by decide +kernel
theorem dL_law_483 : decode cL_law 483 = .ok (.aload_n 0, 1) := by decide +kernel
theorem dL_law_484 : decode cL_law 484 = .ok (.iload_n 3, 1) := by decide +kernel
theorem dL_law_485 : decode cL_law 485 = .ok (.iconst 2, 1) := by decide +kernel
theorem dL_law_486 : decode cL_law 486 = .ok (.iadd, 1) := by decide +kernel
theorem dL_law_487 : decode cL_law 487 = .ok (.iaload, 1) := by decide +kernel
theorem dL_law_488 : decode cL_law 488 = .ok (.invokevirtual 67, 3) := by decide +kernel
theorem dL_law_491 : decode cL_law 491 = .ok (.if_icmp .eq 424, 3) := by decide +kernel
theorem dL_law_494 : decode cL_law 494 = .ok (.iconst 0, 1) := by decide +kernel
theorem dL_law_495 : decode cL_law 495 = .ok (.ireturn, 1) := by decide +kernel
theorem dL_law_496 : decode cL_law 496 = .ok (.aload_n 1, 1) := by decide +kernel
theorem dL_law_497 : decode cL_law 497 = .ok (.invokevirtual 68, 3) := by decide +kernel
theorem dL_law_500 : decode cL_law 500 = .ok (.aload_n 2, 1) := by decide +kernel
theorem dL_law_501 : decode cL_law 501 = .ok (.invokevirtual 71, 3) := by decide +kernel
theorem dL_law_504 : decode cL_law 504 = .ok (.if_icmp .eq 411, 3) := by decide +kernel
theorem dL_law_507 : decode cL_law 507 = .ok (.iconst 0, 1) := by decide +kernel
theorem dL_law_508 : decode cL_law 508 = .ok (.ireturn, 1) := by decide +kernel
theorem dL_law_509 : decode cL_law 509 = .ok (.aload_n 1, 1) := by decide +kernel
theorem dL_law_510 : decode cL_law 510 = .ok (.aload_n 0, 1) := by decide +kernel
theorem dL_law_511 : decode cL_law 511 = .ok (.iload_n 3, 1) := by decide +kernel
theorem dL_law_512 : decode cL_law 512 = .ok (.iconst 1, 1) := by decide +kernel
theorem dL_law_513 : decode cL_law 513 = .ok (.iadd, 1) := by decide +kernel
theorem dL_law_514 : decode cL_law 514 = .ok (.iaload, 1) := by decide +kernel
theorem dL_law_515 : decode cL_law 515 = .ok (.aload_n 0, 1) := by decide +kernel
theorem dL_law_516 : decode cL_law 516 = .ok (.iload_n 3, 1) := by decide +kernel
theorem dL_law_517 : decode cL_law 517 = .ok (.iconst 2, 1) := by decide +kernel
theorem dL_law_518 : decode cL_law 518 = .ok (.iadd, 1) := by decide +kernel
theorem dL_law_519 : decode cL_law 519 = .ok (.iaload, 1) := by decide +kernel
theorem dL_law_520 : decode cL_law 520 = .ok (.aload_n 0, 1) := by decide +kernel
theorem dL_law_521 : decode cL_law 521 = .ok (.iload_n 3, 1) := by decide +kernel
theorem dL_law_522 : decode cL_law 522 = .ok (.iconst 3, 1) := by decide +kernel
theorem dL_law_523 : decode cL_law 523 = .ok (.iadd, 1) := by decide +kernel
theorem dL_law_524 : decode cL_law 524 = .ok (.iaload, 1) := by decide +kernel
theorem dL_law_525 : decode cL_law 525 = .ok (.invokevirtual 72, 3) := by decide +kernel
theorem dL_law_528 : decode cL_law 528 = .ok (.aload_n 2, 1) := by decide +kernel
theorem dL_law_529 : decode cL_law 529 = .ok (.aload_n 0, 1) := by decide +kernel
theorem dL_law_530 : decode cL_law 530 = .ok (.iload_n 3, 1) := by decide +kernel
theorem dL_law_531 : decode cL_law 531 = .ok (.iconst 1, 1) := by decide +kernel
theorem dL_law_532 : decode cL_law 532 = .ok (.iadd, 1) := by decide +kernel
theorem dL_law_533 : decode cL_law 533 = .ok (.iaload, 1) := by decide +kernel
theorem dL_law_534 : decode cL_law 534 = .ok (.aload_n 0, 1) := by decide +kernel
theorem dL_law_535 : decode cL_law 535 = .ok (.iload_n 3, 1) := by decide +kernel
theorem dL_law_536 : decode cL_law 536 = .ok (.iconst 2, 1) := by decide +kernel
theorem dL_law_537 : decode cL_law 537 = .ok (.iadd, 1) := by decide +kernel
theorem dL_law_538 : decode cL_law 538 = .ok (.iaload, 1) := by decide +kernel
theorem dL_law_539 : decode cL_law 539 = .ok (.aload_n 0, 1) := by decide +kernel
theorem dL_law_540 : decode cL_law 540 = .ok (.iload_n 3, 1) := by decide +kernel
theorem dL_law_541 : decode cL_law 541 = .ok (.iconst 3, 1) := by decide +kernel
theorem dL_law_542 : decode cL_law 542 = .ok (.iadd, 1) := by decide +kernel
theorem dL_law_543 : decode cL_law 543 = .ok (.iaload, 1) := by decide +kernel
theorem dL_law_544 : decode cL_law 544 = .ok (.invokevirtual 75, 3) := by decide +kernel
theorem dL_law_547 : decode cL_law 547 = .ok (.if_icmp .eq 368, 3) := by decide +kernel
theorem dL_law_550 : decode cL_law 550 = .ok (.iconst 0, 1) := by decide +kernel
theorem dL_law_551 : decode cL_law 551 = .ok (.ireturn, 1) := by decide +kernel
theorem dL_law_552 : decode cL_law 552 = .ok (.aload_n 1, 1) := by decide +kernel
theorem dL_law_553 : decode cL_law 553 = .ok (.aload_n 0, 1) := by decide +kernel
theorem dL_law_554 : decode cL_law 554 = .ok (.iload_n 3, 1) := by decide +kernel
theorem dL_law_555 : decode cL_law 555 = .ok (.iconst 1, 1) := by decide +kernel
theorem dL_law_556 : decode cL_law 556 = .ok (.iadd, 1) := by decide +kernel
theorem dL_law_557 : decode cL_law 557 = .ok (.iaload, 1) := by decide +kernel
theorem dL_law_558 : decode cL_law 558 = .ok (.aload_n 0, 1) := by decide +kernel
theorem dL_law_559 : decode cL_law 559 = .ok (.iload_n 3, 1) := by decide +kernel
theorem dL_law_560 : decode cL_law 560 = .ok (.iconst 2, 1) := by decide +kernel
theorem dL_law_561 : decode cL_law 561 = .ok (.iadd, 1) := by decide +kernel
theorem dL_law_562 : decode cL_law 562 = .ok (.iaload, 1) := by decide +kernel
theorem dL_law_563 : decode cL_law 563 = .ok (.aload_n 0, 1) := by decide +kernel
theorem dL_law_564 : decode cL_law 564 = .ok (.iload_n 3, 1) := by decide +kernel
theorem dL_law_565 : decode cL_law 565 = .ok (.iconst 3, 1) := by decide +kernel
theorem dL_law_566 : decode cL_law 566 = .ok (.iadd, 1) := by decide +kernel
theorem dL_law_567 : decode cL_law 567 = .ok (.iaload, 1) := by decide +kernel
theorem dL_law_568 : decode cL_law 568 = .ok (.invokevirtual 76, 3) := by decide +kernel
theorem dL_law_571 : decode cL_law 571 = .ok (.aload_n 2, 1) := by decide +kernel
theorem dL_law_572 : decode cL_law 572 = .ok (.aload_n 0, 1) := by decide +kernel
theorem dL_law_573 : decode cL_law 573 = .ok (.iload_n 3, 1) := by decide +kernel
theorem dL_law_574 : decode cL_law 574 = .ok (.iconst 1, 1) := by decide +kernel
theorem dL_law_575 : decode cL_law 575 = .ok (.iadd, 1) := by decide +kernel
theorem dL_law_576 : decode cL_law 576 = .ok (.iaload, 1) := by decide +kernel
theorem dL_law_577 : decode cL_law 577 = .ok (.aload_n 0, 1) := by decide +kernel
theorem dL_law_578 : decode cL_law 578 = .ok (.iload_n 3, 1) := by decide +kernel
theorem dL_law_579 : decode cL_law 579 = .ok (.iconst 2, 1) := by decide +kernel
theorem dL_law_580 : decode cL_law 580 = .ok (.iadd, 1) := by decide +kernel
theorem dL_law_581 : decode cL_law 581 = .ok (.iaload, 1) := by decide +kernel
theorem dL_law_582 : decode cL_law 582 = .ok (.aload_n 0, 1) := by decide +kernel
theorem dL_law_583 : decode cL_law 583 = .ok (.iload_n 3, 1) := by decide +kernel
theorem dL_law_584 : decode cL_law 584 = .ok (.iconst 3, 1) := by decide +kernel
theorem dL_law_585 : decode cL_law 585 = .ok (.iadd, 1) := by decide +kernel
theorem dL_law_586 : decode cL_law 586 = .ok (.iaload, 1) := by decide +kernel
theorem dL_law_587 : decode cL_law 587 = .ok (.invokevirtual 79, 3) := by decide +kernel
theorem dL_law_590 : decode cL_law 590 = .ok (.if_icmp .eq 325, 3) := by decide +kernel
theorem dL_law_593 : decode cL_law 593 = .ok (.iconst 0, 1) := by decide +kernel
theorem dL_law_594 : decode cL_law 594 = .ok (.ireturn, 1) := by decide +kernel
theorem dL_law_595 : decode cL_law 595 = .ok (.aload_n 1, 1) := by decide +kernel
theorem dL_law_596 : decode cL_law 596 = .ok (.aload_n 0, 1) := by decide +kernel
theorem dL_law_597 : decode cL_law 597 = .ok (.iload_n 3, 1) := by decide +kernel
theorem dL_law_598 : decode cL_law 598 = .ok (.iconst 1, 1) := by decide +kernel
theorem dL_law_599 : decode cL_law 599 = .ok (.iadd, 1) := by decide +kernel
theorem dL_law_600 : decode cL_law 600 = .ok (.iaload, 1) := by decide +kernel
theorem dL_law_601 : decode cL_law 601 = .ok (.aload_n 0, 1) := by decide +kernel
theorem dL_law_602 : decode cL_law 602 = .ok (.iload_n 3, 1) := by decide +kernel
theorem dL_law_603 : decode cL_law 603 = .ok (.iconst 2, 1) := by decide +kernel
theorem dL_law_604 : decode cL_law 604 = .ok (.iadd, 1) := by decide +kernel
theorem dL_law_605 : decode cL_law 605 = .ok (.iaload, 1) := by decide +kernel
theorem dL_law_606 : decode cL_law 606 = .ok (.invokevirtual 80, 3) := by decide +kernel
theorem dL_law_609 : decode cL_law 609 = .ok (.aload_n 2, 1) := by decide +kernel
theorem dL_law_610 : decode cL_law 610 = .ok (.aload_n 0, 1) := by decide +kernel
theorem dL_law_611 : decode cL_law 611 = .ok (.iload_n 3, 1) := by decide +kernel
theorem dL_law_612 : decode cL_law 612 = .ok (.iconst 1, 1) := by decide +kernel
theorem dL_law_613 : decode cL_law 613 = .ok (.iadd, 1) := by decide +kernel
theorem dL_law_614 : decode cL_law 614 = .ok (.iaload, 1) := by decide +kernel
theorem dL_law_615 : decode cL_law 615 = .ok (.aload_n 0, 1) := by decide +kernel
theorem dL_law_616 : decode cL_law 616 = .ok (.iload_n 3, 1) := by decide +kernel
theorem dL_law_617 : decode cL_law 617 = .ok (.iconst 2, 1) := by decide +kernel
theorem dL_law_618 : decode cL_law 618 = .ok (.iadd, 1) := by decide +kernel
theorem dL_law_619 : decode cL_law 619 = .ok (.iaload, 1) := by decide +kernel
theorem dL_law_620 : decode cL_law 620 = .ok (.invokevirtual 83, 3) := by decide +kernel
theorem dL_law_623 : decode cL_law 623 = .ok (.if_icmp .eq 292, 3) := by decide +kernel
theorem dL_law_626 : decode cL_law 626 = .ok (.iconst 0, 1) := by decide +kernel
theorem dL_law_627 : decode cL_law 627 = .ok (.ireturn, 1) := by decide +kernel
theorem dL_law_628 : decode cL_law 628 = .ok (.aload_n 1, 1) := by decide +kernel
theorem dL_law_629 : decode cL_law 629 = .ok (.aload_n 0, 1) := by decide +kernel
theorem dL_law_630 : decode cL_law 630 = .ok (.iload_n 3, 1) := by decide +kernel
theorem dL_law_631 : decode cL_law 631 = .ok (.iconst 1, 1) := by decide +kernel
theorem dL_law_632 : decode cL_law 632 = .ok (.iadd, 1) := by decide +kernel
theorem dL_law_633 : decode cL_law 633 = .ok (.iaload, 1) := by decide +kernel
theorem dL_law_634 : decode cL_law 634 = .ok (.aload_n 0, 1) := by decide +kernel
theorem dL_law_635 : decode cL_law 635 = .ok (.iload_n 3, 1) := by decide +kernel
theorem dL_law_636 : decode cL_law 636 = .ok (.iconst 2, 1) := by decide +kernel
theorem dL_law_637 : decode cL_law 637 = .ok (.iadd, 1) := by decide +kernel
theorem dL_law_638 : decode cL_law 638 = .ok (.iaload, 1) := by decide +kernel
theorem dL_law_639 : decode cL_law 639 = .ok (.aload_n 0, 1) := by decide +kernel
theorem dL_law_640 : decode cL_law 640 = .ok (.iload_n 3, 1) := by decide +kernel
theorem dL_law_641 : decode cL_law 641 = .ok (.iconst 3, 1) := by decide +kernel
theorem dL_law_642 : decode cL_law 642 = .ok (.iadd, 1) := by decide +kernel
theorem dL_law_643 : decode cL_law 643 = .ok (.iaload, 1) := by decide +kernel
theorem dL_law_644 : decode cL_law 644 = .ok (.aload_n 0, 1) := by decide +kernel
theorem dL_law_645 : decode cL_law 645 = .ok (.iload_n 3, 1) := by decide +kernel
theorem dL_law_646 : decode cL_law 646 = .ok (.iconst 4, 1) := by decide +kernel
theorem dL_law_647 : decode cL_law 647 = .ok (.iadd, 1) := by decide +kernel
theorem dL_law_648 : decode cL_law 648 = .ok (.iaload, 1) := by decide +kernel
theorem dL_law_649 : decode cL_law 649 = .ok (.invokevirtual 84, 3) := by decide +kernel
theorem dL_law_652 : decode cL_law 652 = .ok (.aload_n 2, 1) := by decide +kernel
theorem dL_law_653 : decode cL_law 653 = .ok (.aload_n 0, 1) := by decide +kernel
theorem dL_law_654 : decode cL_law 654 = .ok (.iload_n 3, 1) := by decide +kernel
theorem dL_law_655 : decode cL_law 655 = .ok (.iconst 1, 1) := by decide +kernel
theorem dL_law_656 : decode cL_law 656 = .ok (.iadd, 1) := by decide +kernel
theorem dL_law_657 : decode cL_law 657 = .ok (.iaload, 1) := by decide +kernel
theorem dL_law_658 : decode cL_law 658 = .ok (.aload_n 0, 1) := by decide +kernel
theorem dL_law_659 : decode cL_law 659 = .ok (.iload_n 3, 1) := by decide +kernel
theorem dL_law_660 : decode cL_law 660 = .ok (.iconst 2, 1) := by decide +kernel
theorem dL_law_661 : decode cL_law 661 = .ok (.iadd, 1) := by decide +kernel
theorem dL_law_662 : decode cL_law 662 = .ok (.iaload, 1) := by decide +kernel
theorem dL_law_663 : decode cL_law 663 = .ok (.aload_n 0, 1) := by decide +kernel
theorem dL_law_664 : decode cL_law 664 = .ok (.iload_n 3, 1) := by decide +kernel
theorem dL_law_665 : decode cL_law 665 = .ok (.iconst 3, 1) := by decide +kernel
theorem dL_law_666 : decode cL_law 666 = .ok (.iadd, 1) := by decide +kernel
theorem dL_law_667 : decode cL_law 667 = .ok (.iaload, 1) := by decide +kernel
theorem dL_law_668 : decode cL_law 668 = .ok (.aload_n 0, 1) := by decide +kernel
theorem dL_law_669 : decode cL_law 669 = .ok (.iload_n 3, 1) := by decide +kernel
theorem dL_law_670 : decode cL_law 670 = .ok (.iconst 4, 1) := by decide +kernel
theorem dL_law_671 : decode cL_law 671 = .ok (.iadd, 1) := by decide +kernel
theorem dL_law_672 : decode cL_law 672 = .ok (.iaload, 1) := by decide +kernel
theorem dL_law_673 : decode cL_law 673 = .ok (.invokevirtual 88, 3) := by decide +kernel
theorem dL_law_676 : decode cL_law 676 = .ok (.if_icmp .eq 239, 3) := by decide +kernel
theorem dL_law_679 : decode cL_law 679 = .ok (.iconst 0, 1) := by decide +kernel
theorem dL_law_680 : decode cL_law 680 = .ok (.ireturn, 1) := by decide +kernel
theorem dL_law_681 : decode cL_law 681 = .ok (.aload_n 1, 1) := by decide +kernel
theorem dL_law_682 : decode cL_law 682 = .ok (.aload_n 0, 1) := by decide +kernel
theorem dL_law_683 : decode cL_law 683 = .ok (.iload_n 3, 1) := by decide +kernel
theorem dL_law_684 : decode cL_law 684 = .ok (.iconst 1, 1) := by decide +kernel
theorem dL_law_685 : decode cL_law 685 = .ok (.iadd, 1) := by decide +kernel
theorem dL_law_686 : decode cL_law 686 = .ok (.iaload, 1) := by decide +kernel
theorem dL_law_687 : decode cL_law 687 = .ok (.invokevirtual 89, 3) := by decide +kernel
theorem dL_law_690 : decode cL_law 690 = .ok (.aload_n 2, 1) := by decide +kernel
theorem dL_law_691 : decode cL_law 691 = .ok (.aload_n 0, 1) := by decide +kernel
theorem dL_law_692 : decode cL_law 692 = .ok (.iload_n 3, 1) := by decide +kernel
theorem dL_law_693 : decode cL_law 693 = .ok (.iconst 1, 1) := by decide +kernel
theorem dL_law_694 : decode cL_law 694 = .ok (.iadd, 1) := by decide +kernel
theorem dL_law_695 : decode cL_law 695 = .ok (.iaload, 1) := by decide +kernel
theorem dL_law_696 : decode cL_law 696 = .ok (.invokevirtual 92, 3) := by decide +kernel
theorem dL_law_699 : decode cL_law 699 = .ok (.if_icmp .eq 216, 3) := by decide +kernel
theorem dL_law_702 : decode cL_law 702 = .ok (.iconst 0, 1) := by decide +kernel
theorem dL_law_703 : decode cL_law 703 = .ok (.ireturn, 1) := by decide +kernel
theorem dL_law_704 : decode cL_law 704 = .ok (.aload_n 1, 1) := by decide +kernel
theorem dL_law_705 : decode cL_law 705 = .ok (.invokevirtual 93, 3) := by decide +kernel
theorem dL_law_708 : decode cL_law 708 = .ok (.aload_n 2, 1) := by decide +kernel
theorem dL_law_709 : decode cL_law 709 = .ok (.invokevirtual 96, 3) := by decide +kernel
theorem dL_law_712 : decode cL_law 712 = .ok (.if_icmp .eq 203, 3) := by decide +kernel
theorem dL_law_715 : decode cL_law 715 = .ok (.iconst 0, 1) := by decide +kernel
theorem dL_law_716 : decode cL_law 716 = .ok (.ireturn, 1) := by decide +kernel
theorem dL_law_717 : decode cL_law 717 = .ok (.aload_n 1, 1) := by decide +kernel
theorem dL_law_718 : decode cL_law 718 = .ok (.aload_n 0, 1) := by decide +kernel
theorem dL_law_719 : decode cL_law 719 = .ok (.iload_n 3, 1) := by decide +kernel
theorem dL_law_720 : decode cL_law 720 = .ok (.iconst 1, 1) := by decide +kernel
theorem dL_law_721 : decode cL_law 721 = .ok (.iadd, 1) := by decide +kernel
theorem dL_law_722 : decode cL_law 722 = .ok (.iaload, 1) := by decide +kernel
theorem dL_law_723 : decode cL_law 723 = .ok (.invokevirtual 97, 3) := by decide +kernel
theorem dL_law_726 : decode cL_law 726 = .ok (.aload_n 2, 1) := by decide +kernel
theorem dL_law_727 : decode cL_law 727 = .ok (.aload_n 0, 1) := by decide +kernel
theorem dL_law_728 : decode cL_law 728 = .ok (.iload_n 3, 1) := by decide +kernel
theorem dL_law_729 : decode cL_law 729 = .ok (.iconst 1, 1) := by decide +kernel
theorem dL_law_730 : decode cL_law 730 = .ok (.iadd, 1) := by decide +kernel
theorem dL_law_731 : decode cL_law 731 = .ok (.iaload, 1) := by decide +kernel
theorem dL_law_732 : decode cL_law 732 = .ok (.invokevirtual 100, 3) := by decide +kernel
theorem dL_law_735 : decode cL_law 735 = .ok (.if_icmp .eq 180, 3) := by decide +kernel
theorem dL_law_738 : decode cL_law 738 = .ok (.iconst 0, 1) := by decide +kernel
theorem dL_law_739 : decode cL_law 739 = .ok (.ireturn, 1) := by decide +kernel
theorem dL_law_740 : decode cL_law 740 = .ok (.aload_n 1, 1) := by decide +kernel
theorem dL_law_741 : decode cL_law 741 = .ok (.aload_n 0, 1) := by decide +kernel
theorem dL_law_742 : decode cL_law 742 = .ok (.iload_n 3, 1) := by decide +kernel
theorem dL_law_743 : decode cL_law 743 = .ok (.iconst 1, 1) := by decide +kernel
theorem dL_law_744 : decode cL_law 744 = .ok (.iadd, 1) := by decide +kernel
theorem dL_law_745 : decode cL_law 745 = .ok (.iaload, 1) := by decide +kernel
theorem dL_law_746 : decode cL_law 746 = .ok (.aload_n 0, 1) := by decide +kernel
theorem dL_law_747 : decode cL_law 747 = .ok (.iload_n 3, 1) := by decide +kernel
theorem dL_law_748 : decode cL_law 748 = .ok (.iconst 2, 1) := by decide +kernel
theorem dL_law_749 : decode cL_law 749 = .ok (.iadd, 1) := by decide +kernel
theorem dL_law_750 : decode cL_law 750 = .ok (.iaload, 1) := by decide +kernel
theorem dL_law_751 : decode cL_law 751 = .ok (.invokevirtual 101, 3) := by decide +kernel
theorem dL_law_754 : decode cL_law 754 = .ok (.aload_n 2, 1) := by decide +kernel
theorem dL_law_755 : decode cL_law 755 = .ok (.aload_n 0, 1) := by decide +kernel
theorem dL_law_756 : decode cL_law 756 = .ok (.iload_n 3, 1) := by decide +kernel
theorem dL_law_757 : decode cL_law 757 = .ok (.iconst 1, 1) := by decide +kernel
theorem dL_law_758 : decode cL_law 758 = .ok (.iadd, 1) := by decide +kernel
theorem dL_law_759 : decode cL_law 759 = .ok (.iaload, 1) := by decide +kernel
theorem dL_law_760 : decode cL_law 760 = .ok (.aload_n 0, 1) := by decide +kernel
theorem dL_law_761 : decode cL_law 761 = .ok (.iload_n 3, 1) := by decide +kernel
theorem dL_law_762 : decode cL_law 762 = .ok (.iconst 2, 1) := by decide +kernel
theorem dL_law_763 : decode cL_law 763 = .ok (.iadd, 1) := by decide +kernel
theorem dL_law_764 : decode cL_law 764 = .ok (.iaload, 1) := by decide +kernel
theorem dL_law_765 : decode cL_law 765 = .ok (.invokevirtual 104, 3) := by decide +kernel
theorem dL_law_768 : decode cL_law 768 = .ok (.if_icmp .eq 147, 3) := by decide +kernel
theorem dL_law_771 : decode cL_law 771 = .ok (.iconst 0, 1) := by decide +kernel
theorem dL_law_772 : decode cL_law 772 = .ok (.ireturn, 1) := by decide +kernel
theorem dL_law_773 : decode cL_law 773 = .ok (.aload_n 1, 1) := by decide +kernel
theorem dL_law_774 : decode cL_law 774 = .ok (.invokevirtual 105, 3) := by decide +kernel
theorem dL_law_777 : decode cL_law 777 = .ok (.aload_n 2, 1) := by decide +kernel
theorem dL_law_778 : decode cL_law 778 = .ok (.invokevirtual 108, 3) := by decide +kernel
theorem dL_law_781 : decode cL_law 781 = .ok (.if_icmp .eq 134, 3) := by decide +kernel
theorem dL_law_784 : decode cL_law 784 = .ok (.iconst 0, 1) := by decide +kernel
theorem dL_law_785 : decode cL_law 785 = .ok (.ireturn, 1) := by decide +kernel
theorem dL_law_786 : decode cL_law 786 = .ok (.aload_n 1, 1) := by decide +kernel
theorem dL_law_787 : decode cL_law 787 = .ok (.invokevirtual 109, 3) := by decide +kernel
theorem dL_law_790 : decode cL_law 790 = .ok (.aload_n 2, 1) := by decide +kernel
theorem dL_law_791 : decode cL_law 791 = .ok (.invokevirtual 112, 3) := by decide +kernel
theorem dL_law_794 : decode cL_law 794 = .ok (.if_icmp .eq 121, 3) := by decide +kernel
theorem dL_law_797 : decode cL_law 797 = .ok (.iconst 0, 1) := by decide +kernel
theorem dL_law_798 : decode cL_law 798 = .ok (.ireturn, 1) := by decide +kernel
theorem dL_law_799 : decode cL_law 799 = .ok (.aload_n 1, 1) := by decide +kernel
theorem dL_law_800 : decode cL_law 800 = .ok (.aload_n 0, 1) := by decide +kernel
theorem dL_law_801 : decode cL_law 801 = .ok (.iload_n 3, 1) := by decide +kernel
theorem dL_law_802 : decode cL_law 802 = .ok (.iconst 1, 1) := by decide +kernel
theorem dL_law_803 : decode cL_law 803 = .ok (.iadd, 1) := by decide +kernel
theorem dL_law_804 : decode cL_law 804 = .ok (.iaload, 1) := by decide +kernel
theorem dL_law_805 : decode cL_law 805 = .ok (.aload_n 0, 1) := by decide +kernel
theorem dL_law_806 : decode cL_law 806 = .ok (.iload_n 3, 1) := by decide +kernel
theorem dL_law_807 : decode cL_law 807 = .ok (.iconst 2, 1) := by decide +kernel
theorem dL_law_808 : decode cL_law 808 = .ok (.iadd, 1) := by decide +kernel
theorem dL_law_809 : decode cL_law 809 = .ok (.iaload, 1) := by decide +kernel
theorem dL_law_810 : decode cL_law 810 = .ok (.invokevirtual 113, 3) := by decide +kernel
theorem dL_law_813 : decode cL_law 813 = .ok (.aload_n 2, 1) := by decide +kernel
theorem dL_law_814 : decode cL_law 814 = .ok (.aload_n 0, 1) := by decide +kernel
theorem dL_law_815 : decode cL_law 815 = .ok (.iload_n 3, 1) := by decide +kernel
theorem dL_law_816 : decode cL_law 816 = .ok (.iconst 1, 1) := by decide +kernel
theorem dL_law_817 : decode cL_law 817 = .ok (.iadd, 1) := by decide +kernel
theorem dL_law_818 : decode cL_law 818 = .ok (.iaload, 1) := by decide +kernel
theorem dL_law_819 : decode cL_law 819 = .ok (.aload_n 0, 1) := by decide +kernel
theorem dL_law_820 : decode cL_law 820 = .ok (.iload_n 3, 1) := by decide +kernel
theorem dL_law_821 : decode cL_law 821 = .ok (.iconst 2, 1) := by decide +kernel
theorem dL_law_822 : decode cL_law 822 = .ok (.iadd, 1) := by decide +kernel
theorem dL_law_823 : decode cL_law 823 = .ok (.iaload, 1) := by decide +kernel
theorem dL_law_824 : decode cL_law 824 = .ok (.invokevirtual 116, 3) := by decide +kernel
theorem dL_law_827 : decode cL_law 827 = .ok (.if_icmp .eq 88, 3) := by decide +kernel
theorem dL_law_830 : decode cL_law 830 = .ok (.iconst 0, 1) := by decide +kernel
theorem dL_law_831 : decode cL_law 831 = .ok (.ireturn, 1) := by decide +kernel
theorem dL_law_832 : decode cL_law 832 = .ok (.aload_n 1, 1) := by decide +kernel
theorem dL_law_833 : decode cL_law 833 = .ok (.aload_n 0, 1) := by decide +kernel
theorem dL_law_834 : decode cL_law 834 = .ok (.iload_n 3, 1) := by decide +kernel
theorem dL_law_835 : decode cL_law 835 = .ok (.iconst 1, 1) := by decide +kernel
theorem dL_law_836 : decode cL_law 836 = .ok (.iadd, 1) := by decide +kernel
theorem dL_law_837 : decode cL_law 837 = .ok (.iaload, 1) := by decide +kernel
theorem dL_law_838 : decode cL_law 838 = .ok (.invokevirtual 117, 3) := by decide +kernel
theorem dL_law_841 : decode cL_law 841 = .ok (.aload_n 2, 1) := by decide +kernel
theorem dL_law_842 : decode cL_law 842 = .ok (.aload_n 0, 1) := by decide +kernel
theorem dL_law_843 : decode cL_law 843 = .ok (.iload_n 3, 1) := by decide +kernel
theorem dL_law_844 : decode cL_law 844 = .ok (.iconst 1, 1) := by decide +kernel
theorem dL_law_845 : decode cL_law 845 = .ok (.iadd, 1) := by decide +kernel
theorem dL_law_846 : decode cL_law 846 = .ok (.iaload, 1) := by decide +kernel
theorem dL_law_847 : decode cL_law 847 = .ok (.invokevirtual 120, 3) := by decide +kernel
theorem dL_law_850 : decode cL_law 850 = .ok (.if_icmp .eq 65, 3) := by decide +kernel
theorem dL_law_853 : decode cL_law 853 = .ok (.iconst 0, 1) := by decide +kernel
theorem dL_law_854 : decode cL_law 854 = .ok (.ireturn, 1) := by decide +kernel
theorem dL_law_855 : decode cL_law 855 = .ok (.aload_n 1, 1) := by decide +kernel
theorem dL_law_856 : decode cL_law 856 = .ok (.aload_n 0, 1) := by decide +kernel
theorem dL_law_857 : decode cL_law 857 = .ok (.iload_n 3, 1) := by decide +kernel
theorem dL_law_858 : decode cL_law 858 = .ok (.iconst 1, 1) := by decide +kernel
theorem dL_law_859 : decode cL_law 859 = .ok (.iadd, 1) := by decide +kernel
theorem dL_law_860 : decode cL_law 860 = .ok (.iaload, 1) := by decide +kernel
theorem dL_law_861 : decode cL_law 861 = .ok (.invokevirtual 121, 3) := by decide +kernel
theorem dL_law_864 : decode cL_law 864 = .ok (.aload_n 2, 1) := by decide +kernel
theorem dL_law_865 : decode cL_law 865 = .ok (.aload_n 0, 1) := by decide +kernel
theorem dL_law_866 : decode cL_law 866 = .ok (.iload_n 3, 1) := by decide +kernel
theorem dL_law_867 : decode cL_law 867 = .ok (.iconst 1, 1) := by decide +kernel
theorem dL_law_868 : decode cL_law 868 = .ok (.iadd, 1) := by decide +kernel
theorem dL_law_869 : decode cL_law 869 = .ok (.iaload, 1) := by decide +kernel
theorem dL_law_870 : decode cL_law 870 = .ok (.invokevirtual 124, 3) := by decide +kernel
theorem dL_law_873 : decode cL_law 873 = .ok (.if_icmp .eq 42, 3) := by decide +kernel
theorem dL_law_876 : decode cL_law 876 = .ok (.iconst 0, 1) := by decide +kernel
theorem dL_law_877 : decode cL_law 877 = .ok (.ireturn, 1) := by decide +kernel
theorem dL_law_878 : decode cL_law 878 = .ok (.aload_n 1, 1) := by decide +kernel
theorem dL_law_879 : decode cL_law 879 = .ok (.aload_n 0, 1) := by decide +kernel
theorem dL_law_880 : decode cL_law 880 = .ok (.iload_n 3, 1) := by decide +kernel
theorem dL_law_881 : decode cL_law 881 = .ok (.iconst 1, 1) := by decide +kernel
theorem dL_law_882 : decode cL_law 882 = .ok (.iadd, 1) := by decide +kernel
theorem dL_law_883 : decode cL_law 883 = .ok (.iaload, 1) := by decide +kernel
theorem dL_law_884 : decode cL_law 884 = .ok (.invokevirtual 125, 3) := by decide +kernel
theorem dL_law_887 : decode cL_law 887 = .ok (.aload_n 2, 1) := by decide +kernel
theorem dL_law_888 : decode cL_law 888 = .ok (.aload_n 0, 1) := by decide +kernel
theorem dL_law_889 : decode cL_law 889 = .ok (.iload_n 3, 1) := by decide +kernel
theorem dL_law_890 : decode cL_law 890 = .ok (.iconst 1, 1) := by decide +kernel
theorem dL_law_891 : decode cL_law 891 = .ok (.iadd, 1) := by decide +kernel
theorem dL_law_892 : decode cL_law 892 = .ok (.iaload, 1) := by decide +kernel
theorem dL_law_893 : decode cL_law 893 = .ok (.invokevirtual 128, 3) := by decide +kernel
theorem dL_law_896 : decode cL_law 896 = .ok (.if_icmp .eq 19, 3) := by decide +kernel
theorem dL_law_899 : decode cL_law 899 = .ok (.iconst 0, 1) := by decide +kernel
theorem dL_law_900 : decode cL_law 900 = .ok (.ireturn, 1) := by decide +kernel
theorem dL_law_901 : decode cL_law 901 = .ok (.aload_n 1, 1) := by decide +kernel
theorem dL_law_902 : decode cL_law 902 = .ok (.invokevirtual 129, 3) := by decide +kernel
theorem dL_law_905 : decode cL_law 905 = .ok (.aload_n 2, 1) := by decide +kernel
theorem dL_law_906 : decode cL_law 906 = .ok (.invokevirtual 133, 3) := by decide +kernel
theorem dL_law_909 : decode cL_law 909 = .ok (.lcmp, 1) := by decide +kernel
theorem dL_law_910 : decode cL_law 910 = .ok (.ifCond .eq 5, 3) := by decide +kernel
theorem dL_law_913 : decode cL_law 913 = .ok (.iconst 0, 1) := by decide +kernel
theorem dL_law_914 : decode cL_law 914 = .ok (.ireturn, 1) := by decide +kernel
theorem dL_law_915 : decode cL_law 915 = .ok (.iinc 3 5, 3) := by decide +kernel
theorem dL_law_918 : decode cL_law 918 = .ok (.goto (-900), 3) := by decide +kernel
theorem dL_law_921 : decode cL_law 921 = .ok (.iconst 1, 1) := by decide +kernel
theorem dL_law_922 : decode cL_law 922 = .ok (.ireturn, 1) := by decide +kernel
