theorem dX0_init_0 : decode cX0_init 0 = .ok (.aload_n 0, 1) := by decide +kernel
theorem dX0_init_1 : decode cX0_init 1 = .ok (.invokespecial 1, 3) := by decide +kernel
theorem dX0_init_4 : decode cX0_init 4 = .ok (.aload_n 0, 1) := by decide +kernel
theorem dX0_init_5 : decode cX0_init 5 = .ok (.lload_n 1, 1) := by decide +kernel
theorem dX0_init_6 : decode cX0_init 6 = .ok (.putfield 7, 3) := by decide +kernel
theorem dX0_init_9 : decode cX0_init 9 = .ok (.aload_n 0, 1) := by decide +kernel
theorem dX0_init_10 : decode cX0_init 10 = .ok (.lload_n 3, 1) := by decide +kernel
theorem dX0_init_11 : decode cX0_init 11 = .ok (.putfield 13, 3) := by decide +kernel
theorem dX0_init_14 : decode cX0_init 14 = .ok (.aload_n 0, 1) := by decide +kernel
theorem dX0_init_15 : decode cX0_init 15 = .ok (.iload 5, 2) := by decide +kernel
theorem dX0_init_17 : decode cX0_init 17 = .ok (.putfield 16, 3) := by decide +kernel
theorem dX0_init_20 : decode cX0_init 20 = .ok (.aload_n 0, 1) := by decide +kernel
theorem dX0_init_21 : decode cX0_init 21 = .ok (.iload 6, 2) := by decide +kernel
theorem dX0_init_23 : decode cX0_init 23 = .ok (.putfield 20, 3) := by decide +kernel
theorem dX0_init_26 : decode cX0_init 26 = .ok (.return_, 1) := by decide +kernel
theorem dX0_size_0 : decode cX0_size 0 = .ok (.aload_n 0, 1) := by decide +kernel
theorem dX0_size_1 : decode cX0_size 1 = .ok (.getfield 16, 3) := by decide +kernel
theorem dX0_size_4 : decode cX0_size 4 = .ok (.aload_n 0, 1) := by decide +kernel
theorem dX0_size_5 : decode cX0_size 5 = .ok (.getfield 20, 3) := by decide +kernel
theorem dX0_size_8 : decode cX0_size 8 = .ok (.imul, 1) := by decide +kernel
theorem dX0_size_9 : decode cX0_size 9 = .ok (.ireturn, 1) := by decide +kernel
theorem dX0_holds_0 : decode cX0_holds 0 = .ok (.lload_n 1, 1) := by decide +kernel
theorem dX0_holds_1 : decode cX0_holds 1 = .ok (.aload_n 0, 1) := by decide +kernel
theorem dX0_holds_2 : decode cX0_holds 2 = .ok (.getfield 7, 3) := by decide +kernel
theorem dX0_holds_5 : decode cX0_holds 5 = .ok (.lcmp, 1) := by decide +kernel
theorem dX0_holds_6 : decode cX0_holds 6 = .ok (.ifCond .lt 46, 3) := by decide +kernel
theorem dX0_holds_9 : decode cX0_holds 9 = .ok (.lload_n 1, 1) := by decide +kernel
theorem dX0_holds_10 : decode cX0_holds 10 = .ok (.aload_n 0, 1) := by decide +kernel
theorem dX0_holds_11 : decode cX0_holds 11 = .ok (.getfield 7, 3) := by decide +kernel
theorem dX0_holds_14 : decode cX0_holds 14 = .ok (.aload_n 0, 1) := by decide +kernel
theorem dX0_holds_15 : decode cX0_holds 15 = .ok (.getfield 16, 3) := by decide +kernel
theorem dX0_holds_18 : decode cX0_holds 18 = .ok (.i2l, 1) := by decide +kernel
theorem dX0_holds_19 : decode cX0_holds 19 = .ok (.ladd, 1) := by decide +kernel
theorem dX0_holds_20 : decode cX0_holds 20 = .ok (.lcmp, 1) := by decide +kernel
theorem dX0_holds_21 : decode cX0_holds 21 = .ok (.ifCond .ge 31, 3) := by decide +kernel
theorem dX0_holds_24 : decode cX0_holds 24 = .ok (.lload_n 3, 1) := by decide +kernel
theorem dX0_holds_25 : decode cX0_holds 25 = .ok (.aload_n 0, 1) := by decide +kernel
theorem dX0_holds_26 : decode cX0_holds 26 = .ok (.getfield 13, 3) := by decide +kernel
theorem dX0_holds_29 : decode cX0_holds 29 = .ok (.lcmp, 1) := by decide +kernel
theorem dX0_holds_30 : decode cX0_holds 30 = .ok (.ifCond .lt 22, 3) := by decide +kernel
theorem dX0_holds_33 : decode cX0_holds 33 = .ok (.lload_n 3, 1) := by decide +kernel
theorem dX0_holds_34 : decode cX0_holds 34 = .ok (.aload_n 0, 1) := by decide +kernel
theorem dX0_holds_35 : decode cX0_holds 35 = .ok (.getfield 13, 3) := by decide +kernel
theorem dX0_holds_38 : decode cX0_holds 38 = .ok (.aload_n 0, 1) := by decide +kernel
theorem dX0_holds_39 : decode cX0_holds 39 = .ok (.getfield 20, 3) := by decide +kernel
theorem dX0_holds_42 : decode cX0_holds 42 = .ok (.i2l, 1) := by decide +kernel
theorem dX0_holds_43 : decode cX0_holds 43 = .ok (.ladd, 1) := by decide +kernel
theorem dX0_holds_44 : decode cX0_holds 44 = .ok (.lcmp, 1) := by decide +kernel
theorem dX0_holds_45 : decode cX0_holds 45 = .ok (.ifCond .ge 7, 3) := by decide +kernel
theorem dX0_holds_48 : decode cX0_holds 48 = .ok (.iconst 1, 1) := by decide +kernel
theorem dX0_holds_49 : decode cX0_holds 49 = .ok (.goto 4, 3) := by decide +kernel
theorem dX0_holds_52 : decode cX0_holds 52 = .ok (.iconst 0, 1) := by decide +kernel
theorem dX0_holds_53 : decode cX0_holds 53 = .ok (.ireturn, 1) := by decide +kernel
set_option maxRecDepth 100000 in
theorem ggX0_movedBy_X0_init : GoodIn wsX0_movedBy wsX0_init := goodIn_r _ [10, 11, 12, 13, 4, 5, 6, 7, 14, 15, 16, 17] rfl (by decide +kernel)
set_option maxRecDepth 20000 in
theorem gX0_movedBy_X0_init : GoodIn wsX0_movedBy (wsX0_init) := ggX0_movedBy_X0_init
theorem dX0_movedBy_0 : decode cX0_movedBy 0 = .ok (.new 8, 3) := by decide +kernel
theorem dX0_movedBy_3 : decode cX0_movedBy 3 = .ok (.dup, 1) := by decide +kernel
theorem dX0_movedBy_4 : decode cX0_movedBy 4 = .ok (.aload_n 0, 1) := by decide +kernel
theorem dX0_movedBy_5 : decode cX0_movedBy 5 = .ok (.getfield 7, 3) := by decide +kernel
theorem dX0_movedBy_8 : decode cX0_movedBy 8 = .ok (.lload_n 1, 1) := by decide +kernel
theorem dX0_movedBy_9 : decode cX0_movedBy 9 = .ok (.ladd, 1) := by decide +kernel
theorem dX0_movedBy_10 : decode cX0_movedBy 10 = .ok (.aload_n 0, 1) := by decide +kernel
theorem dX0_movedBy_11 : decode cX0_movedBy 11 = .ok (.getfield 13, 3) := by decide +kernel
theorem dX0_movedBy_14 : decode cX0_movedBy 14 = .ok (.lload_n 3, 1) := by decide +kernel
theorem dX0_movedBy_15 : decode cX0_movedBy 15 = .ok (.ladd, 1) := by decide +kernel
theorem dX0_movedBy_16 : decode cX0_movedBy 16 = .ok (.aload_n 0, 1) := by decide +kernel
theorem dX0_movedBy_17 : decode cX0_movedBy 17 = .ok (.getfield 16, 3) := by decide +kernel
theorem dX0_movedBy_20 : decode cX0_movedBy 20 = .ok (.aload_n 0, 1) := by decide +kernel
theorem dX0_movedBy_21 : decode cX0_movedBy 21 = .ok (.getfield 20, 3) := by decide +kernel
theorem dX0_movedBy_24 : decode cX0_movedBy 24 = .ok (.invokespecial 23, 3) := by decide +kernel
theorem dX0_movedBy_27 : decode cX0_movedBy 27 = .ok (.areturn, 1) := by decide +kernel
set_option maxRecDepth 100000 in
theorem ggX0_shared_X0_init : GoodIn wsX0_shared wsX0_init := goodIn_r _ [17, 18, 19, 20, 1, 6, 7, 11, 21, 22, 23, 24] rfl (by decide +kernel)
set_option maxRecDepth 20000 in
theorem gX0_shared_X0_init : GoodIn wsX0_shared (wsX0_init) := ggX0_shared_X0_init
theorem dX0_shared_0 : decode cX0_shared 0 = .ok (.aload_n 0, 1) := by decide +kernel
theorem dX0_shared_1 : decode cX0_shared 1 = .ok (.getfield 7, 3) := by decide +kernel
theorem dX0_shared_4 : decode cX0_shared 4 = .ok (.aload_n 1, 1) := by decide +kernel
theorem dX0_shared_5 : decode cX0_shared 5 = .ok (.getfield 7, 3) := by decide +kernel
theorem dX0_shared_8 : decode cX0_shared 8 = .ok (.invokestatic 26, 3) := by decide +kernel
theorem dX0_shared_11 : decode cX0_shared 11 = .ok (.lstore_n 2, 1) := by decide +kernel
theorem dX0_shared_12 : decode cX0_shared 12 = .ok (.aload_n 0, 1) := by decide +kernel
theorem dX0_shared_13 : decode cX0_shared 13 = .ok (.getfield 13, 3) := by decide +kernel
theorem dX0_shared_16 : decode cX0_shared 16 = .ok (.aload_n 1, 1) := by decide +kernel
theorem dX0_shared_17 : decode cX0_shared 17 = .ok (.getfield 13, 3) := by decide +kernel
theorem dX0_shared_20 : decode cX0_shared 20 = .ok (.invokestatic 26, 3) := by decide +kernel
theorem dX0_shared_23 : decode cX0_shared 23 = .ok (.lstore 4, 2) := by decide +kernel
theorem dX0_shared_25 : decode cX0_shared 25 = .ok (.aload_n 0, 1) := by decide +kernel
theorem dX0_shared_26 : decode cX0_shared 26 = .ok (.getfield 7, 3) := by decide +kernel
theorem dX0_shared_29 : decode cX0_shared 29 = .ok (.aload_n 0, 1) := by decide +kernel
theorem dX0_shared_30 : decode cX0_shared 30 = .ok (.getfield 16, 3) := by decide +kernel
theorem dX0_shared_33 : decode cX0_shared 33 = .ok (.i2l, 1) := by decide +kernel
theorem dX0_shared_34 : decode cX0_shared 34 = .ok (.ladd, 1) := by decide +kernel
theorem dX0_shared_35 : decode cX0_shared 35 = .ok (.aload_n 1, 1) := by decide +kernel
theorem dX0_shared_36 : decode cX0_shared 36 = .ok (.getfield 7, 3) := by decide +kernel
theorem dX0_shared_39 : decode cX0_shared 39 = .ok (.aload_n 1, 1) := by decide +kernel
theorem dX0_shared_40 : decode cX0_shared 40 = .ok (.getfield 16, 3) := by decide +kernel
theorem dX0_shared_43 : decode cX0_shared 43 = .ok (.i2l, 1) := by decide +kernel
theorem dX0_shared_44 : decode cX0_shared 44 = .ok (.ladd, 1) := by decide +kernel
theorem dX0_shared_45 : decode cX0_shared 45 = .ok (.invokestatic 32, 3) := by decide +kernel
theorem dX0_shared_48 : decode cX0_shared 48 = .ok (.lload_n 2, 1) := by decide +kernel
theorem dX0_shared_49 : decode cX0_shared 49 = .ok (.lsub, 1) := by decide +kernel
theorem dX0_shared_50 : decode cX0_shared 50 = .ok (.lstore 6, 2) := by decide +kernel
theorem dX0_shared_52 : decode cX0_shared 52 = .ok (.aload_n 0, 1) := by decide +kernel
theorem dX0_shared_53 : decode cX0_shared 53 = .ok (.getfield 13, 3) := by decide +kernel
theorem dX0_shared_56 : decode cX0_shared 56 = .ok (.aload_n 0, 1) := by decide +kernel
theorem dX0_shared_57 : decode cX0_shared 57 = .ok (.getfield 20, 3) := by decide +kernel
theorem dX0_shared_60 : decode cX0_shared 60 = .ok (.i2l, 1) := by decide +kernel
theorem dX0_shared_61 : decode cX0_shared 61 = .ok (.ladd, 1) := by decide +kernel
theorem dX0_shared_62 : decode cX0_shared 62 = .ok (.aload_n 1, 1) := by decide +kernel
theorem dX0_shared_63 : decode cX0_shared 63 = .ok (.getfield 13, 3) := by decide +kernel
theorem dX0_shared_66 : decode cX0_shared 66 = .ok (.aload_n 1, 1) := by decide +kernel
theorem dX0_shared_67 : decode cX0_shared 67 = .ok (.getfield 20, 3) := by decide +kernel
theorem dX0_shared_70 : decode cX0_shared 70 = .ok (.i2l, 1) := by decide +kernel
theorem dX0_shared_71 : decode cX0_shared 71 = .ok (.ladd, 1) := by decide +kernel
theorem dX0_shared_72 : decode cX0_shared 72 = .ok (.invokestatic 32, 3) := by decide +kernel
theorem dX0_shared_75 : decode cX0_shared 75 = .ok (.lload 4, 2) := by decide +kernel
theorem dX0_shared_77 : decode cX0_shared 77 = .ok (.lsub, 1) := by decide +kernel
theorem dX0_shared_78 : decode cX0_shared 78 = .ok (.lstore 8, 2) := by decide +kernel
theorem dX0_shared_80 : decode cX0_shared 80 = .ok (.lload 6, 2) := by decide +kernel
theorem dX0_shared_82 : decode cX0_shared 82 = .ok (.lconst 0, 1) := by decide +kernel
theorem dX0_shared_83 : decode cX0_shared 83 = .ok (.lcmp, 1) := by decide +kernel
theorem dX0_shared_84 : decode cX0_shared 84 = .ok (.ifCond .le 10, 3) := by decide +kernel
theorem dX0_shared_87 : decode cX0_shared 87 = .ok (.lload 8, 2) := by decide +kernel
theorem dX0_shared_89 : decode cX0_shared 89 = .ok (.lconst 0, 1) := by decide +kernel
theorem dX0_shared_90 : decode cX0_shared 90 = .ok (.lcmp, 1) := by decide +kernel
theorem dX0_shared_91 : decode cX0_shared 91 = .ok (.ifCond .gt 15, 3) := by decide +kernel
theorem dX0_shared_94 : decode cX0_shared 94 = .ok (.new 8, 3) := by decide +kernel
theorem dX0_shared_97 : decode cX0_shared 97 = .ok (.dup, 1) := by decide +kernel
theorem dX0_shared_98 : decode cX0_shared 98 = .ok (.lconst 0, 1) := by decide +kernel
theorem dX0_shared_99 : decode cX0_shared 99 = .ok (.lconst 0, 1) := by decide +kernel
theorem dX0_shared_100 : decode cX0_shared 100 = .ok (.iconst 0, 1) := by decide +kernel
theorem dX0_shared_101 : decode cX0_shared 101 = .ok (.iconst 0, 1) := by decide +kernel
theorem dX0_shared_102 : decode cX0_shared 102 = .ok (.invokespecial 23, 3) := by decide +kernel
theorem dX0_shared_105 : decode cX0_shared 105 = .ok (.areturn, 1) := by decide +kernel
theorem dX0_shared_106 : decode cX0_shared 106 = .ok (.new 8, 3) := by decide +kernel
theorem dX0_shared_109 : decode cX0_shared 109 = .ok (.dup, 1) := by decide +kernel
theorem dX0_shared_110 : decode cX0_shared 110 = .ok (.lload_n 2, 1) := by decide +kernel
theorem dX0_shared_111 : decode cX0_shared 111 = .ok (.lload 4, 2) := by decide +kernel
theorem dX0_shared_113 : decode cX0_shared 113 = .ok (.lload 6, 2) := by decide +kernel
theorem dX0_shared_115 : decode cX0_shared 115 = .ok (.l2i, 1) := by decide +kernel
theorem dX0_shared_116 : decode cX0_shared 116 = .ok (.lload 8, 2) := by decide +kernel
theorem dX0_shared_118 : decode cX0_shared 118 = .ok (.l2i, 1) := by decide +kernel
theorem dX0_shared_119 : decode cX0_shared 119 = .ok (.invokespecial 23, 3) := by decide +kernel
theorem dX0_shared_122 : decode cX0_shared 122 = .ok (.areturn, 1) := by decide +kernel
set_option maxRecDepth 100000 in
theorem ggX1_init_X0_shared : GoodIn wsX1_init wsX0_shared := goodIn_r _ [16, 17, 18, 19, 20, 21, 22, 23, 24, 25, 26, 27, 28, 29, 15, 30, 31, 32, 33, 2, 3, 38, 39, 40, 41] rfl (by decide +kernel)
set_option maxRecDepth 20000 in
theorem gX1_init_X0_shared : GoodIn wsX1_init (wsV RX1 31 RX0 yX0_shared wsX0_shared) := goodIn_app (goodIn_of _ (by decide +kernel)) ggX1_init_X0_shared
set_option maxRecDepth 100000 in
theorem ggX1_init_X0_movedBy : GoodIn wsX1_init wsX0_movedBy := goodIn_r _ [37, 28, 29, 15, 17, 22, 23, 27, 30, 31, 32, 33, 2, 3, 38, 39, 40, 41] rfl (by decide +kernel)
set_option maxRecDepth 20000 in
theorem gX1_init_X0_movedBy : GoodIn wsX1_init (wsV RX1 35 RX0 yX0_movedBy wsX0_movedBy) := goodIn_app (goodIn_of _ (by decide +kernel)) ggX1_init_X0_movedBy
theorem dX1_init_0 : decode cX1_init 0 = .ok (.aload_n 0, 1) := by decide +kernel
theorem dX1_init_1 : decode cX1_init 1 = .ok (.invokespecial 1, 3) := by decide +kernel
theorem dX1_init_4 : decode cX1_init 4 = .ok (.iload 4, 2) := by decide +kernel
theorem dX1_init_6 : decode cX1_init 6 = .ok (.i2l, 1) := by decide +kernel
theorem dX1_init_7 : decode cX1_init 7 = .ok (.aload_n 2, 1) := by decide +kernel
theorem dX1_init_8 : decode cX1_init 8 = .ok (.getfield 7, 3) := by decide +kernel
theorem dX1_init_11 : decode cX1_init 11 = .ok (.lsub, 1) := by decide +kernel
theorem dX1_init_12 : decode cX1_init 12 = .ok (.lstore 6, 2) := by decide +kernel
theorem dX1_init_14 : decode cX1_init 14 = .ok (.iload 5, 2) := by decide +kernel
theorem dX1_init_16 : decode cX1_init 16 = .ok (.i2l, 1) := by decide +kernel
theorem dX1_init_17 : decode cX1_init 17 = .ok (.aload_n 2, 1) := by decide +kernel
theorem dX1_init_18 : decode cX1_init 18 = .ok (.getfield 13, 3) := by decide +kernel
theorem dX1_init_21 : decode cX1_init 21 = .ok (.lsub, 1) := by decide +kernel
theorem dX1_init_22 : decode cX1_init 22 = .ok (.lstore 8, 2) := by decide +kernel
theorem dX1_init_24 : decode cX1_init 24 = .ok (.aload_n 0, 1) := by decide +kernel
theorem dX1_init_25 : decode cX1_init 25 = .ok (.aload_n 1, 1) := by decide +kernel
theorem dX1_init_26 : decode cX1_init 26 = .ok (.putfield 16, 3) := by decide +kernel
theorem dX1_init_29 : decode cX1_init 29 = .ok (.aload_n 0, 1) := by decide +kernel
theorem dX1_init_30 : decode cX1_init 30 = .ok (.aload_n 3, 1) := by decide +kernel
theorem dX1_init_31 : decode cX1_init 31 = .ok (.putfield 22, 3) := by decide +kernel
theorem dX1_init_34 : decode cX1_init 34 = .ok (.aload_n 0, 1) := by decide +kernel
theorem dX1_init_35 : decode cX1_init 35 = .ok (.aload_n 1, 1) := by decide +kernel
theorem dX1_init_36 : decode cX1_init 36 = .ok (.getfield 25, 3) := by decide +kernel
theorem dX1_init_39 : decode cX1_init 39 = .ok (.aload_n 2, 1) := by decide +kernel
theorem dX1_init_40 : decode cX1_init 40 = .ok (.invokevirtual 31, 3) := by decide +kernel
theorem dX1_init_43 : decode cX1_init 43 = .ok (.lload 6, 2) := by decide +kernel
theorem dX1_init_45 : decode cX1_init 45 = .ok (.lload 8, 2) := by decide +kernel
theorem dX1_init_47 : decode cX1_init 47 = .ok (.invokevirtual 35, 3) := by decide +kernel
theorem dX1_init_50 : decode cX1_init 50 = .ok (.aload_n 3, 1) := by decide +kernel
theorem dX1_init_51 : decode cX1_init 51 = .ok (.getfield 39, 3) := by decide +kernel
theorem dX1_init_54 : decode cX1_init 54 = .ok (.invokevirtual 31, 3) := by decide +kernel
theorem dX1_init_57 : decode cX1_init 57 = .ok (.putfield 42, 3) := by decide +kernel
theorem dX1_init_60 : decode cX1_init 60 = .ok (.aload_n 0, 1) := by decide +kernel
theorem dX1_init_61 : decode cX1_init 61 = .ok (.aload_n 0, 1) := by decide +kernel
theorem dX1_init_62 : decode cX1_init 62 = .ok (.getfield 42, 3) := by decide +kernel
theorem dX1_init_65 : decode cX1_init 65 = .ok (.lload 6, 2) := by decide +kernel
theorem dX1_init_67 : decode cX1_init 67 = .ok (.lneg, 1) := by decide +kernel
theorem dX1_init_68 : decode cX1_init 68 = .ok (.lload 8, 2) := by decide +kernel
theorem dX1_init_70 : decode cX1_init 70 = .ok (.lneg, 1) := by decide +kernel
theorem dX1_init_71 : decode cX1_init 71 = .ok (.invokevirtual 35, 3) := by decide +kernel
theorem dX1_init_74 : decode cX1_init 74 = .ok (.putfield 45, 3) := by decide +kernel
theorem dX1_init_77 : decode cX1_init 77 = .ok (.return_, 1) := by decide +kernel
theorem dX1_keepsDepth_0 : decode cX1_keepsDepth 0 = .ok (.aload_n 0, 1) := by decide +kernel
theorem dX1_keepsDepth_1 : decode cX1_keepsDepth 1 = .ok (.getfield 16, 3) := by decide +kernel
theorem dX1_keepsDepth_4 : decode cX1_keepsDepth 4 = .ok (.getfield 48, 3) := by decide +kernel
theorem dX1_keepsDepth_7 : decode cX1_keepsDepth 7 = .ok (.aload_n 0, 1) := by decide +kernel
theorem dX1_keepsDepth_8 : decode cX1_keepsDepth 8 = .ok (.getfield 22, 3) := by decide +kernel
theorem dX1_keepsDepth_11 : decode cX1_keepsDepth 11 = .ok (.getfield 48, 3) := by decide +kernel
theorem dX1_keepsDepth_14 : decode cX1_keepsDepth 14 = .ok (.if_icmp .ne 7, 3) := by decide +kernel
theorem dX1_keepsDepth_17 : decode cX1_keepsDepth 17 = .ok (.iconst 1, 1) := by decide +kernel
theorem dX1_keepsDepth_18 : decode cX1_keepsDepth 18 = .ok (.goto 4, 3) := by decide +kernel
theorem dX1_keepsDepth_21 : decode cX1_keepsDepth 21 = .ok (.iconst 0, 1) := by decide +kernel
theorem dX1_keepsDepth_22 : decode cX1_keepsDepth 22 = .ok (.ireturn, 1) := by decide +kernel
theorem dX2_init_0 : decode cX2_init 0 = .ok (.aload_n 0, 1) := by decide +kernel
theorem dX2_init_1 : decode cX2_init 1 = .ok (.invokespecial 3, 3) := by decide +kernel
theorem dX2_init_4 : decode cX2_init 4 = .ok (.aload_n 0, 1) := by decide +kernel
theorem dX2_init_5 : decode cX2_init 5 = .ok (.sipush 5000, 3) := by decide +kernel
theorem dX2_init_8 : decode cX2_init 8 = .ok (.newarray .int, 2) := by decide +kernel
theorem dX2_init_10 : decode cX2_init 10 = .ok (.putfield 9, 3) := by decide +kernel
theorem dX2_init_13 : decode cX2_init 13 = .ok (.aload_n 0, 1) := by decide +kernel
theorem dX2_init_14 : decode cX2_init 14 = .ok (.iconst 0, 1) := by decide +kernel
theorem dX2_init_15 : decode cX2_init 15 = .ok (.putfield 15, 3) := by decide +kernel
theorem dX2_init_18 : decode cX2_init 18 = .ok (.aload_n 0, 1) := by decide +kernel
theorem dX2_init_19 : decode cX2_init 19 = .ok (.iconst 0, 1) := by decide +kernel
theorem dX2_init_20 : decode cX2_init 20 = .ok (.putfield 19, 3) := by decide +kernel
theorem dX2_init_23 : decode cX2_init 23 = .ok (.return_, 1) := by decide +kernel
theorem dX2_empty_0 : decode cX2_empty 0 = .ok (.aload_n 0, 1) := by decide +kernel
theorem dX2_empty_1 : decode cX2_empty 1 = .ok (.iconst 0, 1) := by decide +kernel
theorem dX2_empty_2 : decode cX2_empty 2 = .ok (.putfield 15, 3) := by decide +kernel
theorem dX2_empty_5 : decode cX2_empty 5 = .ok (.aload_n 0, 1) := by decide +kernel
theorem dX2_empty_6 : decode cX2_empty 6 = .ok (.iconst 0, 1) := by decide +kernel
theorem dX2_empty_7 : decode cX2_empty 7 = .ok (.putfield 19, 3) := by decide +kernel
theorem dX2_empty_10 : decode cX2_empty 10 = .ok (.return_, 1) := by decide +kernel
theorem dX2_append_0 : decode cX2_append 0 = .ok (.aload_n 0, 1) := by decide +kernel
theorem dX2_append_1 : decode cX2_append 1 = .ok (.getfield 15, 3) := by decide +kernel
theorem dX2_append_4 : decode cX2_append 4 = .ok (.sipush 5000, 3) := by decide +kernel
theorem dX2_append_7 : decode cX2_append 7 = .ok (.if_icmp .lt 9, 3) := by decide +kernel
theorem dX2_append_10 : decode cX2_append 10 = .ok (.aload_n 0, 1) := by decide +kernel
theorem dX2_append_11 : decode cX2_append 11 = .ok (.iconst 1, 1) := by decide +kernel
theorem dX2_append_12 : decode cX2_append 12 = .ok (.putfield 19, 3) := by decide +kernel
theorem dX2_append_15 : decode cX2_append 15 = .ok (.return_, 1) := by decide +kernel
theorem dX2_append_16 : decode cX2_append 16 = .ok (.aload_n 0, 1) := by decide +kernel
theorem dX2_append_17 : decode cX2_append 17 = .ok (.getfield 9, 3) := by decide +kernel
theorem dX2_append_20 : decode cX2_append 20 = .ok (.aload_n 0, 1) := by decide +kernel
theorem dX2_append_21 : decode cX2_append 21 = .ok (.getfield 15, 3) := by decide +kernel
theorem dX2_append_24 : decode cX2_append 24 = .ok (.iload_n 1, 1) := by decide +kernel
theorem dX2_append_25 : decode cX2_append 25 = .ok (.iastore, 1) := by decide +kernel
theorem dX2_append_26 : decode cX2_append 26 = .ok (.aload_n 0, 1) := by decide +kernel
theorem dX2_append_27 : decode cX2_append 27 = .ok (.dup, 1) := by decide +kernel
theorem dX2_append_28 : decode cX2_append 28 = .ok (.getfield 15, 3) := by decide +kernel
theorem dX2_append_31 : decode cX2_append 31 = .ok (.iconst 1, 1) := by decide +kernel
theorem dX2_append_32 : decode cX2_append 32 = .ok (.iadd, 1) := by decide +kernel
theorem dX2_append_33 : decode cX2_append 33 = .ok (.putfield 15, 3) := by decide +kernel
theorem dX2_append_36 : decode cX2_append 36 = .ok (.return_, 1) := by decide +kernel
set_option maxRecDepth 100000 in
theorem ggX2_firstWrong_X2_stretchLength : GoodIn wsX2_firstWrong wsX2_stretchLength := goodIn_r _ [6] rfl (by decide +kernel)
set_option maxRecDepth 20000 in
theorem gX2_firstWrong_X2_stretchLength : GoodIn wsX2_firstWrong (va_wsS RX2 23 yX2_stretchLength wsX2_stretchLength) := goodIn_app (goodIn_of _ (by decide +kernel)) ggX2_firstWrong_X2_stretchLength
set_option maxRecDepth 100000 in
theorem ggX2_firstWrong_X2_isStretch : GoodIn wsX2_firstWrong wsX2_isStretch := goodIn_r _ [9, 3, 4, 5, 6] rfl (by decide +kernel)
set_option maxRecDepth 20000 in
theorem gX2_firstWrong_X2_isStretch : GoodIn wsX2_firstWrong (va_wsS RX2 27 yX2_isStretch wsX2_isStretch) := goodIn_app (goodIn_of _ (by decide +kernel)) ggX2_firstWrong_X2_isStretch
set_option maxRecDepth 100000 in
theorem ggX2_firstWrong_X2_dotBytes : GoodIn wsX2_firstWrong wsX2_dotBytes := goodIn_r _ [12, 3, 4, 5, 6] rfl (by decide +kernel)
set_option maxRecDepth 20000 in
theorem gX2_firstWrong_X2_dotBytes : GoodIn wsX2_firstWrong (va_wsS RX2 31 yX2_dotBytes wsX2_dotBytes) := goodIn_app (goodIn_of _ (by decide +kernel)) ggX2_firstWrong_X2_dotBytes
theorem dX2_firstWrong_0 : decode cX2_firstWrong 0 = .ok (.iconst 0, 1) := by decide +kernel
theorem dX2_firstWrong_1 : decode cX2_firstWrong 1 = .ok (.istore_n 2, 1) := by decide +kernel
theorem dX2_firstWrong_2 : decode cX2_firstWrong 2 = .ok (.iconst 0, 1) := by decide +kernel
theorem dX2_firstWrong_3 : decode cX2_firstWrong 3 = .ok (.istore_n 3, 1) := by decide +kernel
theorem dX2_firstWrong_4 : decode cX2_firstWrong 4 = .ok (.iconst 0, 1) := by decide +kernel
theorem dX2_firstWrong_5 : decode cX2_firstWrong 5 = .ok (.istore 4, 2) := by decide +kernel
theorem dX2_firstWrong_7 : decode cX2_firstWrong 7 = .ok (.iconst 0, 1) := by decide +kernel
theorem dX2_firstWrong_8 : decode cX2_firstWrong 8 = .ok (.istore 5, 2) := by decide +kernel
theorem dX2_firstWrong_10 : decode cX2_firstWrong 10 = .ok (.iconst 0, 1) := by decide +kernel
theorem dX2_firstWrong_11 : decode cX2_firstWrong 11 = .ok (.istore 6, 2) := by decide +kernel
theorem dX2_firstWrong_13 : decode cX2_firstWrong 13 = .ok (.iload 6, 2) := by decide +kernel
theorem dX2_firstWrong_15 : decode cX2_firstWrong 15 = .ok (.aload_n 0, 1) := by decide +kernel
theorem dX2_firstWrong_16 : decode cX2_firstWrong 16 = .ok (.getfield 15, 3) := by decide +kernel
theorem dX2_firstWrong_19 : decode cX2_firstWrong 19 = .ok (.if_icmp .ge 104, 3) := by decide +kernel
theorem dX2_firstWrong_22 : decode cX2_firstWrong 22 = .ok (.aload_n 0, 1) := by decide +kernel
theorem dX2_firstWrong_23 : decode cX2_firstWrong 23 = .ok (.getfield 9, 3) := by decide +kernel
theorem dX2_firstWrong_26 : decode cX2_firstWrong 26 = .ok (.iload 6, 2) := by decide +kernel
theorem dX2_firstWrong_28 : decode cX2_firstWrong 28 = .ok (.iaload, 1) := by decide +kernel
theorem dX2_firstWrong_29 : decode cX2_firstWrong 29 = .ok (.istore 7, 2) := by decide +kernel
theorem dX2_firstWrong_31 : decode cX2_firstWrong 31 = .ok (.iload 4, 2) := by decide +kernel
theorem dX2_firstWrong_33 : decode cX2_firstWrong 33 = .ok (.ifCond .le 20, 3) := by decide +kernel
theorem dX2_firstWrong_36 : decode cX2_firstWrong 36 = .ok (.iload 7, 2) := by decide +kernel
theorem dX2_firstWrong_38 : decode cX2_firstWrong 38 = .ok (.iload_n 1, 1) := by decide +kernel
theorem dX2_firstWrong_39 : decode cX2_firstWrong 39 = .ok (.if_icmp .le 8, 3) := by decide +kernel
theorem dX2_firstWrong_42 : decode cX2_firstWrong 42 = .ok (.iload 6, 2) := by decide +kernel
theorem dX2_firstWrong_44 : decode cX2_firstWrong 44 = .ok (.iconst 1, 1) := by decide +kernel
theorem dX2_firstWrong_45 : decode cX2_firstWrong 45 = .ok (.iadd, 1) := by decide +kernel
theorem dX2_firstWrong_46 : decode cX2_firstWrong 46 = .ok (.ireturn, 1) := by decide +kernel
theorem dX2_firstWrong_47 : decode cX2_firstWrong 47 = .ok (.iinc 4 (-1), 3) := by decide +kernel
theorem dX2_firstWrong_50 : decode cX2_firstWrong 50 = .ok (.goto 67, 3) := by decide +kernel
theorem dX2_firstWrong_53 : decode cX2_firstWrong 53 = .ok (.iload_n 2, 1) := by decide +kernel
theorem dX2_firstWrong_54 : decode cX2_firstWrong 54 = .ok (.bipush 64, 2) := by decide +kernel
theorem dX2_firstWrong_56 : decode cX2_firstWrong 56 = .ok (.if_icmp .ne 8, 3) := by decide +kernel
theorem dX2_firstWrong_59 : decode cX2_firstWrong 59 = .ok (.iload 6, 2) := by decide +kernel
theorem dX2_firstWrong_61 : decode cX2_firstWrong 61 = .ok (.iconst 1, 1) := by decide +kernel
theorem dX2_firstWrong_62 : decode cX2_firstWrong 62 = .ok (.iadd, 1) := by decide +kernel
theorem dX2_firstWrong_63 : decode cX2_firstWrong 63 = .ok (.ireturn, 1) := by decide +kernel
theorem dX2_firstWrong_64 : decode cX2_firstWrong 64 = .ok (.iload 7, 2) := by decide +kernel
theorem dX2_firstWrong_66 : decode cX2_firstWrong 66 = .ok (.ifCond .ne 14, 3) := by decide +kernel
theorem dX2_firstWrong_69 : decode cX2_firstWrong 69 = .ok (.iinc 2 1, 3) := by decide +kernel
theorem dX2_firstWrong_72 : decode cX2_firstWrong 72 = .ok (.iconst 0, 1) := by decide +kernel
theorem dX2_firstWrong_73 : decode cX2_firstWrong 73 = .ok (.istore_n 3, 1) := by decide +kernel
theorem dX2_firstWrong_74 : decode cX2_firstWrong 74 = .ok (.iconst 0, 1) := by decide +kernel
theorem dX2_firstWrong_75 : decode cX2_firstWrong 75 = .ok (.istore 5, 2) := by decide +kernel
theorem dX2_firstWrong_77 : decode cX2_firstWrong 77 = .ok (.goto 40, 3) := by decide +kernel
theorem dX2_firstWrong_80 : decode cX2_firstWrong 80 = .ok (.iload_n 3, 1) := by decide +kernel
theorem dX2_firstWrong_81 : decode cX2_firstWrong 81 = .ok (.iload 7, 2) := by decide +kernel
theorem dX2_firstWrong_83 : decode cX2_firstWrong 83 = .ok (.invokestatic 23, 3) := by decide +kernel
theorem dX2_firstWrong_86 : decode cX2_firstWrong 86 = .ok (.iadd, 1) := by decide +kernel
theorem dX2_firstWrong_87 : decode cX2_firstWrong 87 = .ok (.istore_n 3, 1) := by decide +kernel
theorem dX2_firstWrong_88 : decode cX2_firstWrong 88 = .ok (.iload 7, 2) := by decide +kernel
theorem dX2_firstWrong_90 : decode cX2_firstWrong 90 = .ok (.invokestatic 27, 3) := by decide +kernel
theorem dX2_firstWrong_93 : decode cX2_firstWrong 93 = .ok (.ifCond .eq 9, 3) := by decide +kernel
theorem dX2_firstWrong_96 : decode cX2_firstWrong 96 = .ok (.iload_n 3, 1) := by decide +kernel
theorem dX2_firstWrong_97 : decode cX2_firstWrong 97 = .ok (.bipush 64, 2) := by decide +kernel
theorem dX2_firstWrong_99 : decode cX2_firstWrong 99 = .ok (.if_icmp .le 8, 3) := by decide +kernel
theorem dX2_firstWrong_102 : decode cX2_firstWrong 102 = .ok (.iload 6, 2) := by decide +kernel
theorem dX2_firstWrong_104 : decode cX2_firstWrong 104 = .ok (.iconst 1, 1) := by decide +kernel
theorem dX2_firstWrong_105 : decode cX2_firstWrong 105 = .ok (.iadd, 1) := by decide +kernel
theorem dX2_firstWrong_106 : decode cX2_firstWrong 106 = .ok (.ireturn, 1) := by decide +kernel
theorem dX2_firstWrong_107 : decode cX2_firstWrong 107 = .ok (.iload 7, 2) := by decide +kernel
theorem dX2_firstWrong_109 : decode cX2_firstWrong 109 = .ok (.invokestatic 31, 3) := by decide +kernel
theorem dX2_firstWrong_112 : decode cX2_firstWrong 112 = .ok (.istore 4, 2) := by decide +kernel
theorem dX2_firstWrong_114 : decode cX2_firstWrong 114 = .ok (.iconst 1, 1) := by decide +kernel
theorem dX2_firstWrong_115 : decode cX2_firstWrong 115 = .ok (.istore 5, 2) := by decide +kernel
theorem dX2_firstWrong_117 : decode cX2_firstWrong 117 = .ok (.iinc 6 1, 3) := by decide +kernel
theorem dX2_firstWrong_120 : decode cX2_firstWrong 120 = .ok (.goto (-107), 3) := by decide +kernel
theorem dX2_firstWrong_123 : decode cX2_firstWrong 123 = .ok (.iload 5, 2) := by decide +kernel
theorem dX2_firstWrong_125 : decode cX2_firstWrong 125 = .ok (.ifCond .eq 12, 3) := by decide +kernel
theorem dX2_firstWrong_128 : decode cX2_firstWrong 128 = .ok (.aload_n 0, 1) := by decide +kernel
theorem dX2_firstWrong_129 : decode cX2_firstWrong 129 = .ok (.getfield 15, 3) := by decide +kernel
theorem dX2_firstWrong_132 : decode cX2_firstWrong 132 = .ok (.iconst 1, 1) := by decide +kernel
theorem dX2_firstWrong_133 : decode cX2_firstWrong 133 = .ok (.iadd, 1) := by decide +kernel
theorem dX2_firstWrong_134 : decode cX2_firstWrong 134 = .ok (.goto 4, 3) := by decide +kernel
theorem dX2_firstWrong_137 : decode cX2_firstWrong 137 = .ok (.iconst 0, 1) := by decide +kernel
theorem dX2_firstWrong_138 : decode cX2_firstWrong 138 = .ok (.ireturn, 1) := by decide +kernel
set_option maxRecDepth 100000 in
theorem ggX2_paint_X2_paintDots : GoodIn wsX2_paint wsX2_paintDots := goodIn_r _ [6, 7, 8, 9, 10, 11, 12, 13, 14, 15, 16, 17, 18, 19, 20, 21, 22, 23, 24, 25, 26, 27, 28, 38, 39, 40, 41, 42, 43, 44, 45, 46] rfl (by decide +kernel)
set_option maxRecDepth 20000 in
theorem gX2_paint_X2_paintDots : GoodIn wsX2_paint (va_wsS RX2 34 yX2_paintDots wsX2_paintDots) := goodIn_app (goodIn_of _ (by decide +kernel)) ggX2_paint_X2_paintDots
set_option maxRecDepth 100000 in
theorem ggX2_paint_X2_dotBytes : GoodIn wsX2_paint wsX2_dotBytes := goodIn_r _ [31, 32, 33, 5, 34] rfl (by decide +kernel)
set_option maxRecDepth 20000 in
theorem gX2_paint_X2_dotBytes : GoodIn wsX2_paint (va_wsS RX2 31 yX2_dotBytes wsX2_dotBytes) := goodIn_app (goodIn_of _ (by decide +kernel)) ggX2_paint_X2_dotBytes
set_option maxRecDepth 100000 in
theorem ggX2_paint_X2_stretchLength : GoodIn wsX2_paint wsX2_stretchLength := goodIn_r _ [34] rfl (by decide +kernel)
set_option maxRecDepth 20000 in
theorem gX2_paint_X2_stretchLength : GoodIn wsX2_paint (va_wsS RX2 23 yX2_stretchLength wsX2_stretchLength) := goodIn_app (goodIn_of _ (by decide +kernel)) ggX2_paint_X2_stretchLength
theorem dX2_paint_0 : decode cX2_paint 0 = .ok (.iconst 0, 1) := by decide +kernel
theorem dX2_paint_1 : decode cX2_paint 1 = .ok (.istore 4, 2) := by decide +kernel
theorem dX2_paint_3 : decode cX2_paint 3 = .ok (.iconst 0, 1) := by decide +kernel
theorem dX2_paint_4 : decode cX2_paint 4 = .ok (.istore 5, 2) := by decide +kernel
theorem dX2_paint_6 : decode cX2_paint 6 = .ok (.iconst 0, 1) := by decide +kernel
theorem dX2_paint_7 : decode cX2_paint 7 = .ok (.istore 6, 2) := by decide +kernel
theorem dX2_paint_9 : decode cX2_paint 9 = .ok (.iconst 0, 1) := by decide +kernel
theorem dX2_paint_10 : decode cX2_paint 10 = .ok (.istore 7, 2) := by decide +kernel
theorem dX2_paint_12 : decode cX2_paint 12 = .ok (.iconst 0, 1) := by decide +kernel
theorem dX2_paint_13 : decode cX2_paint 13 = .ok (.istore 8, 2) := by decide +kernel
theorem dX2_paint_15 : decode cX2_paint 15 = .ok (.iload 8, 2) := by decide +kernel
theorem dX2_paint_17 : decode cX2_paint 17 = .ok (.aload_n 0, 1) := by decide +kernel
theorem dX2_paint_18 : decode cX2_paint 18 = .ok (.getfield 15, 3) := by decide +kernel
theorem dX2_paint_21 : decode cX2_paint 21 = .ok (.if_icmp .ge 113, 3) := by decide +kernel
theorem dX2_paint_24 : decode cX2_paint 24 = .ok (.aload_n 0, 1) := by decide +kernel
theorem dX2_paint_25 : decode cX2_paint 25 = .ok (.getfield 9, 3) := by decide +kernel
theorem dX2_paint_28 : decode cX2_paint 28 = .ok (.iload 8, 2) := by decide +kernel
theorem dX2_paint_30 : decode cX2_paint 30 = .ok (.iaload, 1) := by decide +kernel
theorem dX2_paint_31 : decode cX2_paint 31 = .ok (.istore 9, 2) := by decide +kernel
theorem dX2_paint_33 : decode cX2_paint 33 = .ok (.iload 6, 2) := by decide +kernel
theorem dX2_paint_35 : decode cX2_paint 35 = .ok (.ifCond .le 36, 3) := by decide +kernel
theorem dX2_paint_38 : decode cX2_paint 38 = .ok (.aload_n 1, 1) := by decide +kernel
theorem dX2_paint_39 : decode cX2_paint 39 = .ok (.iload_n 2, 1) := by decide +kernel
theorem dX2_paint_40 : decode cX2_paint 40 = .ok (.i2l, 1) := by decide +kernel
theorem dX2_paint_41 : decode cX2_paint 41 = .ok (.iload 5, 2) := by decide +kernel
theorem dX2_paint_43 : decode cX2_paint 43 = .ok (.i2l, 1) := by decide +kernel
theorem dX2_paint_44 : decode cX2_paint 44 = .ok (.ladd, 1) := by decide +kernel
theorem dX2_paint_45 : decode cX2_paint 45 = .ok (.iload_n 3, 1) := by decide +kernel
theorem dX2_paint_46 : decode cX2_paint 46 = .ok (.i2l, 1) := by decide +kernel
theorem dX2_paint_47 : decode cX2_paint 47 = .ok (.iload 4, 2) := by decide +kernel
theorem dX2_paint_49 : decode cX2_paint 49 = .ok (.i2l, 1) := by decide +kernel
theorem dX2_paint_50 : decode cX2_paint 50 = .ok (.ladd, 1) := by decide +kernel
theorem dX2_paint_51 : decode cX2_paint 51 = .ok (.iload 7, 2) := by decide +kernel
theorem dX2_paint_53 : decode cX2_paint 53 = .ok (.iload 9, 2) := by decide +kernel
theorem dX2_paint_55 : decode cX2_paint 55 = .ok (.invokestatic 34, 3) := by decide +kernel
theorem dX2_paint_58 : decode cX2_paint 58 = .ok (.iload 5, 2) := by decide +kernel
theorem dX2_paint_60 : decode cX2_paint 60 = .ok (.iload 7, 2) := by decide +kernel
theorem dX2_paint_62 : decode cX2_paint 62 = .ok (.iadd, 1) := by decide +kernel
theorem dX2_paint_63 : decode cX2_paint 63 = .ok (.istore 5, 2) := by decide +kernel
theorem dX2_paint_65 : decode cX2_paint 65 = .ok (.iinc 6 (-1), 3) := by decide +kernel
theorem dX2_paint_68 : decode cX2_paint 68 = .ok (.goto 60, 3) := by decide +kernel
theorem dX2_paint_71 : decode cX2_paint 71 = .ok (.iload 9, 2) := by decide +kernel
theorem dX2_paint_73 : decode cX2_paint 73 = .ok (.ifCond .ne 12, 3) := by decide +kernel
theorem dX2_paint_76 : decode cX2_paint 76 = .ok (.iinc 4 1, 3) := by decide +kernel
theorem dX2_paint_79 : decode cX2_paint 79 = .ok (.iconst 0, 1) := by decide +kernel
theorem dX2_paint_80 : decode cX2_paint 80 = .ok (.istore 5, 2) := by decide +kernel
theorem dX2_paint_82 : decode cX2_paint 82 = .ok (.goto 46, 3) := by decide +kernel
theorem dX2_paint_85 : decode cX2_paint 85 = .ok (.iload 9, 2) := by decide +kernel
theorem dX2_paint_87 : decode cX2_paint 87 = .ok (.bipush 64, 2) := by decide +kernel
theorem dX2_paint_89 : decode cX2_paint 89 = .ok (.if_icmp .ge 13, 3) := by decide +kernel
theorem dX2_paint_92 : decode cX2_paint 92 = .ok (.iload 5, 2) := by decide +kernel
theorem dX2_paint_94 : decode cX2_paint 94 = .ok (.iload 9, 2) := by decide +kernel
theorem dX2_paint_96 : decode cX2_paint 96 = .ok (.iadd, 1) := by decide +kernel
theorem dX2_paint_97 : decode cX2_paint 97 = .ok (.istore 5, 2) := by decide +kernel
theorem dX2_paint_99 : decode cX2_paint 99 = .ok (.goto 29, 3) := by decide +kernel
theorem dX2_paint_102 : decode cX2_paint 102 = .ok (.iload 9, 2) := by decide +kernel
theorem dX2_paint_104 : decode cX2_paint 104 = .ok (.invokestatic 31, 3) := by decide +kernel
theorem dX2_paint_107 : decode cX2_paint 107 = .ok (.istore 6, 2) := by decide +kernel
theorem dX2_paint_109 : decode cX2_paint 109 = .ok (.iload 9, 2) := by decide +kernel
theorem dX2_paint_111 : decode cX2_paint 111 = .ok (.sipush 128, 3) := by decide +kernel
theorem dX2_paint_114 : decode cX2_paint 114 = .ok (.if_icmp .ge 7, 3) := by decide +kernel
theorem dX2_paint_117 : decode cX2_paint 117 = .ok (.iconst 1, 1) := by decide +kernel
theorem dX2_paint_118 : decode cX2_paint 118 = .ok (.goto 8, 3) := by decide +kernel
theorem dX2_paint_121 : decode cX2_paint 121 = .ok (.iload 9, 2) := by decide +kernel
theorem dX2_paint_123 : decode cX2_paint 123 = .ok (.invokestatic 23, 3) := by decide +kernel
theorem dX2_paint_126 : decode cX2_paint 126 = .ok (.istore 7, 2) := by decide +kernel
theorem dX2_paint_128 : decode cX2_paint 128 = .ok (.iinc 8 1, 3) := by decide +kernel
theorem dX2_paint_131 : decode cX2_paint 131 = .ok (.goto (-116), 3) := by decide +kernel
theorem dX2_paint_134 : decode cX2_paint 134 = .ok (.return_, 1) := by decide +kernel
set_option maxRecDepth 100000 in
theorem ggX2_paintDots_X3_putClipped : GoodIn wsX2_paintDots wsX3_putClipped := goodIn_r _ [5, 6, 7, 8, 9, 10, 11, 12, 13, 14, 15, 16, 17, 18, 19, 4, 20, 21, 22, 23, 24, 25, 26, 27, 28, 29, 30, 31] rfl (by decide +kernel)
set_option maxRecDepth 20000 in
theorem gX2_paintDots_X3_putClipped : GoodIn wsX2_paintDots (wsV RX2 38 RX3 yX3_putClipped wsX3_putClipped) := goodIn_app (goodIn_of _ (by decide +kernel)) ggX2_paintDots_X3_putClipped
theorem dX2_paintDots_0 : decode cX2_paintDots 0 = .ok (.iconst 0, 1) := by decide +kernel
theorem dX2_paintDots_1 : decode cX2_paintDots 1 = .ok (.istore 7, 2) := by decide +kernel
theorem dX2_paintDots_3 : decode cX2_paintDots 3 = .ok (.iload 7, 2) := by decide +kernel
theorem dX2_paintDots_5 : decode cX2_paintDots 5 = .ok (.iload 5, 2) := by decide +kernel
theorem dX2_paintDots_7 : decode cX2_paintDots 7 = .ok (.if_icmp .ge 21, 3) := by decide +kernel
theorem dX2_paintDots_10 : decode cX2_paintDots 10 = .ok (.aload_n 0, 1) := by decide +kernel
theorem dX2_paintDots_11 : decode cX2_paintDots 11 = .ok (.lload_n 1, 1) := by decide +kernel
theorem dX2_paintDots_12 : decode cX2_paintDots 12 = .ok (.iload 7, 2) := by decide +kernel
theorem dX2_paintDots_14 : decode cX2_paintDots 14 = .ok (.i2l, 1) := by decide +kernel
theorem dX2_paintDots_15 : decode cX2_paintDots 15 = .ok (.ladd, 1) := by decide +kernel
theorem dX2_paintDots_16 : decode cX2_paintDots 16 = .ok (.lload_n 3, 1) := by decide +kernel
theorem dX2_paintDots_17 : decode cX2_paintDots 17 = .ok (.iload 6, 2) := by decide +kernel
theorem dX2_paintDots_19 : decode cX2_paintDots 19 = .ok (.invokevirtual 38, 3) := by decide +kernel
theorem dX2_paintDots_22 : decode cX2_paintDots 22 = .ok (.iinc 7 1, 3) := by decide +kernel
theorem dX2_paintDots_25 : decode cX2_paintDots 25 = .ok (.goto (-22), 3) := by decide +kernel
theorem dX2_paintDots_28 : decode cX2_paintDots 28 = .ok (.return_, 1) := by decide +kernel
set_option maxRecDepth 100000 in
theorem ggX2_isStretch_X2_stretchLength : GoodIn wsX2_isStretch wsX2_stretchLength := goodIn_r _ [4] rfl (by decide +kernel)
set_option maxRecDepth 20000 in
theorem gX2_isStretch_X2_stretchLength : GoodIn wsX2_isStretch (va_wsS RX2 23 yX2_stretchLength wsX2_stretchLength) := goodIn_app (goodIn_of _ (by decide +kernel)) ggX2_isStretch_X2_stretchLength
theorem dX2_isStretch_0 : decode cX2_isStretch 0 = .ok (.iload_n 0, 1) := by decide +kernel
theorem dX2_isStretch_1 : decode cX2_isStretch 1 = .ok (.invokestatic 23, 3) := by decide +kernel
theorem dX2_isStretch_4 : decode cX2_isStretch 4 = .ok (.ifCond .le 14, 3) := by decide +kernel
theorem dX2_isStretch_7 : decode cX2_isStretch 7 = .ok (.iload_n 0, 1) := by decide +kernel
theorem dX2_isStretch_8 : decode cX2_isStretch 8 = .ok (.sipush 191, 3) := by decide +kernel
theorem dX2_isStretch_11 : decode cX2_isStretch 11 = .ok (.if_icmp .gt 7, 3) := by decide +kernel
theorem dX2_isStretch_14 : decode cX2_isStretch 14 = .ok (.iconst 1, 1) := by decide +kernel
theorem dX2_isStretch_15 : decode cX2_isStretch 15 = .ok (.goto 4, 3) := by decide +kernel
theorem dX2_isStretch_18 : decode cX2_isStretch 18 = .ok (.iconst 0, 1) := by decide +kernel
theorem dX2_isStretch_19 : decode cX2_isStretch 19 = .ok (.ireturn, 1) := by decide +kernel
theorem dX2_stretchLength_0 : decode cX2_stretchLength 0 = .ok (.iload_n 0, 1) := by decide +kernel
theorem dX2_stretchLength_1 : decode cX2_stretchLength 1 = .ok (.bipush 63, 2) := by decide +kernel
theorem dX2_stretchLength_3 : decode cX2_stretchLength 3 = .ok (.iand, 1) := by decide +kernel
theorem dX2_stretchLength_4 : decode cX2_stretchLength 4 = .ok (.ireturn, 1) := by decide +kernel
set_option maxRecDepth 100000 in
theorem ggX2_dotBytes_X2_stretchLength : GoodIn wsX2_dotBytes wsX2_stretchLength := goodIn_r _ [4] rfl (by decide +kernel)
set_option maxRecDepth 20000 in
theorem gX2_dotBytes_X2_stretchLength : GoodIn wsX2_dotBytes (va_wsS RX2 23 yX2_stretchLength wsX2_stretchLength) := goodIn_app (goodIn_of _ (by decide +kernel)) ggX2_dotBytes_X2_stretchLength
theorem dX2_dotBytes_0 : decode cX2_dotBytes 0 = .ok (.iload_n 0, 1) := by decide +kernel
theorem dX2_dotBytes_1 : decode cX2_dotBytes 1 = .ok (.bipush 64, 2) := by decide +kernel
theorem dX2_dotBytes_3 : decode cX2_dotBytes 3 = .ok (.if_icmp .ge 5, 3) := by decide +kernel
theorem dX2_dotBytes_6 : decode cX2_dotBytes 6 = .ok (.iconst 0, 1) := by decide +kernel
theorem dX2_dotBytes_7 : decode cX2_dotBytes 7 = .ok (.ireturn, 1) := by decide +kernel
theorem dX2_dotBytes_8 : decode cX2_dotBytes 8 = .ok (.iload_n 0, 1) := by decide +kernel
theorem dX2_dotBytes_9 : decode cX2_dotBytes 9 = .ok (.sipush 128, 3) := by decide +kernel
theorem dX2_dotBytes_12 : decode cX2_dotBytes 12 = .ok (.if_icmp .ge 10, 3) := by decide +kernel
theorem dX2_dotBytes_15 : decode cX2_dotBytes 15 = .ok (.iload_n 0, 1) := by decide +kernel
theorem dX2_dotBytes_16 : decode cX2_dotBytes 16 = .ok (.invokestatic 23, 3) := by decide +kernel
theorem dX2_dotBytes_19 : decode cX2_dotBytes 19 = .ok (.goto 4, 3) := by decide +kernel
theorem dX2_dotBytes_22 : decode cX2_dotBytes 22 = .ok (.iconst 1, 1) := by decide +kernel
theorem dX2_dotBytes_23 : decode cX2_dotBytes 23 = .ok (.ireturn, 1) := by decide +kernel
set_option maxRecDepth 100000 in
theorem ggX3_init_X0_init : GoodIn wsX3_init wsX0_init := goodIn_r _ [15, 16, 2, 3, 17, 18, 19, 20, 26, 27, 28, 29] rfl (by decide +kernel)
set_option maxRecDepth 20000 in
theorem gX3_init_X0_init : GoodIn wsX3_init (wsX0_init) := ggX3_init_X0_init
theorem dX3_init_0 : decode cX3_init 0 = .ok (.aload_n 0, 1) := by decide +kernel
theorem dX3_init_1 : decode cX3_init 1 = .ok (.invokespecial 1, 3) := by decide +kernel
theorem dX3_init_4 : decode cX3_init 4 = .ok (.aload_n 0, 1) := by decide +kernel
theorem dX3_init_5 : decode cX3_init 5 = .ok (.iload_n 1, 1) := by decide +kernel
theorem dX3_init_6 : decode cX3_init 6 = .ok (.putfield 7, 3) := by decide +kernel
theorem dX3_init_9 : decode cX3_init 9 = .ok (.aload_n 0, 1) := by decide +kernel
theorem dX3_init_10 : decode cX3_init 10 = .ok (.iconst 1, 1) := by decide +kernel
theorem dX3_init_11 : decode cX3_init 11 = .ok (.iload_n 1, 1) := by decide +kernel
theorem dX3_init_12 : decode cX3_init 12 = .ok (.ishl, 1) := by decide +kernel
theorem dX3_init_13 : decode cX3_init 13 = .ok (.iconst 1, 1) := by decide +kernel
theorem dX3_init_14 : decode cX3_init 14 = .ok (.isub, 1) := by decide +kernel
theorem dX3_init_15 : decode cX3_init 15 = .ok (.putfield 13, 3) := by decide +kernel
theorem dX3_init_18 : decode cX3_init 18 = .ok (.aload_n 0, 1) := by decide +kernel
theorem dX3_init_19 : decode cX3_init 19 = .ok (.new 16, 3) := by decide +kernel
theorem dX3_init_22 : decode cX3_init 22 = .ok (.dup, 1) := by decide +kernel
theorem dX3_init_23 : decode cX3_init 23 = .ok (.lconst 0, 1) := by decide +kernel
theorem dX3_init_24 : decode cX3_init 24 = .ok (.lconst 0, 1) := by decide +kernel
theorem dX3_init_25 : decode cX3_init 25 = .ok (.iload_n 2, 1) := by decide +kernel
theorem dX3_init_26 : decode cX3_init 26 = .ok (.iload_n 3, 1) := by decide +kernel
theorem dX3_init_27 : decode cX3_init 27 = .ok (.invokespecial 18, 3) := by decide +kernel
theorem dX3_init_30 : decode cX3_init 30 = .ok (.putfield 21, 3) := by decide +kernel
theorem dX3_init_33 : decode cX3_init 33 = .ok (.aload_n 0, 1) := by decide +kernel
theorem dX3_init_34 : decode cX3_init 34 = .ok (.iload_n 2, 1) := by decide +kernel
theorem dX3_init_35 : decode cX3_init 35 = .ok (.iload_n 3, 1) := by decide +kernel
theorem dX3_init_36 : decode cX3_init 36 = .ok (.imul, 1) := by decide +kernel
theorem dX3_init_37 : decode cX3_init 37 = .ok (.newarray .int, 2) := by decide +kernel
theorem dX3_init_39 : decode cX3_init 39 = .ok (.putfield 25, 3) := by decide +kernel
theorem dX3_init_42 : decode cX3_init 42 = .ok (.aload_n 0, 1) := by decide +kernel
theorem dX3_init_43 : decode cX3_init 43 = .ok (.aload_n 0, 1) := by decide +kernel
theorem dX3_init_44 : decode cX3_init 44 = .ok (.getfield 21, 3) := by decide +kernel
theorem dX3_init_47 : decode cX3_init 47 = .ok (.putfield 29, 3) := by decide +kernel
theorem dX3_init_50 : decode cX3_init 50 = .ok (.return_, 1) := by decide +kernel
theorem dX3_fits_0 : decode cX3_fits 0 = .ok (.iload_n 1, 1) := by decide +kernel
theorem dX3_fits_1 : decode cX3_fits 1 = .ok (.ifCond .lt 15, 3) := by decide +kernel
theorem dX3_fits_4 : decode cX3_fits 4 = .ok (.iload_n 1, 1) := by decide +kernel
theorem dX3_fits_5 : decode cX3_fits 5 = .ok (.aload_n 0, 1) := by decide +kernel
theorem dX3_fits_6 : decode cX3_fits 6 = .ok (.getfield 13, 3) := by decide +kernel
theorem dX3_fits_9 : decode cX3_fits 9 = .ok (.if_icmp .gt 7, 3) := by decide +kernel
theorem dX3_fits_12 : decode cX3_fits 12 = .ok (.iconst 1, 1) := by decide +kernel
theorem dX3_fits_13 : decode cX3_fits 13 = .ok (.goto 4, 3) := by decide +kernel
theorem dX3_fits_16 : decode cX3_fits 16 = .ok (.iconst 0, 1) := by decide +kernel
theorem dX3_fits_17 : decode cX3_fits 17 = .ok (.ireturn, 1) := by decide +kernel
theorem dX3_indexOf_0 : decode cX3_indexOf 0 = .ok (.lload_n 3, 1) := by decide +kernel
theorem dX3_indexOf_1 : decode cX3_indexOf 1 = .ok (.aload_n 0, 1) := by decide +kernel
theorem dX3_indexOf_2 : decode cX3_indexOf 2 = .ok (.getfield 21, 3) := by decide +kernel
theorem dX3_indexOf_5 : decode cX3_indexOf 5 = .ok (.getfield 32, 3) := by decide +kernel
theorem dX3_indexOf_8 : decode cX3_indexOf 8 = .ok (.i2l, 1) := by decide +kernel
theorem dX3_indexOf_9 : decode cX3_indexOf 9 = .ok (.lmul, 1) := by decide +kernel
theorem dX3_indexOf_10 : decode cX3_indexOf 10 = .ok (.lload_n 1, 1) := by decide +kernel
theorem dX3_indexOf_11 : decode cX3_indexOf 11 = .ok (.ladd, 1) := by decide +kernel
theorem dX3_indexOf_12 : decode cX3_indexOf 12 = .ok (.l2i, 1) := by decide +kernel
theorem dX3_indexOf_13 : decode cX3_indexOf 13 = .ok (.ireturn, 1) := by decide +kernel
set_option maxRecDepth 100000 in
theorem ggX3_isOne_X0_holds : GoodIn wsX3_isOne wsX0_holds := goodIn_r _ [7, 8, 9, 10, 11, 23, 24, 25, 26] rfl (by decide +kernel)
set_option maxRecDepth 20000 in
theorem gX3_isOne_X0_holds : GoodIn wsX3_isOne (wsV RX3 35 RX0 yX0_holds wsX0_holds) := goodIn_app (goodIn_of _ (by decide +kernel)) ggX3_isOne_X0_holds
set_option maxRecDepth 100000 in
theorem ggX3_isOne_X3_indexOf : GoodIn wsX3_isOne wsX3_indexOf := goodIn_r _ [16, 1, 17, 18, 19, 20, 21, 22, 23, 24, 25, 26] rfl (by decide +kernel)
set_option maxRecDepth 20000 in
theorem gX3_isOne_X3_indexOf : GoodIn wsX3_isOne (wsV RX3 39 RX3 yX3_indexOf wsX3_indexOf) := goodIn_app (goodIn_of _ (by decide +kernel)) ggX3_isOne_X3_indexOf
theorem dX3_isOne_0 : decode cX3_isOne 0 = .ok (.aload_n 0, 1) := by decide +kernel
theorem dX3_isOne_1 : decode cX3_isOne 1 = .ok (.getfield 21, 3) := by decide +kernel
theorem dX3_isOne_4 : decode cX3_isOne 4 = .ok (.lload_n 1, 1) := by decide +kernel
theorem dX3_isOne_5 : decode cX3_isOne 5 = .ok (.lload_n 3, 1) := by decide +kernel
theorem dX3_isOne_6 : decode cX3_isOne 6 = .ok (.invokevirtual 35, 3) := by decide +kernel
theorem dX3_isOne_9 : decode cX3_isOne 9 = .ok (.ifCond .eq 22, 3) := by decide +kernel
theorem dX3_isOne_12 : decode cX3_isOne 12 = .ok (.aload_n 0, 1) := by decide +kernel
theorem dX3_isOne_13 : decode cX3_isOne 13 = .ok (.getfield 25, 3) := by decide +kernel
theorem dX3_isOne_16 : decode cX3_isOne 16 = .ok (.aload_n 0, 1) := by decide +kernel
theorem dX3_isOne_17 : decode cX3_isOne 17 = .ok (.lload_n 1, 1) := by decide +kernel
theorem dX3_isOne_18 : decode cX3_isOne 18 = .ok (.lload_n 3, 1) := by decide +kernel
theorem dX3_isOne_19 : decode cX3_isOne 19 = .ok (.invokevirtual 39, 3) := by decide +kernel
theorem dX3_isOne_22 : decode cX3_isOne 22 = .ok (.iaload, 1) := by decide +kernel
theorem dX3_isOne_23 : decode cX3_isOne 23 = .ok (.iconst 1, 1) := by decide +kernel
theorem dX3_isOne_24 : decode cX3_isOne 24 = .ok (.if_icmp .ne 7, 3) := by decide +kernel
theorem dX3_isOne_27 : decode cX3_isOne 27 = .ok (.iconst 1, 1) := by decide +kernel
theorem dX3_isOne_28 : decode cX3_isOne 28 = .ok (.goto 4, 3) := by decide +kernel
theorem dX3_isOne_31 : decode cX3_isOne 31 = .ok (.iconst 0, 1) := by decide +kernel
theorem dX3_isOne_32 : decode cX3_isOne 32 = .ok (.ireturn, 1) := by decide +kernel
set_option maxRecDepth 100000 in
theorem ggX3_putClipped_X0_holds : GoodIn wsX3_putClipped wsX0_holds := goodIn_r _ [7, 8, 9, 10, 11, 24, 25, 26, 27] rfl (by decide +kernel)
set_option maxRecDepth 20000 in
theorem gX3_putClipped_X0_holds : GoodIn wsX3_putClipped (wsV RX3 35 RX0 yX0_holds wsX0_holds) := goodIn_app (goodIn_of _ (by decide +kernel)) ggX3_putClipped_X0_holds
set_option maxRecDepth 100000 in
theorem ggX3_putClipped_X3_indexOf : GoodIn wsX3_putClipped wsX3_indexOf := goodIn_r _ [16, 17, 18, 19, 20, 21, 22, 23, 24, 25, 26, 27] rfl (by decide +kernel)
set_option maxRecDepth 20000 in
theorem gX3_putClipped_X3_indexOf : GoodIn wsX3_putClipped (wsV RX3 39 RX3 yX3_indexOf wsX3_indexOf) := goodIn_app (goodIn_of _ (by decide +kernel)) ggX3_putClipped_X3_indexOf
theorem dX3_putClipped_0 : decode cX3_putClipped 0 = .ok (.aload_n 0, 1) := by decide +kernel
theorem dX3_putClipped_1 : decode cX3_putClipped 1 = .ok (.getfield 29, 3) := by decide +kernel
theorem dX3_putClipped_4 : decode cX3_putClipped 4 = .ok (.lload_n 1, 1) := by decide +kernel
theorem dX3_putClipped_5 : decode cX3_putClipped 5 = .ok (.lload_n 3, 1) := by decide +kernel
theorem dX3_putClipped_6 : decode cX3_putClipped 6 = .ok (.invokevirtual 35, 3) := by decide +kernel
theorem dX3_putClipped_9 : decode cX3_putClipped 9 = .ok (.ifCond .eq 16, 3) := by decide +kernel
theorem dX3_putClipped_12 : decode cX3_putClipped 12 = .ok (.aload_n 0, 1) := by decide +kernel
theorem dX3_putClipped_13 : decode cX3_putClipped 13 = .ok (.getfield 25, 3) := by decide +kernel
theorem dX3_putClipped_16 : decode cX3_putClipped 16 = .ok (.aload_n 0, 1) := by decide +kernel
theorem dX3_putClipped_17 : decode cX3_putClipped 17 = .ok (.lload_n 1, 1) := by decide +kernel
theorem dX3_putClipped_18 : decode cX3_putClipped 18 = .ok (.lload_n 3, 1) := by decide +kernel
theorem dX3_putClipped_19 : decode cX3_putClipped 19 = .ok (.invokevirtual 39, 3) := by decide +kernel
theorem dX3_putClipped_22 : decode cX3_putClipped 22 = .ok (.iload 5, 2) := by decide +kernel
theorem dX3_putClipped_24 : decode cX3_putClipped 24 = .ok (.iastore, 1) := by decide +kernel
theorem dX3_putClipped_25 : decode cX3_putClipped 25 = .ok (.return_, 1) := by decide +kernel
set_option maxRecDepth 100000 in
theorem ggX3_swapLeftAndRight_X3_indexOf : GoodIn wsX3_swapLeftAndRight wsX3_indexOf := goodIn_r _ [8, 1, 3, 14, 15, 16, 17, 18, 19, 20, 21, 22] rfl (by decide +kernel)
set_option maxRecDepth 20000 in
theorem gX3_swapLeftAndRight_X3_indexOf : GoodIn wsX3_swapLeftAndRight (wsV RX3 39 RX3 yX3_indexOf wsX3_indexOf) := goodIn_app (goodIn_of _ (by decide +kernel)) ggX3_swapLeftAndRight_X3_indexOf
set_option maxRecDepth 100000 in
theorem ggX3_swapLeftAndRight_X3_swapDots : GoodIn wsX3_swapLeftAndRight wsX3_swapDots := goodIn_r _ [12, 13, 14, 15, 16, 17, 18] rfl (by decide +kernel)
set_option maxRecDepth 20000 in
theorem gX3_swapLeftAndRight_X3_swapDots : GoodIn wsX3_swapLeftAndRight (wsV RX3 46 RX3 yX3_swapDots wsX3_swapDots) := goodIn_app (goodIn_of _ (by decide +kernel)) ggX3_swapLeftAndRight_X3_swapDots
theorem dX3_swapLeftAndRight_0 : decode cX3_swapLeftAndRight 0 = .ok (.iconst 0, 1) := by decide +kernel
theorem dX3_swapLeftAndRight_1 : decode cX3_swapLeftAndRight 1 = .ok (.istore_n 1, 1) := by decide +kernel
theorem dX3_swapLeftAndRight_2 : decode cX3_swapLeftAndRight 2 = .ok (.iload_n 1, 1) := by decide +kernel
theorem dX3_swapLeftAndRight_3 : decode cX3_swapLeftAndRight 3 = .ok (.aload_n 0, 1) := by decide +kernel
theorem dX3_swapLeftAndRight_4 : decode cX3_swapLeftAndRight 4 = .ok (.getfield 21, 3) := by decide +kernel
theorem dX3_swapLeftAndRight_7 : decode cX3_swapLeftAndRight 7 = .ok (.getfield 43, 3) := by decide +kernel
theorem dX3_swapLeftAndRight_10 : decode cX3_swapLeftAndRight 10 = .ok (.if_icmp .ge 60, 3) := by decide +kernel
theorem dX3_swapLeftAndRight_13 : decode cX3_swapLeftAndRight 13 = .ok (.iconst 0, 1) := by decide +kernel
theorem dX3_swapLeftAndRight_14 : decode cX3_swapLeftAndRight 14 = .ok (.istore_n 2, 1) := by decide +kernel
theorem dX3_swapLeftAndRight_15 : decode cX3_swapLeftAndRight 15 = .ok (.iload_n 2, 1) := by decide +kernel
theorem dX3_swapLeftAndRight_16 : decode cX3_swapLeftAndRight 16 = .ok (.aload_n 0, 1) := by decide +kernel
theorem dX3_swapLeftAndRight_17 : decode cX3_swapLeftAndRight 17 = .ok (.getfield 21, 3) := by decide +kernel
theorem dX3_swapLeftAndRight_20 : decode cX3_swapLeftAndRight 20 = .ok (.getfield 32, 3) := by decide +kernel
theorem dX3_swapLeftAndRight_23 : decode cX3_swapLeftAndRight 23 = .ok (.iconst 2, 1) := by decide +kernel
theorem dX3_swapLeftAndRight_24 : decode cX3_swapLeftAndRight 24 = .ok (.idiv, 1) := by decide +kernel
theorem dX3_swapLeftAndRight_25 : decode cX3_swapLeftAndRight 25 = .ok (.if_icmp .ge 39, 3) := by decide +kernel
theorem dX3_swapLeftAndRight_28 : decode cX3_swapLeftAndRight 28 = .ok (.aload_n 0, 1) := by decide +kernel
theorem dX3_swapLeftAndRight_29 : decode cX3_swapLeftAndRight 29 = .ok (.aload_n 0, 1) := by decide +kernel
theorem dX3_swapLeftAndRight_30 : decode cX3_swapLeftAndRight 30 = .ok (.iload_n 2, 1) := by decide +kernel
theorem dX3_swapLeftAndRight_31 : decode cX3_swapLeftAndRight 31 = .ok (.i2l, 1) := by decide +kernel
theorem dX3_swapLeftAndRight_32 : decode cX3_swapLeftAndRight 32 = .ok (.iload_n 1, 1) := by decide +kernel
theorem dX3_swapLeftAndRight_33 : decode cX3_swapLeftAndRight 33 = .ok (.i2l, 1) := by decide +kernel
theorem dX3_swapLeftAndRight_34 : decode cX3_swapLeftAndRight 34 = .ok (.invokevirtual 39, 3) := by decide +kernel
theorem dX3_swapLeftAndRight_37 : decode cX3_swapLeftAndRight 37 = .ok (.aload_n 0, 1) := by decide +kernel
theorem dX3_swapLeftAndRight_38 : decode cX3_swapLeftAndRight 38 = .ok (.aload_n 0, 1) := by decide +kernel
theorem dX3_swapLeftAndRight_39 : decode cX3_swapLeftAndRight 39 = .ok (.getfield 21, 3) := by decide +kernel
theorem dX3_swapLeftAndRight_42 : decode cX3_swapLeftAndRight 42 = .ok (.getfield 32, 3) := by decide +kernel
theorem dX3_swapLeftAndRight_45 : decode cX3_swapLeftAndRight 45 = .ok (.iconst 1, 1) := by decide +kernel
theorem dX3_swapLeftAndRight_46 : decode cX3_swapLeftAndRight 46 = .ok (.isub, 1) := by decide +kernel
theorem dX3_swapLeftAndRight_47 : decode cX3_swapLeftAndRight 47 = .ok (.iload_n 2, 1) := by decide +kernel
theorem dX3_swapLeftAndRight_48 : decode cX3_swapLeftAndRight 48 = .ok (.isub, 1) := by decide +kernel
theorem dX3_swapLeftAndRight_49 : decode cX3_swapLeftAndRight 49 = .ok (.i2l, 1) := by decide +kernel
theorem dX3_swapLeftAndRight_50 : decode cX3_swapLeftAndRight 50 = .ok (.iload_n 1, 1) := by decide +kernel
theorem dX3_swapLeftAndRight_51 : decode cX3_swapLeftAndRight 51 = .ok (.i2l, 1) := by decide +kernel
theorem dX3_swapLeftAndRight_52 : decode cX3_swapLeftAndRight 52 = .ok (.invokevirtual 39, 3) := by decide +kernel
theorem dX3_swapLeftAndRight_55 : decode cX3_swapLeftAndRight 55 = .ok (.invokevirtual 46, 3) := by decide +kernel
theorem dX3_swapLeftAndRight_58 : decode cX3_swapLeftAndRight 58 = .ok (.iinc 2 1, 3) := by decide +kernel
theorem dX3_swapLeftAndRight_61 : decode cX3_swapLeftAndRight 61 = .ok (.goto (-46), 3) := by decide +kernel
theorem dX3_swapLeftAndRight_64 : decode cX3_swapLeftAndRight 64 = .ok (.iinc 1 1, 3) := by decide +kernel
theorem dX3_swapLeftAndRight_67 : decode cX3_swapLeftAndRight 67 = .ok (.goto (-65), 3) := by decide +kernel
theorem dX3_swapLeftAndRight_70 : decode cX3_swapLeftAndRight 70 = .ok (.return_, 1) := by decide +kernel
set_option maxRecDepth 100000 in
theorem ggX3_swapTopAndBottom_X3_indexOf : GoodIn wsX3_swapTopAndBottom wsX3_indexOf := goodIn_r _ [8, 1, 3, 14, 15, 16, 17, 18, 19, 20, 21, 22] rfl (by decide +kernel)
set_option maxRecDepth 20000 in
theorem gX3_swapTopAndBottom_X3_indexOf : GoodIn wsX3_swapTopAndBottom (wsV RX3 39 RX3 yX3_indexOf wsX3_indexOf) := goodIn_app (goodIn_of _ (by decide +kernel)) ggX3_swapTopAndBottom_X3_indexOf
set_option maxRecDepth 100000 in
theorem ggX3_swapTopAndBottom_X3_swapDots : GoodIn wsX3_swapTopAndBottom wsX3_swapDots := goodIn_r _ [12, 13, 14, 15, 16, 17, 18] rfl (by decide +kernel)
set_option maxRecDepth 20000 in
theorem gX3_swapTopAndBottom_X3_swapDots : GoodIn wsX3_swapTopAndBottom (wsV RX3 46 RX3 yX3_swapDots wsX3_swapDots) := goodIn_app (goodIn_of _ (by decide +kernel)) ggX3_swapTopAndBottom_X3_swapDots
theorem dX3_swapTopAndBottom_0 : decode cX3_swapTopAndBottom 0 = .ok (.iconst 0, 1) := by decide +kernel
theorem dX3_swapTopAndBottom_1 : decode cX3_swapTopAndBottom 1 = .ok (.istore_n 1, 1) := by decide +kernel
theorem dX3_swapTopAndBottom_2 : decode cX3_swapTopAndBottom 2 = .ok (.iload_n 1, 1) := by decide +kernel
theorem dX3_swapTopAndBottom_3 : decode cX3_swapTopAndBottom 3 = .ok (.aload_n 0, 1) := by decide +kernel
theorem dX3_swapTopAndBottom_4 : decode cX3_swapTopAndBottom 4 = .ok (.getfield 21, 3) := by decide +kernel
theorem dX3_swapTopAndBottom_7 : decode cX3_swapTopAndBottom 7 = .ok (.getfield 43, 3) := by decide +kernel
theorem dX3_swapTopAndBottom_10 : decode cX3_swapTopAndBottom 10 = .ok (.iconst 2, 1) := by decide +kernel
theorem dX3_swapTopAndBottom_11 : decode cX3_swapTopAndBottom 11 = .ok (.idiv, 1) := by decide +kernel
theorem dX3_swapTopAndBottom_12 : decode cX3_swapTopAndBottom 12 = .ok (.if_icmp .ge 58, 3) := by decide +kernel
theorem dX3_swapTopAndBottom_15 : decode cX3_swapTopAndBottom 15 = .ok (.iconst 0, 1) := by decide +kernel
theorem dX3_swapTopAndBottom_16 : decode cX3_swapTopAndBottom 16 = .ok (.istore_n 2, 1) := by decide +kernel
theorem dX3_swapTopAndBottom_17 : decode cX3_swapTopAndBottom 17 = .ok (.iload_n 2, 1) := by decide +kernel
theorem dX3_swapTopAndBottom_18 : decode cX3_swapTopAndBottom 18 = .ok (.aload_n 0, 1) := by decide +kernel
theorem dX3_swapTopAndBottom_19 : decode cX3_swapTopAndBottom 19 = .ok (.getfield 21, 3) := by decide +kernel
theorem dX3_swapTopAndBottom_22 : decode cX3_swapTopAndBottom 22 = .ok (.getfield 32, 3) := by decide +kernel
theorem dX3_swapTopAndBottom_25 : decode cX3_swapTopAndBottom 25 = .ok (.if_icmp .ge 39, 3) := by decide +kernel
theorem dX3_swapTopAndBottom_28 : decode cX3_swapTopAndBottom 28 = .ok (.aload_n 0, 1) := by decide +kernel
theorem dX3_swapTopAndBottom_29 : decode cX3_swapTopAndBottom 29 = .ok (.aload_n 0, 1) := by decide +kernel
theorem dX3_swapTopAndBottom_30 : decode cX3_swapTopAndBottom 30 = .ok (.iload_n 2, 1) := by decide +kernel
theorem dX3_swapTopAndBottom_31 : decode cX3_swapTopAndBottom 31 = .ok (.i2l, 1) := by decide +kernel
theorem dX3_swapTopAndBottom_32 : decode cX3_swapTopAndBottom 32 = .ok (.iload_n 1, 1) := by decide +kernel
theorem dX3_swapTopAndBottom_33 : decode cX3_swapTopAndBottom 33 = .ok (.i2l, 1) := by decide +kernel
theorem dX3_swapTopAndBottom_34 : decode cX3_swapTopAndBottom 34 = .ok (.invokevirtual 39, 3) := by decide +kernel
theorem dX3_swapTopAndBottom_37 : decode cX3_swapTopAndBottom 37 = .ok (.aload_n 0, 1) := by decide +kernel
theorem dX3_swapTopAndBottom_38 : decode cX3_swapTopAndBottom 38 = .ok (.iload_n 2, 1) := by decide +kernel
theorem dX3_swapTopAndBottom_39 : decode cX3_swapTopAndBottom 39 = .ok (.i2l, 1) := by decide +kernel
theorem dX3_swapTopAndBottom_40 : decode cX3_swapTopAndBottom 40 = .ok (.aload_n 0, 1) := by decide +kernel
theorem dX3_swapTopAndBottom_41 : decode cX3_swapTopAndBottom 41 = .ok (.getfield 21, 3) := by decide +kernel
theorem dX3_swapTopAndBottom_44 : decode cX3_swapTopAndBottom 44 = .ok (.getfield 43, 3) := by decide +kernel
theorem dX3_swapTopAndBottom_47 : decode cX3_swapTopAndBottom 47 = .ok (.iconst 1, 1) := by decide +kernel
theorem dX3_swapTopAndBottom_48 : decode cX3_swapTopAndBottom 48 = .ok (.isub, 1) := by decide +kernel
theorem dX3_swapTopAndBottom_49 : decode cX3_swapTopAndBottom 49 = .ok (.iload_n 1, 1) := by decide +kernel
theorem dX3_swapTopAndBottom_50 : decode cX3_swapTopAndBottom 50 = .ok (.isub, 1) := by decide +kernel
theorem dX3_swapTopAndBottom_51 : decode cX3_swapTopAndBottom 51 = .ok (.i2l, 1) := by decide +kernel
theorem dX3_swapTopAndBottom_52 : decode cX3_swapTopAndBottom 52 = .ok (.invokevirtual 39, 3) := by decide +kernel
theorem dX3_swapTopAndBottom_55 : decode cX3_swapTopAndBottom 55 = .ok (.invokevirtual 46, 3) := by decide +kernel
theorem dX3_swapTopAndBottom_58 : decode cX3_swapTopAndBottom 58 = .ok (.iinc 2 1, 3) := by decide +kernel
theorem dX3_swapTopAndBottom_61 : decode cX3_swapTopAndBottom 61 = .ok (.goto (-44), 3) := by decide +kernel
theorem dX3_swapTopAndBottom_64 : decode cX3_swapTopAndBottom 64 = .ok (.iinc 1 1, 3) := by decide +kernel
theorem dX3_swapTopAndBottom_67 : decode cX3_swapTopAndBottom 67 = .ok (.goto (-65), 3) := by decide +kernel
theorem dX3_swapTopAndBottom_70 : decode cX3_swapTopAndBottom 70 = .ok (.return_, 1) := by decide +kernel
theorem dX3_swapDots_0 : decode cX3_swapDots 0 = .ok (.aload_n 0, 1) := by decide +kernel
theorem dX3_swapDots_1 : decode cX3_swapDots 1 = .ok (.getfield 25, 3) := by decide +kernel
theorem dX3_swapDots_4 : decode cX3_swapDots 4 = .ok (.iload_n 1, 1) := by decide +kernel
theorem dX3_swapDots_5 : decode cX3_swapDots 5 = .ok (.iaload, 1) := by decide +kernel
theorem dX3_swapDots_6 : decode cX3_swapDots 6 = .ok (.istore_n 3, 1) := by decide +kernel
theorem dX3_swapDots_7 : decode cX3_swapDots 7 = .ok (.aload_n 0, 1) := by decide +kernel
theorem dX3_swapDots_8 : decode cX3_swapDots 8 = .ok (.getfield 25, 3) := by decide +kernel
theorem dX3_swapDots_11 : decode cX3_swapDots 11 = .ok (.iload_n 1, 1) := by decide +kernel
theorem dX3_swapDots_12 : decode cX3_swapDots 12 = .ok (.aload_n 0, 1) := by decide +kernel
theorem dX3_swapDots_13 : decode cX3_swapDots 13 = .ok (.getfield 25, 3) := by decide +kernel
theorem dX3_swapDots_16 : decode cX3_swapDots 16 = .ok (.iload_n 2, 1) := by decide +kernel
theorem dX3_swapDots_17 : decode cX3_swapDots 17 = .ok (.iaload, 1) := by decide +kernel
theorem dX3_swapDots_18 : decode cX3_swapDots 18 = .ok (.iastore, 1) := by decide +kernel
theorem dX3_swapDots_19 : decode cX3_swapDots 19 = .ok (.aload_n 0, 1) := by decide +kernel
theorem dX3_swapDots_20 : decode cX3_swapDots 20 = .ok (.getfield 25, 3) := by decide +kernel
theorem dX3_swapDots_23 : decode cX3_swapDots 23 = .ok (.iload_n 2, 1) := by decide +kernel
theorem dX3_swapDots_24 : decode cX3_swapDots 24 = .ok (.iload_n 3, 1) := by decide +kernel
theorem dX3_swapDots_25 : decode cX3_swapDots 25 = .ok (.iastore, 1) := by decide +kernel
theorem dX3_swapDots_26 : decode cX3_swapDots 26 = .ok (.return_, 1) := by decide +kernel
set_option maxRecDepth 100000 in
theorem ggX3_isSound_X3_fits : GoodIn wsX3_isSound wsX3_fits := goodIn_r _ [12, 13, 14, 15, 16, 17, 18] rfl (by decide +kernel)
set_option maxRecDepth 20000 in
theorem gX3_isSound_X3_fits : GoodIn wsX3_isSound (wsV RX3 50 RX3 yX3_fits wsX3_fits) := goodIn_app (goodIn_of _ (by decide +kernel)) ggX3_isSound_X3_fits
theorem dX3_isSound_0 : decode cX3_isSound 0 = .ok (.aload_n 0, 1) := by decide +kernel
theorem dX3_isSound_1 : decode cX3_isSound 1 = .ok (.getfield 25, 3) := by decide +kernel
theorem dX3_isSound_4 : decode cX3_isSound 4 = .ok (.astore_n 1, 1) := by decide +kernel
theorem dX3_isSound_5 : decode cX3_isSound 5 = .ok (.aload_n 1, 1) := by decide +kernel
theorem dX3_isSound_6 : decode cX3_isSound 6 = .ok (.arraylength, 1) := by decide +kernel
theorem dX3_isSound_7 : decode cX3_isSound 7 = .ok (.istore_n 2, 1) := by decide +kernel
theorem dX3_isSound_8 : decode cX3_isSound 8 = .ok (.iconst 0, 1) := by decide +kernel
theorem dX3_isSound_9 : decode cX3_isSound 9 = .ok (.istore_n 3, 1) := by decide +kernel
theorem dX3_isSound_10 : decode cX3_isSound 10 = .ok (.iload_n 3, 1) := by decide +kernel
theorem dX3_isSound_11 : decode cX3_isSound 11 = .ok (.iload_n 2, 1) := by decide +kernel
theorem dX3_isSound_12 : decode cX3_isSound 12 = .ok (.if_icmp .ge 25, 3) := by decide +kernel
theorem dX3_isSound_15 : decode cX3_isSound 15 = .ok (.aload_n 1, 1) := by decide +kernel
theorem dX3_isSound_16 : decode cX3_isSound 16 = .ok (.iload_n 3, 1) := by decide +kernel
theorem dX3_isSound_17 : decode cX3_isSound 17 = .ok (.iaload, 1) := by decide +kernel
theorem dX3_isSound_18 : decode cX3_isSound 18 = .ok (.istore 4, 2) := by decide +kernel
theorem dX3_isSound_20 : decode cX3_isSound 20 = .ok (.aload_n 0, 1) := by decide +kernel
theorem dX3_isSound_21 : decode cX3_isSound 21 = .ok (.iload 4, 2) := by decide +kernel
theorem dX3_isSound_23 : decode cX3_isSound 23 = .ok (.invokevirtual 50, 3) := by decide +kernel
theorem dX3_isSound_26 : decode cX3_isSound 26 = .ok (.ifCond .ne 5, 3) := by decide +kernel
theorem dX3_isSound_29 : decode cX3_isSound 29 = .ok (.iconst 0, 1) := by decide +kernel
theorem dX3_isSound_30 : decode cX3_isSound 30 = .ok (.ireturn, 1) := by decide +kernel
theorem dX3_isSound_31 : decode cX3_isSound 31 = .ok (.iinc 3 1, 3) := by decide +kernel
theorem dX3_isSound_34 : decode cX3_isSound 34 = .ok (.goto (-24), 3) := by decide +kernel
theorem dX3_isSound_37 : decode cX3_isSound 37 = .ok (.aload_n 0, 1) := by decide +kernel
theorem dX3_isSound_38 : decode cX3_isSound 38 = .ok (.getfield 29, 3) := by decide +kernel
theorem dX3_isSound_41 : decode cX3_isSound 41 = .ok (.getfield 54, 3) := by decide +kernel
theorem dX3_isSound_44 : decode cX3_isSound 44 = .ok (.lconst 0, 1) := by decide +kernel
theorem dX3_isSound_45 : decode cX3_isSound 45 = .ok (.lcmp, 1) := by decide +kernel
theorem dX3_isSound_46 : decode cX3_isSound 46 = .ok (.ifCond .lt 19, 3) := by decide +kernel
theorem dX3_isSound_49 : decode cX3_isSound 49 = .ok (.aload_n 0, 1) := by decide +kernel
theorem dX3_isSound_50 : decode cX3_isSound 50 = .ok (.getfield 29, 3) := by decide +kernel
theorem dX3_isSound_53 : decode cX3_isSound 53 = .ok (.getfield 58, 3) := by decide +kernel
theorem dX3_isSound_56 : decode cX3_isSound 56 = .ok (.lconst 0, 1) := by decide +kernel
theorem dX3_isSound_57 : decode cX3_isSound 57 = .ok (.lcmp, 1) := by decide +kernel
theorem dX3_isSound_58 : decode cX3_isSound 58 = .ok (.ifCond .lt 7, 3) := by decide +kernel
theorem dX3_isSound_61 : decode cX3_isSound 61 = .ok (.iconst 1, 1) := by decide +kernel
theorem dX3_isSound_62 : decode cX3_isSound 62 = .ok (.goto 4, 3) := by decide +kernel
theorem dX3_isSound_65 : decode cX3_isSound 65 = .ok (.iconst 0, 1) := by decide +kernel
theorem dX3_isSound_66 : decode cX3_isSound 66 = .ok (.istore_n 1, 1) := by decide +kernel
theorem dX3_isSound_67 : decode cX3_isSound 67 = .ok (.iload_n 1, 1) := by decide +kernel
theorem dX3_isSound_68 : decode cX3_isSound 68 = .ok (.ifCond .eq 63, 3) := by decide +kernel
theorem dX3_isSound_71 : decode cX3_isSound 71 = .ok (.aload_n 0, 1) := by decide +kernel
theorem dX3_isSound_72 : decode cX3_isSound 72 = .ok (.getfield 29, 3) := by decide +kernel
theorem dX3_isSound_75 : decode cX3_isSound 75 = .ok (.getfield 54, 3) := by decide +kernel
theorem dX3_isSound_78 : decode cX3_isSound 78 = .ok (.aload_n 0, 1) := by decide +kernel
theorem dX3_isSound_79 : decode cX3_isSound 79 = .ok (.getfield 29, 3) := by decide +kernel
theorem dX3_isSound_82 : decode cX3_isSound 82 = .ok (.getfield 32, 3) := by decide +kernel
theorem dX3_isSound_85 : decode cX3_isSound 85 = .ok (.i2l, 1) := by decide +kernel
theorem dX3_isSound_86 : decode cX3_isSound 86 = .ok (.ladd, 1) := by decide +kernel
theorem dX3_isSound_87 : decode cX3_isSound 87 = .ok (.aload_n 0, 1) := by decide +kernel
theorem dX3_isSound_88 : decode cX3_isSound 88 = .ok (.getfield 21, 3) := by decide +kernel
theorem dX3_isSound_91 : decode cX3_isSound 91 = .ok (.getfield 32, 3) := by decide +kernel
theorem dX3_isSound_94 : decode cX3_isSound 94 = .ok (.i2l, 1) := by decide +kernel
theorem dX3_isSound_95 : decode cX3_isSound 95 = .ok (.lcmp, 1) := by decide +kernel
theorem dX3_isSound_96 : decode cX3_isSound 96 = .ok (.ifCond .gt 35, 3) := by decide +kernel
theorem dX3_isSound_99 : decode cX3_isSound 99 = .ok (.aload_n 0, 1) := by decide +kernel
theorem dX3_isSound_100 : decode cX3_isSound 100 = .ok (.getfield 29, 3) := by decide +kernel
theorem dX3_isSound_103 : decode cX3_isSound 103 = .ok (.getfield 58, 3) := by decide +kernel
theorem dX3_isSound_106 : decode cX3_isSound 106 = .ok (.aload_n 0, 1) := by decide +kernel
theorem dX3_isSound_107 : decode cX3_isSound 107 = .ok (.getfield 29, 3) := by decide +kernel
theorem dX3_isSound_110 : decode cX3_isSound 110 = .ok (.getfield 43, 3) := by decide +kernel
theorem dX3_isSound_113 : decode cX3_isSound 113 = .ok (.i2l, 1) := by decide +kernel
theorem dX3_isSound_114 : decode cX3_isSound 114 = .ok (.ladd, 1) := by decide +kernel
theorem dX3_isSound_115 : decode cX3_isSound 115 = .ok (.aload_n 0, 1) := by decide +kernel
theorem dX3_isSound_116 : decode cX3_isSound 116 = .ok (.getfield 21, 3) := by decide +kernel
theorem dX3_isSound_119 : decode cX3_isSound 119 = .ok (.getfield 43, 3) := by decide +kernel
theorem dX3_isSound_122 : decode cX3_isSound 122 = .ok (.i2l, 1) := by decide +kernel
theorem dX3_isSound_123 : decode cX3_isSound 123 = .ok (.lcmp, 1) := by decide +kernel
theorem dX3_isSound_124 : decode cX3_isSound 124 = .ok (.ifCond .gt 7, 3) := by decide +kernel
theorem dX3_isSound_127 : decode cX3_isSound 127 = .ok (.iconst 1, 1) := by decide +kernel
theorem dX3_isSound_128 : decode cX3_isSound 128 = .ok (.goto 4, 3) := by decide +kernel
theorem dX3_isSound_131 : decode cX3_isSound 131 = .ok (.iconst 0, 1) := by decide +kernel
theorem dX3_isSound_132 : decode cX3_isSound 132 = .ok (.ireturn, 1) := by decide +kernel
theorem dX4_init_0 : decode cX4_init 0 = .ok (.aload_n 0, 1) := by decide +kernel
theorem dX4_init_1 : decode cX4_init 1 = .ok (.invokespecial 3, 3) := by decide +kernel
theorem dX4_init_4 : decode cX4_init 4 = .ok (.aload_n 0, 1) := by decide +kernel
theorem dX4_init_5 : decode cX4_init 5 = .ok (.aload_n 1, 1) := by decide +kernel
theorem dX4_init_6 : decode cX4_init 6 = .ok (.putfield 9, 3) := by decide +kernel
theorem dX4_init_9 : decode cX4_init 9 = .ok (.aload_n 0, 1) := by decide +kernel
theorem dX4_init_10 : decode cX4_init 10 = .ok (.iload_n 2, 1) := by decide +kernel
theorem dX4_init_11 : decode cX4_init 11 = .ok (.putfield 15, 3) := by decide +kernel
theorem dX4_init_14 : decode cX4_init 14 = .ok (.aload_n 0, 1) := by decide +kernel
theorem dX4_init_15 : decode cX4_init 15 = .ok (.aload_n 3, 1) := by decide +kernel
theorem dX4_init_16 : decode cX4_init 16 = .ok (.putfield 19, 3) := by decide +kernel
theorem dX4_init_19 : decode cX4_init 19 = .ok (.return_, 1) := by decide +kernel
set_option maxRecDepth 100000 in
theorem ggX4_addRows_X3_indexOf : GoodIn wsX4_addRows wsX3_indexOf := goodIn_r _ [9, 10, 11, 51, 52, 53, 54, 55, 56, 57, 58, 59] rfl (by decide +kernel)
set_option maxRecDepth 20000 in
theorem gX4_addRows_X3_indexOf : GoodIn wsX4_addRows (wsV RX4 34 RX3 yX3_indexOf wsX3_indexOf) := goodIn_app (goodIn_of _ (by decide +kernel)) ggX4_addRows_X3_indexOf
set_option maxRecDepth 100000 in
theorem ggX4_addRows_X4_addRow : GoodIn wsX4_addRows wsX4_addRow := goodIn_r _ [16, 1, 17, 18, 19, 20, 15, 21, 2, 22, 23, 24, 25, 26, 27, 28, 29, 30, 31, 32, 33, 34, 35, 36, 37, 38, 39, 4, 40, 41, 42, 43, 44, 45, 46, 47, 48, 49, 50, 51, 52, 53, 54, 55, 56, 57, 58, 59, 60, 61, 62] rfl (by decide +kernel)
set_option maxRecDepth 20000 in
theorem gX4_addRows_X4_addRow : GoodIn wsX4_addRows (wsV RX4 38 RX4 yX4_addRow wsX4_addRow) := goodIn_app (goodIn_of _ (by decide +kernel)) ggX4_addRows_X4_addRow
set_option maxRecDepth 100000 in
theorem ggX4_addRows_X2_append : GoodIn wsX4_addRows wsX2_append := goodIn_r _ [44, 45, 46, 47, 60, 61, 62] rfl (by decide +kernel)
set_option maxRecDepth 20000 in
theorem gX4_addRows_X2_append : GoodIn wsX4_addRows (wsV RX4 42 RX2 yX2_append wsX2_append) := goodIn_app (goodIn_of _ (by decide +kernel)) ggX4_addRows_X2_append
theorem dX4_addRows_0 : decode cX4_addRows 0 = .ok (.iconst 0, 1) := by decide +kernel
theorem dX4_addRows_1 : decode cX4_addRows 1 = .ok (.istore_n 1, 1) := by decide +kernel
theorem dX4_addRows_2 : decode cX4_addRows 2 = .ok (.iload_n 1, 1) := by decide +kernel
theorem dX4_addRows_3 : decode cX4_addRows 3 = .ok (.aload_n 0, 1) := by decide +kernel
theorem dX4_addRows_4 : decode cX4_addRows 4 = .ok (.getfield 9, 3) := by decide +kernel
theorem dX4_addRows_7 : decode cX4_addRows 7 = .ok (.getfield 23, 3) := by decide +kernel
theorem dX4_addRows_10 : decode cX4_addRows 10 = .ok (.getfield 29, 3) := by decide +kernel
theorem dX4_addRows_13 : decode cX4_addRows 13 = .ok (.if_icmp .ge 31, 3) := by decide +kernel
theorem dX4_addRows_16 : decode cX4_addRows 16 = .ok (.aload_n 0, 1) := by decide +kernel
theorem dX4_addRows_17 : decode cX4_addRows 17 = .ok (.aload_n 0, 1) := by decide +kernel
theorem dX4_addRows_18 : decode cX4_addRows 18 = .ok (.getfield 9, 3) := by decide +kernel
theorem dX4_addRows_21 : decode cX4_addRows 21 = .ok (.lconst 0, 1) := by decide +kernel
theorem dX4_addRows_22 : decode cX4_addRows 22 = .ok (.iload_n 1, 1) := by decide +kernel
theorem dX4_addRows_23 : decode cX4_addRows 23 = .ok (.i2l, 1) := by decide +kernel
theorem dX4_addRows_24 : decode cX4_addRows 24 = .ok (.invokevirtual 34, 3) := by decide +kernel
theorem dX4_addRows_27 : decode cX4_addRows 27 = .ok (.invokevirtual 38, 3) := by decide +kernel
theorem dX4_addRows_30 : decode cX4_addRows 30 = .ok (.aload_n 0, 1) := by decide +kernel
theorem dX4_addRows_31 : decode cX4_addRows 31 = .ok (.getfield 19, 3) := by decide +kernel
theorem dX4_addRows_34 : decode cX4_addRows 34 = .ok (.iconst 0, 1) := by decide +kernel
theorem dX4_addRows_35 : decode cX4_addRows 35 = .ok (.invokevirtual 42, 3) := by decide +kernel
theorem dX4_addRows_38 : decode cX4_addRows 38 = .ok (.iinc 1 1, 3) := by decide +kernel
theorem dX4_addRows_41 : decode cX4_addRows 41 = .ok (.goto (-39), 3) := by decide +kernel
theorem dX4_addRows_44 : decode cX4_addRows 44 = .ok (.return_, 1) := by decide +kernel
set_option maxRecDepth 100000 in
theorem ggX4_addRow_X4_toldEnd : GoodIn wsX4_addRow wsX4_toldEnd := goodIn_r _ [7, 1, 8, 9, 2, 10, 36, 37, 38, 39, 40, 41, 42, 43, 44, 45, 46, 47] rfl (by decide +kernel)
set_option maxRecDepth 20000 in
theorem gX4_addRow_X4_toldEnd : GoodIn wsX4_addRow (wsV RX4 47 RX4 yX4_toldEnd wsX4_toldEnd) := goodIn_app (goodIn_of _ (by decide +kernel)) ggX4_addRow_X4_toldEnd
set_option maxRecDepth 100000 in
theorem ggX4_addRow_X4_kindAt : GoodIn wsX4_addRow wsX4_kindAt := goodIn_r _ [14, 1, 2, 10, 15, 16, 17, 6, 18, 8, 9, 36, 37, 38, 39, 40, 41, 42, 43, 44, 45, 46, 47] rfl (by decide +kernel)
set_option maxRecDepth 20000 in
theorem gX4_addRow_X4_kindAt : GoodIn wsX4_addRow (wsV RX4 51 RX4 yX4_kindAt wsX4_kindAt) := goodIn_app (goodIn_of _ (by decide +kernel)) ggX4_addRow_X4_kindAt
set_option maxRecDepth 100000 in
theorem ggX4_addRow_X4_addStretch : GoodIn wsX4_addRow wsX4_addStretch := goodIn_r _ [22, 23, 24, 25, 26, 27, 1, 2, 28, 29, 30, 31, 32, 33, 34, 35, 36, 37, 38, 39, 40, 41, 42, 43, 48, 49, 50] rfl (by decide +kernel)
set_option maxRecDepth 20000 in
theorem gX4_addRow_X4_addStretch : GoodIn wsX4_addRow (wsV RX4 59 RX4 yX4_addStretch wsX4_addStretch) := goodIn_app (goodIn_of _ (by decide +kernel)) ggX4_addRow_X4_addStretch
theorem dX4_addRow_0 : decode cX4_addRow 0 = .ok (.aload_n 0, 1) := by decide +kernel
theorem dX4_addRow_1 : decode cX4_addRow 1 = .ok (.iload_n 1, 1) := by decide +kernel
theorem dX4_addRow_2 : decode cX4_addRow 2 = .ok (.invokevirtual 47, 3) := by decide +kernel
theorem dX4_addRow_5 : decode cX4_addRow 5 = .ok (.istore_n 2, 1) := by decide +kernel
theorem dX4_addRow_6 : decode cX4_addRow 6 = .ok (.iload_n 1, 1) := by decide +kernel
theorem dX4_addRow_7 : decode cX4_addRow 7 = .ok (.istore_n 3, 1) := by decide +kernel
theorem dX4_addRow_8 : decode cX4_addRow 8 = .ok (.aload_n 0, 1) := by decide +kernel
theorem dX4_addRow_9 : decode cX4_addRow 9 = .ok (.iload_n 1, 1) := by decide +kernel
theorem dX4_addRow_10 : decode cX4_addRow 10 = .ok (.iload_n 1, 1) := by decide +kernel
theorem dX4_addRow_11 : decode cX4_addRow 11 = .ok (.invokevirtual 51, 3) := by decide +kernel
theorem dX4_addRow_14 : decode cX4_addRow 14 = .ok (.istore 4, 2) := by decide +kernel
theorem dX4_addRow_16 : decode cX4_addRow 16 = .ok (.iload_n 1, 1) := by decide +kernel
theorem dX4_addRow_17 : decode cX4_addRow 17 = .ok (.iconst 1, 1) := by decide +kernel
theorem dX4_addRow_18 : decode cX4_addRow 18 = .ok (.iadd, 1) := by decide +kernel
theorem dX4_addRow_19 : decode cX4_addRow 19 = .ok (.istore 5, 2) := by decide +kernel
theorem dX4_addRow_21 : decode cX4_addRow 21 = .ok (.iload 5, 2) := by decide +kernel
theorem dX4_addRow_23 : decode cX4_addRow 23 = .ok (.iload_n 2, 1) := by decide +kernel
theorem dX4_addRow_24 : decode cX4_addRow 24 = .ok (.if_icmp .gt 84, 3) := by decide +kernel
theorem dX4_addRow_27 : decode cX4_addRow 27 = .ok (.iload 5, 2) := by decide +kernel
theorem dX4_addRow_29 : decode cX4_addRow 29 = .ok (.iload_n 2, 1) := by decide +kernel
theorem dX4_addRow_30 : decode cX4_addRow 30 = .ok (.if_icmp .ge 13, 3) := by decide +kernel
theorem dX4_addRow_33 : decode cX4_addRow 33 = .ok (.aload_n 0, 1) := by decide +kernel
theorem dX4_addRow_34 : decode cX4_addRow 34 = .ok (.iload_n 1, 1) := by decide +kernel
theorem dX4_addRow_35 : decode cX4_addRow 35 = .ok (.iload 5, 2) := by decide +kernel
theorem dX4_addRow_37 : decode cX4_addRow 37 = .ok (.invokevirtual 51, 3) := by decide +kernel
theorem dX4_addRow_40 : decode cX4_addRow 40 = .ok (.goto 4, 3) := by decide +kernel
theorem dX4_addRow_43 : decode cX4_addRow 43 = .ok (.iconst (-1), 1) := by decide +kernel
theorem dX4_addRow_44 : decode cX4_addRow 44 = .ok (.istore 6, 2) := by decide +kernel
theorem dX4_addRow_46 : decode cX4_addRow 46 = .ok (.iload 6, 2) := by decide +kernel
theorem dX4_addRow_48 : decode cX4_addRow 48 = .ok (.iload 4, 2) := by decide +kernel
theorem dX4_addRow_50 : decode cX4_addRow 50 = .ok (.if_icmp .ne 36, 3) := by decide +kernel
theorem dX4_addRow_53 : decode cX4_addRow 53 = .ok (.iload 6, 2) := by decide +kernel
theorem dX4_addRow_55 : decode cX4_addRow 55 = .ok (.sipush 128, 3) := by decide +kernel
theorem dX4_addRow_58 : decode cX4_addRow 58 = .ok (.if_icmp .ne 44, 3) := by decide +kernel
theorem dX4_addRow_61 : decode cX4_addRow 61 = .ok (.aload_n 0, 1) := by decide +kernel
theorem dX4_addRow_62 : decode cX4_addRow 62 = .ok (.getfield 9, 3) := by decide +kernel
theorem dX4_addRow_65 : decode cX4_addRow 65 = .ok (.getfield 55, 3) := by decide +kernel
theorem dX4_addRow_68 : decode cX4_addRow 68 = .ok (.iload 5, 2) := by decide +kernel
theorem dX4_addRow_70 : decode cX4_addRow 70 = .ok (.iaload, 1) := by decide +kernel
theorem dX4_addRow_71 : decode cX4_addRow 71 = .ok (.aload_n 0, 1) := by decide +kernel
theorem dX4_addRow_72 : decode cX4_addRow 72 = .ok (.getfield 9, 3) := by decide +kernel
theorem dX4_addRow_75 : decode cX4_addRow 75 = .ok (.getfield 55, 3) := by decide +kernel
theorem dX4_addRow_78 : decode cX4_addRow 78 = .ok (.iload 5, 2) := by decide +kernel
theorem dX4_addRow_80 : decode cX4_addRow 80 = .ok (.iconst 1, 1) := by decide +kernel
theorem dX4_addRow_81 : decode cX4_addRow 81 = .ok (.isub, 1) := by decide +kernel
theorem dX4_addRow_82 : decode cX4_addRow 82 = .ok (.iaload, 1) := by decide +kernel
theorem dX4_addRow_83 : decode cX4_addRow 83 = .ok (.if_icmp .eq 19, 3) := by decide +kernel
theorem dX4_addRow_86 : decode cX4_addRow 86 = .ok (.aload_n 0, 1) := by decide +kernel
theorem dX4_addRow_87 : decode cX4_addRow 87 = .ok (.iload 4, 2) := by decide +kernel
theorem dX4_addRow_89 : decode cX4_addRow 89 = .ok (.iload_n 3, 1) := by decide +kernel
theorem dX4_addRow_90 : decode cX4_addRow 90 = .ok (.iload 5, 2) := by decide +kernel
theorem dX4_addRow_92 : decode cX4_addRow 92 = .ok (.invokevirtual 59, 3) := by decide +kernel
theorem dX4_addRow_95 : decode cX4_addRow 95 = .ok (.iload 5, 2) := by decide +kernel
theorem dX4_addRow_97 : decode cX4_addRow 97 = .ok (.istore_n 3, 1) := by decide +kernel
theorem dX4_addRow_98 : decode cX4_addRow 98 = .ok (.iload 6, 2) := by decide +kernel
theorem dX4_addRow_100 : decode cX4_addRow 100 = .ok (.istore 4, 2) := by decide +kernel
theorem dX4_addRow_102 : decode cX4_addRow 102 = .ok (.iinc 5 1, 3) := by decide +kernel
theorem dX4_addRow_105 : decode cX4_addRow 105 = .ok (.goto (-84), 3) := by decide +kernel
theorem dX4_addRow_108 : decode cX4_addRow 108 = .ok (.return_, 1) := by decide +kernel
theorem dX4_toldEnd_0 : decode cX4_toldEnd 0 = .ok (.iload_n 1, 1) := by decide +kernel
theorem dX4_toldEnd_1 : decode cX4_toldEnd 1 = .ok (.istore_n 2, 1) := by decide +kernel
theorem dX4_toldEnd_2 : decode cX4_toldEnd 2 = .ok (.iload_n 1, 1) := by decide +kernel
theorem dX4_toldEnd_3 : decode cX4_toldEnd 3 = .ok (.istore_n 3, 1) := by decide +kernel
theorem dX4_toldEnd_4 : decode cX4_toldEnd 4 = .ok (.iload_n 3, 1) := by decide +kernel
theorem dX4_toldEnd_5 : decode cX4_toldEnd 5 = .ok (.iload_n 1, 1) := by decide +kernel
theorem dX4_toldEnd_6 : decode cX4_toldEnd 6 = .ok (.aload_n 0, 1) := by decide +kernel
theorem dX4_toldEnd_7 : decode cX4_toldEnd 7 = .ok (.getfield 9, 3) := by decide +kernel
theorem dX4_toldEnd_10 : decode cX4_toldEnd 10 = .ok (.getfield 23, 3) := by decide +kernel
theorem dX4_toldEnd_13 : decode cX4_toldEnd 13 = .ok (.getfield 63, 3) := by decide +kernel
theorem dX4_toldEnd_16 : decode cX4_toldEnd 16 = .ok (.iadd, 1) := by decide +kernel
theorem dX4_toldEnd_17 : decode cX4_toldEnd 17 = .ok (.if_icmp .ge 29, 3) := by decide +kernel
theorem dX4_toldEnd_20 : decode cX4_toldEnd 20 = .ok (.aload_n 0, 1) := by decide +kernel
theorem dX4_toldEnd_21 : decode cX4_toldEnd 21 = .ok (.getfield 9, 3) := by decide +kernel
theorem dX4_toldEnd_24 : decode cX4_toldEnd 24 = .ok (.getfield 55, 3) := by decide +kernel
theorem dX4_toldEnd_27 : decode cX4_toldEnd 27 = .ok (.iload_n 3, 1) := by decide +kernel
theorem dX4_toldEnd_28 : decode cX4_toldEnd 28 = .ok (.iaload, 1) := by decide +kernel
theorem dX4_toldEnd_29 : decode cX4_toldEnd 29 = .ok (.aload_n 0, 1) := by decide +kernel
theorem dX4_toldEnd_30 : decode cX4_toldEnd 30 = .ok (.getfield 15, 3) := by decide +kernel
theorem dX4_toldEnd_33 : decode cX4_toldEnd 33 = .ok (.if_icmp .eq 7, 3) := by decide +kernel
theorem dX4_toldEnd_36 : decode cX4_toldEnd 36 = .ok (.iload_n 3, 1) := by decide +kernel
theorem dX4_toldEnd_37 : decode cX4_toldEnd 37 = .ok (.iconst 1, 1) := by decide +kernel
theorem dX4_toldEnd_38 : decode cX4_toldEnd 38 = .ok (.iadd, 1) := by decide +kernel
theorem dX4_toldEnd_39 : decode cX4_toldEnd 39 = .ok (.istore_n 2, 1) := by decide +kernel
theorem dX4_toldEnd_40 : decode cX4_toldEnd 40 = .ok (.iinc 3 1, 3) := by decide +kernel
theorem dX4_toldEnd_43 : decode cX4_toldEnd 43 = .ok (.goto (-39), 3) := by decide +kernel
theorem dX4_toldEnd_46 : decode cX4_toldEnd 46 = .ok (.iload_n 2, 1) := by decide +kernel
theorem dX4_toldEnd_47 : decode cX4_toldEnd 47 = .ok (.ireturn, 1) := by decide +kernel
set_option maxRecDepth 100000 in
theorem ggX4_kindAt_X4_isThree : GoodIn wsX4_kindAt wsX4_isThree := goodIn_r _ [8, 1, 9, 10, 2, 11, 12, 13, 14, 15, 16, 17, 18, 19, 20, 21, 22] rfl (by decide +kernel)
set_option maxRecDepth 20000 in
theorem gX4_kindAt_X4_isThree : GoodIn wsX4_kindAt (wsV RX4 66 RX4 yX4_isThree wsX4_isThree) := goodIn_app (goodIn_of _ (by decide +kernel)) ggX4_kindAt_X4_isThree
theorem dX4_kindAt_0 : decode cX4_kindAt 0 = .ok (.aload_n 0, 1) := by decide +kernel
theorem dX4_kindAt_1 : decode cX4_kindAt 1 = .ok (.getfield 9, 3) := by decide +kernel
theorem dX4_kindAt_4 : decode cX4_kindAt 4 = .ok (.getfield 55, 3) := by decide +kernel
theorem dX4_kindAt_7 : decode cX4_kindAt 7 = .ok (.iload_n 2, 1) := by decide +kernel
theorem dX4_kindAt_8 : decode cX4_kindAt 8 = .ok (.iaload, 1) := by decide +kernel
theorem dX4_kindAt_9 : decode cX4_kindAt 9 = .ok (.aload_n 0, 1) := by decide +kernel
theorem dX4_kindAt_10 : decode cX4_kindAt 10 = .ok (.getfield 15, 3) := by decide +kernel
theorem dX4_kindAt_13 : decode cX4_kindAt 13 = .ok (.if_icmp .ne 5, 3) := by decide +kernel
theorem dX4_kindAt_16 : decode cX4_kindAt 16 = .ok (.iconst 0, 1) := by decide +kernel
theorem dX4_kindAt_17 : decode cX4_kindAt 17 = .ok (.ireturn, 1) := by decide +kernel
theorem dX4_kindAt_18 : decode cX4_kindAt 18 = .ok (.aload_n 0, 1) := by decide +kernel
theorem dX4_kindAt_19 : decode cX4_kindAt 19 = .ok (.iload_n 1, 1) := by decide +kernel
theorem dX4_kindAt_20 : decode cX4_kindAt 20 = .ok (.iload_n 2, 1) := by decide +kernel
theorem dX4_kindAt_21 : decode cX4_kindAt 21 = .ok (.iconst 2, 1) := by decide +kernel
theorem dX4_kindAt_22 : decode cX4_kindAt 22 = .ok (.isub, 1) := by decide +kernel
theorem dX4_kindAt_23 : decode cX4_kindAt 23 = .ok (.invokevirtual 66, 3) := by decide +kernel
theorem dX4_kindAt_26 : decode cX4_kindAt 26 = .ok (.ifCond .ne 23, 3) := by decide +kernel
theorem dX4_kindAt_29 : decode cX4_kindAt 29 = .ok (.aload_n 0, 1) := by decide +kernel
theorem dX4_kindAt_30 : decode cX4_kindAt 30 = .ok (.iload_n 1, 1) := by decide +kernel
theorem dX4_kindAt_31 : decode cX4_kindAt 31 = .ok (.iload_n 2, 1) := by decide +kernel
theorem dX4_kindAt_32 : decode cX4_kindAt 32 = .ok (.iconst 1, 1) := by decide +kernel
theorem dX4_kindAt_33 : decode cX4_kindAt 33 = .ok (.isub, 1) := by decide +kernel
theorem dX4_kindAt_34 : decode cX4_kindAt 34 = .ok (.invokevirtual 66, 3) := by decide +kernel
theorem dX4_kindAt_37 : decode cX4_kindAt 37 = .ok (.ifCond .ne 12, 3) := by decide +kernel
theorem dX4_kindAt_40 : decode cX4_kindAt 40 = .ok (.aload_n 0, 1) := by decide +kernel
theorem dX4_kindAt_41 : decode cX4_kindAt 41 = .ok (.iload_n 1, 1) := by decide +kernel
theorem dX4_kindAt_42 : decode cX4_kindAt 42 = .ok (.iload_n 2, 1) := by decide +kernel
theorem dX4_kindAt_43 : decode cX4_kindAt 43 = .ok (.invokevirtual 66, 3) := by decide +kernel
theorem dX4_kindAt_46 : decode cX4_kindAt 46 = .ok (.ifCond .eq 7, 3) := by decide +kernel
theorem dX4_kindAt_49 : decode cX4_kindAt 49 = .ok (.iconst 1, 1) := by decide +kernel
theorem dX4_kindAt_50 : decode cX4_kindAt 50 = .ok (.goto 4, 3) := by decide +kernel
theorem dX4_kindAt_53 : decode cX4_kindAt 53 = .ok (.iconst 0, 1) := by decide +kernel
theorem dX4_kindAt_54 : decode cX4_kindAt 54 = .ok (.istore_n 3, 1) := by decide +kernel
theorem dX4_kindAt_55 : decode cX4_kindAt 55 = .ok (.iload_n 3, 1) := by decide +kernel
theorem dX4_kindAt_56 : decode cX4_kindAt 56 = .ok (.ifCond .eq 9, 3) := by decide +kernel
theorem dX4_kindAt_59 : decode cX4_kindAt 59 = .ok (.sipush 128, 3) := by decide +kernel
theorem dX4_kindAt_62 : decode cX4_kindAt 62 = .ok (.goto 5, 3) := by decide +kernel
theorem dX4_kindAt_65 : decode cX4_kindAt 65 = .ok (.bipush 64, 2) := by decide +kernel
theorem dX4_kindAt_67 : decode cX4_kindAt 67 = .ok (.ireturn, 1) := by decide +kernel
theorem dX4_isThree_0 : decode cX4_isThree 0 = .ok (.iload_n 2, 1) := by decide +kernel
theorem dX4_isThree_1 : decode cX4_isThree 1 = .ok (.iload_n 1, 1) := by decide +kernel
theorem dX4_isThree_2 : decode cX4_isThree 2 = .ok (.if_icmp .lt 21, 3) := by decide +kernel
theorem dX4_isThree_5 : decode cX4_isThree 5 = .ok (.iload_n 2, 1) := by decide +kernel
theorem dX4_isThree_6 : decode cX4_isThree 6 = .ok (.iconst 2, 1) := by decide +kernel
theorem dX4_isThree_7 : decode cX4_isThree 7 = .ok (.iadd, 1) := by decide +kernel
theorem dX4_isThree_8 : decode cX4_isThree 8 = .ok (.iload_n 1, 1) := by decide +kernel
theorem dX4_isThree_9 : decode cX4_isThree 9 = .ok (.aload_n 0, 1) := by decide +kernel
theorem dX4_isThree_10 : decode cX4_isThree 10 = .ok (.getfield 9, 3) := by decide +kernel
theorem dX4_isThree_13 : decode cX4_isThree 13 = .ok (.getfield 23, 3) := by decide +kernel
theorem dX4_isThree_16 : decode cX4_isThree 16 = .ok (.getfield 63, 3) := by decide +kernel
theorem dX4_isThree_19 : decode cX4_isThree 19 = .ok (.iadd, 1) := by decide +kernel
theorem dX4_isThree_20 : decode cX4_isThree 20 = .ok (.if_icmp .lt 5, 3) := by decide +kernel
theorem dX4_isThree_23 : decode cX4_isThree 23 = .ok (.iconst 0, 1) := by decide +kernel
theorem dX4_isThree_24 : decode cX4_isThree 24 = .ok (.ireturn, 1) := by decide +kernel
theorem dX4_isThree_25 : decode cX4_isThree 25 = .ok (.aload_n 0, 1) := by decide +kernel
theorem dX4_isThree_26 : decode cX4_isThree 26 = .ok (.getfield 9, 3) := by decide +kernel
theorem dX4_isThree_29 : decode cX4_isThree 29 = .ok (.getfield 55, 3) := by decide +kernel
theorem dX4_isThree_32 : decode cX4_isThree 32 = .ok (.iload_n 2, 1) := by decide +kernel
theorem dX4_isThree_33 : decode cX4_isThree 33 = .ok (.iaload, 1) := by decide +kernel
theorem dX4_isThree_34 : decode cX4_isThree 34 = .ok (.aload_n 0, 1) := by decide +kernel
theorem dX4_isThree_35 : decode cX4_isThree 35 = .ok (.getfield 9, 3) := by decide +kernel
theorem dX4_isThree_38 : decode cX4_isThree 38 = .ok (.getfield 55, 3) := by decide +kernel
theorem dX4_isThree_41 : decode cX4_isThree 41 = .ok (.iload_n 2, 1) := by decide +kernel
theorem dX4_isThree_42 : decode cX4_isThree 42 = .ok (.iconst 1, 1) := by decide +kernel
theorem dX4_isThree_43 : decode cX4_isThree 43 = .ok (.iadd, 1) := by decide +kernel
theorem dX4_isThree_44 : decode cX4_isThree 44 = .ok (.iaload, 1) := by decide +kernel
theorem dX4_isThree_45 : decode cX4_isThree 45 = .ok (.if_icmp .ne 30, 3) := by decide +kernel
theorem dX4_isThree_48 : decode cX4_isThree 48 = .ok (.aload_n 0, 1) := by decide +kernel
theorem dX4_isThree_49 : decode cX4_isThree 49 = .ok (.getfield 9, 3) := by decide +kernel
theorem dX4_isThree_52 : decode cX4_isThree 52 = .ok (.getfield 55, 3) := by decide +kernel
theorem dX4_isThree_55 : decode cX4_isThree 55 = .ok (.iload_n 2, 1) := by decide +kernel
theorem dX4_isThree_56 : decode cX4_isThree 56 = .ok (.iaload, 1) := by decide +kernel
theorem dX4_isThree_57 : decode cX4_isThree 57 = .ok (.aload_n 0, 1) := by decide +kernel
theorem dX4_isThree_58 : decode cX4_isThree 58 = .ok (.getfield 9, 3) := by decide +kernel
theorem dX4_isThree_61 : decode cX4_isThree 61 = .ok (.getfield 55, 3) := by decide +kernel
theorem dX4_isThree_64 : decode cX4_isThree 64 = .ok (.iload_n 2, 1) := by decide +kernel
theorem dX4_isThree_65 : decode cX4_isThree 65 = .ok (.iconst 2, 1) := by decide +kernel
theorem dX4_isThree_66 : decode cX4_isThree 66 = .ok (.iadd, 1) := by decide +kernel
theorem dX4_isThree_67 : decode cX4_isThree 67 = .ok (.iaload, 1) := by decide +kernel
theorem dX4_isThree_68 : decode cX4_isThree 68 = .ok (.if_icmp .ne 7, 3) := by decide +kernel
theorem dX4_isThree_71 : decode cX4_isThree 71 = .ok (.iconst 1, 1) := by decide +kernel
theorem dX4_isThree_72 : decode cX4_isThree 72 = .ok (.goto 4, 3) := by decide +kernel
theorem dX4_isThree_75 : decode cX4_isThree 75 = .ok (.iconst 0, 1) := by decide +kernel
theorem dX4_isThree_76 : decode cX4_isThree 76 = .ok (.ireturn, 1) := by decide +kernel
set_option maxRecDepth 100000 in
theorem ggX4_addStretch_X2_append : GoodIn wsX4_addStretch wsX2_append := goodIn_r _ [12, 13, 14, 15, 24, 25, 26] rfl (by decide +kernel)
set_option maxRecDepth 20000 in
theorem gX4_addStretch_X2_append : GoodIn wsX4_addStretch (wsV RX4 42 RX2 yX2_append wsX2_append) := goodIn_app (goodIn_of _ (by decide +kernel)) ggX4_addStretch_X2_append
theorem dX4_addStretch_0 : decode cX4_addStretch 0 = .ok (.iload_n 2, 1) := by decide +kernel
theorem dX4_addStretch_1 : decode cX4_addStretch 1 = .ok (.istore 4, 2) := by decide +kernel
theorem dX4_addStretch_3 : decode cX4_addStretch 3 = .ok (.iload 4, 2) := by decide +kernel
theorem dX4_addStretch_5 : decode cX4_addStretch 5 = .ok (.iload_n 3, 1) := by decide +kernel
theorem dX4_addStretch_6 : decode cX4_addStretch 6 = .ok (.if_icmp .ge 85, 3) := by decide +kernel
theorem dX4_addStretch_9 : decode cX4_addStretch 9 = .ok (.bipush 63, 2) := by decide +kernel
theorem dX4_addStretch_11 : decode cX4_addStretch 11 = .ok (.iload_n 3, 1) := by decide +kernel
theorem dX4_addStretch_12 : decode cX4_addStretch 12 = .ok (.iload 4, 2) := by decide +kernel
theorem dX4_addStretch_14 : decode cX4_addStretch 14 = .ok (.isub, 1) := by decide +kernel
theorem dX4_addStretch_15 : decode cX4_addStretch 15 = .ok (.invokestatic 70, 3) := by decide +kernel
theorem dX4_addStretch_18 : decode cX4_addStretch 18 = .ok (.istore 5, 2) := by decide +kernel
theorem dX4_addStretch_20 : decode cX4_addStretch 20 = .ok (.aload_n 0, 1) := by decide +kernel
theorem dX4_addStretch_21 : decode cX4_addStretch 21 = .ok (.getfield 19, 3) := by decide +kernel
theorem dX4_addStretch_24 : decode cX4_addStretch 24 = .ok (.iload_n 1, 1) := by decide +kernel
theorem dX4_addStretch_25 : decode cX4_addStretch 25 = .ok (.iload 5, 2) := by decide +kernel
theorem dX4_addStretch_27 : decode cX4_addStretch 27 = .ok (.iadd, 1) := by decide +kernel
theorem dX4_addStretch_28 : decode cX4_addStretch 28 = .ok (.invokevirtual 42, 3) := by decide +kernel
theorem dX4_addStretch_31 : decode cX4_addStretch 31 = .ok (.iload_n 1, 1) := by decide +kernel
theorem dX4_addStretch_32 : decode cX4_addStretch 32 = .ok (.bipush 64, 2) := by decide +kernel
theorem dX4_addStretch_34 : decode cX4_addStretch 34 = .ok (.if_icmp .ne 8, 3) := by decide +kernel
theorem dX4_addStretch_37 : decode cX4_addStretch 37 = .ok (.iload 5, 2) := by decide +kernel
theorem dX4_addStretch_39 : decode cX4_addStretch 39 = .ok (.goto 8, 3) := by decide +kernel
theorem dX4_addStretch_42 : decode cX4_addStretch 42 = .ok (.iload_n 1, 1) := by decide +kernel
theorem dX4_addStretch_43 : decode cX4_addStretch 43 = .ok (.iconst 1, 1) := by decide +kernel
theorem dX4_addStretch_44 : decode cX4_addStretch 44 = .ok (.invokestatic 70, 3) := by decide +kernel
theorem dX4_addStretch_47 : decode cX4_addStretch 47 = .ok (.istore 6, 2) := by decide +kernel
theorem dX4_addStretch_49 : decode cX4_addStretch 49 = .ok (.iconst 0, 1) := by decide +kernel
theorem dX4_addStretch_50 : decode cX4_addStretch 50 = .ok (.istore 7, 2) := by decide +kernel
theorem dX4_addStretch_52 : decode cX4_addStretch 52 = .ok (.iload 7, 2) := by decide +kernel
theorem dX4_addStretch_54 : decode cX4_addStretch 54 = .ok (.iload 6, 2) := by decide +kernel
theorem dX4_addStretch_56 : decode cX4_addStretch 56 = .ok (.if_icmp .ge 29, 3) := by decide +kernel
theorem dX4_addStretch_59 : decode cX4_addStretch 59 = .ok (.aload_n 0, 1) := by decide +kernel
theorem dX4_addStretch_60 : decode cX4_addStretch 60 = .ok (.getfield 19, 3) := by decide +kernel
theorem dX4_addStretch_63 : decode cX4_addStretch 63 = .ok (.aload_n 0, 1) := by decide +kernel
theorem dX4_addStretch_64 : decode cX4_addStretch 64 = .ok (.getfield 9, 3) := by decide +kernel
theorem dX4_addStretch_67 : decode cX4_addStretch 67 = .ok (.getfield 55, 3) := by decide +kernel
theorem dX4_addStretch_70 : decode cX4_addStretch 70 = .ok (.iload 4, 2) := by decide +kernel
theorem dX4_addStretch_72 : decode cX4_addStretch 72 = .ok (.iload 7, 2) := by decide +kernel
theorem dX4_addStretch_74 : decode cX4_addStretch 74 = .ok (.iadd, 1) := by decide +kernel
theorem dX4_addStretch_75 : decode cX4_addStretch 75 = .ok (.iaload, 1) := by decide +kernel
theorem dX4_addStretch_76 : decode cX4_addStretch 76 = .ok (.invokevirtual 42, 3) := by decide +kernel
theorem dX4_addStretch_79 : decode cX4_addStretch 79 = .ok (.iinc 7 1, 3) := by decide +kernel
theorem dX4_addStretch_82 : decode cX4_addStretch 82 = .ok (.goto (-30), 3) := by decide +kernel
theorem dX4_addStretch_85 : decode cX4_addStretch 85 = .ok (.iinc 4 63, 3) := by decide +kernel
theorem dX4_addStretch_88 : decode cX4_addStretch 88 = .ok (.goto (-85), 3) := by decide +kernel
theorem dX4_addStretch_91 : decode cX4_addStretch 91 = .ok (.return_, 1) := by decide +kernel
set_option maxRecDepth 100000 in
theorem ggX5_init_X2_init : GoodIn wsX5_init wsX2_init := goodIn_r _ [16, 17, 2, 3, 12, 18, 19, 20, 26, 27, 28] rfl (by decide +kernel)
set_option maxRecDepth 20000 in
theorem gX5_init_X2_init : GoodIn wsX5_init (wsX2_init) := ggX5_init_X2_init
theorem dX5_init_0 : decode cX5_init 0 = .ok (.aload_n 0, 1) := by decide +kernel
theorem dX5_init_1 : decode cX5_init 1 = .ok (.invokespecial 1, 3) := by decide +kernel
theorem dX5_init_4 : decode cX5_init 4 = .ok (.aload_n 0, 1) := by decide +kernel
theorem dX5_init_5 : decode cX5_init 5 = .ok (.bipush 8, 2) := by decide +kernel
theorem dX5_init_7 : decode cX5_init 7 = .ok (.anewarray 9, 3) := by decide +kernel
theorem dX5_init_10 : decode cX5_init 10 = .ok (.putfield 11, 3) := by decide +kernel
theorem dX5_init_13 : decode cX5_init 13 = .ok (.aload_n 0, 1) := by decide +kernel
theorem dX5_init_14 : decode cX5_init 14 = .ok (.iconst 0, 1) := by decide +kernel
theorem dX5_init_15 : decode cX5_init 15 = .ok (.putfield 15, 3) := by decide +kernel
theorem dX5_init_18 : decode cX5_init 18 = .ok (.aload_n 0, 1) := by decide +kernel
theorem dX5_init_19 : decode cX5_init 19 = .ok (.iconst 4, 1) := by decide +kernel
theorem dX5_init_20 : decode cX5_init 20 = .ok (.anewarray 19, 3) := by decide +kernel
theorem dX5_init_23 : decode cX5_init 23 = .ok (.putfield 21, 3) := by decide +kernel
theorem dX5_init_26 : decode cX5_init 26 = .ok (.iconst 0, 1) := by decide +kernel
theorem dX5_init_27 : decode cX5_init 27 = .ok (.istore_n 1, 1) := by decide +kernel
theorem dX5_init_28 : decode cX5_init 28 = .ok (.iload_n 1, 1) := by decide +kernel
theorem dX5_init_29 : decode cX5_init 29 = .ok (.iconst 4, 1) := by decide +kernel
theorem dX5_init_30 : decode cX5_init 30 = .ok (.if_icmp .ge 22, 3) := by decide +kernel
theorem dX5_init_33 : decode cX5_init 33 = .ok (.aload_n 0, 1) := by decide +kernel
theorem dX5_init_34 : decode cX5_init 34 = .ok (.getfield 21, 3) := by decide +kernel
theorem dX5_init_37 : decode cX5_init 37 = .ok (.iload_n 1, 1) := by decide +kernel
theorem dX5_init_38 : decode cX5_init 38 = .ok (.new 19, 3) := by decide +kernel
theorem dX5_init_41 : decode cX5_init 41 = .ok (.dup, 1) := by decide +kernel
theorem dX5_init_42 : decode cX5_init 42 = .ok (.invokespecial 25, 3) := by decide +kernel
theorem dX5_init_45 : decode cX5_init 45 = .ok (.aastore, 1) := by decide +kernel
theorem dX5_init_46 : decode cX5_init 46 = .ok (.iinc 1 1, 3) := by decide +kernel
theorem dX5_init_49 : decode cX5_init 49 = .ok (.goto (-21), 3) := by decide +kernel
theorem dX5_init_52 : decode cX5_init 52 = .ok (.aload_n 0, 1) := by decide +kernel
theorem dX5_init_53 : decode cX5_init 53 = .ok (.new 19, 3) := by decide +kernel
theorem dX5_init_56 : decode cX5_init 56 = .ok (.dup, 1) := by decide +kernel
theorem dX5_init_57 : decode cX5_init 57 = .ok (.invokespecial 25, 3) := by decide +kernel
theorem dX5_init_60 : decode cX5_init 60 = .ok (.putfield 26, 3) := by decide +kernel
theorem dX5_init_63 : decode cX5_init 63 = .ok (.aload_n 0, 1) := by decide +kernel
theorem dX5_init_64 : decode cX5_init 64 = .ok (.sipush 4096, 3) := by decide +kernel
theorem dX5_init_67 : decode cX5_init 67 = .ok (.newarray .int, 2) := by decide +kernel
theorem dX5_init_69 : decode cX5_init 69 = .ok (.putfield 30, 3) := by decide +kernel
theorem dX5_init_72 : decode cX5_init 72 = .ok (.return_, 1) := by decide +kernel
set_option maxRecDepth 100000 in
theorem ggX5_make_X5_isSide : GoodIn wsX5_make wsX5_isSide := goodIn_r _ [9] rfl (by decide +kernel)
