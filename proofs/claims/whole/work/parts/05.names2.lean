set_option maxRecDepth 20000 in
theorem gX5_make_X5_isSide : GoodIn wsX5_make (va_wsS RX5 34 yX5_isSide wsX5_isSide) := goodIn_app (goodIn_of _ (by decide +kernel)) ggX5_make_X5_isSide
set_option maxRecDepth 100000 in
theorem ggX5_make_X3_init : GoodIn wsX5_make wsX3_init := goodIn_r _ [12, 13, 14, 15, 16, 17, 18, 19, 20, 21, 22, 23, 24, 25, 26, 27, 28, 29, 30, 31, 32, 38, 39, 40, 41, 42, 43, 44, 45, 46] rfl (by decide +kernel)
set_option maxRecDepth 20000 in
theorem gX5_make_X3_init : GoodIn wsX5_make (wsX3_init) := ggX5_make_X3_init
theorem dX5_make_0 : decode cX5_make 0 = .ok (.iload_n 1, 1) := by decide +kernel
theorem dX5_make_1 : decode cX5_make 1 = .ok (.iconst 1, 1) := by decide +kernel
theorem dX5_make_2 : decode cX5_make 2 = .ok (.if_icmp .eq 14, 3) := by decide +kernel
theorem dX5_make_5 : decode cX5_make 5 = .ok (.iload_n 1, 1) := by decide +kernel
theorem dX5_make_6 : decode cX5_make 6 = .ok (.iconst 4, 1) := by decide +kernel
theorem dX5_make_7 : decode cX5_make 7 = .ok (.if_icmp .eq 9, 3) := by decide +kernel
theorem dX5_make_10 : decode cX5_make 10 = .ok (.iload_n 1, 1) := by decide +kernel
theorem dX5_make_11 : decode cX5_make 11 = .ok (.bipush 8, 2) := by decide +kernel
theorem dX5_make_13 : decode cX5_make 13 = .ok (.if_icmp .ne 7, 3) := by decide +kernel
theorem dX5_make_16 : decode cX5_make 16 = .ok (.iconst 1, 1) := by decide +kernel
theorem dX5_make_17 : decode cX5_make 17 = .ok (.goto 4, 3) := by decide +kernel
theorem dX5_make_20 : decode cX5_make 20 = .ok (.iconst 0, 1) := by decide +kernel
theorem dX5_make_21 : decode cX5_make 21 = .ok (.istore 4, 2) := by decide +kernel
theorem dX5_make_23 : decode cX5_make 23 = .ok (.iload_n 2, 1) := by decide +kernel
theorem dX5_make_24 : decode cX5_make 24 = .ok (.ifCond .le 25, 3) := by decide +kernel
theorem dX5_make_27 : decode cX5_make 27 = .ok (.iload_n 3, 1) := by decide +kernel
theorem dX5_make_28 : decode cX5_make 28 = .ok (.ifCond .le 21, 3) := by decide +kernel
theorem dX5_make_31 : decode cX5_make 31 = .ok (.iload_n 2, 1) := by decide +kernel
theorem dX5_make_32 : decode cX5_make 32 = .ok (.invokestatic 34, 3) := by decide +kernel
theorem dX5_make_35 : decode cX5_make 35 = .ok (.ifCond .eq 14, 3) := by decide +kernel
theorem dX5_make_38 : decode cX5_make 38 = .ok (.iload_n 3, 1) := by decide +kernel
theorem dX5_make_39 : decode cX5_make 39 = .ok (.invokestatic 34, 3) := by decide +kernel
theorem dX5_make_42 : decode cX5_make 42 = .ok (.ifCond .eq 7, 3) := by decide +kernel
theorem dX5_make_45 : decode cX5_make 45 = .ok (.iconst 1, 1) := by decide +kernel
theorem dX5_make_46 : decode cX5_make 46 = .ok (.goto 4, 3) := by decide +kernel
theorem dX5_make_49 : decode cX5_make 49 = .ok (.iconst 0, 1) := by decide +kernel
theorem dX5_make_50 : decode cX5_make 50 = .ok (.istore 5, 2) := by decide +kernel
theorem dX5_make_52 : decode cX5_make 52 = .ok (.iload 4, 2) := by decide +kernel
theorem dX5_make_54 : decode cX5_make 54 = .ok (.ifCond .eq 17, 3) := by decide +kernel
theorem dX5_make_57 : decode cX5_make 57 = .ok (.iload 5, 2) := by decide +kernel
theorem dX5_make_59 : decode cX5_make 59 = .ok (.ifCond .eq 12, 3) := by decide +kernel
theorem dX5_make_62 : decode cX5_make 62 = .ok (.aload_n 0, 1) := by decide +kernel
theorem dX5_make_63 : decode cX5_make 63 = .ok (.getfield 15, 3) := by decide +kernel
theorem dX5_make_66 : decode cX5_make 66 = .ok (.bipush 8, 2) := by decide +kernel
theorem dX5_make_68 : decode cX5_make 68 = .ok (.if_icmp .lt 5, 3) := by decide +kernel
theorem dX5_make_71 : decode cX5_make 71 = .ok (.iconst (-1), 1) := by decide +kernel
theorem dX5_make_72 : decode cX5_make 72 = .ok (.ireturn, 1) := by decide +kernel
theorem dX5_make_73 : decode cX5_make 73 = .ok (.aload_n 0, 1) := by decide +kernel
theorem dX5_make_74 : decode cX5_make 74 = .ok (.getfield 11, 3) := by decide +kernel
theorem dX5_make_77 : decode cX5_make 77 = .ok (.aload_n 0, 1) := by decide +kernel
theorem dX5_make_78 : decode cX5_make 78 = .ok (.getfield 15, 3) := by decide +kernel
theorem dX5_make_81 : decode cX5_make 81 = .ok (.new 9, 3) := by decide +kernel
theorem dX5_make_84 : decode cX5_make 84 = .ok (.dup, 1) := by decide +kernel
theorem dX5_make_85 : decode cX5_make 85 = .ok (.iload_n 1, 1) := by decide +kernel
theorem dX5_make_86 : decode cX5_make 86 = .ok (.iload_n 2, 1) := by decide +kernel
theorem dX5_make_87 : decode cX5_make 87 = .ok (.iload_n 3, 1) := by decide +kernel
theorem dX5_make_88 : decode cX5_make 88 = .ok (.invokespecial 38, 3) := by decide +kernel
theorem dX5_make_91 : decode cX5_make 91 = .ok (.aastore, 1) := by decide +kernel
theorem dX5_make_92 : decode cX5_make 92 = .ok (.aload_n 0, 1) := by decide +kernel
theorem dX5_make_93 : decode cX5_make 93 = .ok (.dup, 1) := by decide +kernel
theorem dX5_make_94 : decode cX5_make 94 = .ok (.getfield 15, 3) := by decide +kernel
theorem dX5_make_97 : decode cX5_make 97 = .ok (.iconst 1, 1) := by decide +kernel
theorem dX5_make_98 : decode cX5_make 98 = .ok (.iadd, 1) := by decide +kernel
theorem dX5_make_99 : decode cX5_make 99 = .ok (.putfield 15, 3) := by decide +kernel
theorem dX5_make_102 : decode cX5_make 102 = .ok (.aload_n 0, 1) := by decide +kernel
theorem dX5_make_103 : decode cX5_make 103 = .ok (.getfield 15, 3) := by decide +kernel
theorem dX5_make_106 : decode cX5_make 106 = .ok (.iconst 1, 1) := by decide +kernel
theorem dX5_make_107 : decode cX5_make 107 = .ok (.isub, 1) := by decide +kernel
theorem dX5_make_108 : decode cX5_make 108 = .ok (.ireturn, 1) := by decide +kernel
set_option maxRecDepth 100000 in
theorem ggX5_clip_X5_surfaceAt : GoodIn wsX5_clip wsX5_surfaceAt := goodIn_r _ [10, 11, 12, 52, 53, 54, 55, 56] rfl (by decide +kernel)
set_option maxRecDepth 20000 in
theorem gX5_clip_X5_surfaceAt : GoodIn wsX5_clip (wsV RX5 41 RX5 yX5_surfaceAt wsX5_surfaceAt) := goodIn_app (goodIn_of _ (by decide +kernel)) ggX5_clip_X5_surfaceAt
set_option maxRecDepth 100000 in
theorem ggX5_clip_X5_isSide : GoodIn wsX5_clip wsX5_isSide := goodIn_r _ [15] rfl (by decide +kernel)
set_option maxRecDepth 20000 in
theorem gX5_clip_X5_isSide : GoodIn wsX5_clip (va_wsS RX5 34 yX5_isSide wsX5_isSide) := goodIn_app (goodIn_of _ (by decide +kernel)) ggX5_clip_X5_isSide
set_option maxRecDepth 100000 in
theorem ggX5_clip_X0_init : GoodIn wsX5_clip wsX0_init := goodIn_r _ [18, 19, 20, 21, 22, 23, 24, 25, 48, 49, 50, 51] rfl (by decide +kernel)
set_option maxRecDepth 20000 in
theorem gX5_clip_X0_init : GoodIn wsX5_clip (wsX0_init) := ggX5_clip_X0_init
set_option maxRecDepth 100000 in
theorem ggX5_clip_X0_shared : GoodIn wsX5_clip wsX0_shared := goodIn_r _ [29, 22, 30, 31, 32, 33, 23, 24, 34, 35, 36, 25, 37, 3, 4, 38, 17, 18, 19, 20, 21, 48, 49, 50, 51] rfl (by decide +kernel)
set_option maxRecDepth 20000 in
theorem gX5_clip_X0_shared : GoodIn wsX5_clip (wsV RX5 54 RX0 yX0_shared wsX0_shared) := goodIn_app (goodIn_of _ (by decide +kernel)) ggX5_clip_X0_shared
set_option maxRecDepth 100000 in
theorem ggX5_clip_X0_size : GoodIn wsX5_clip wsX0_size := goodIn_r _ [42, 24, 25, 48, 49, 50, 51] rfl (by decide +kernel)
set_option maxRecDepth 20000 in
theorem gX5_clip_X0_size : GoodIn wsX5_clip (wsV RX5 61 RX0 yX0_size wsX0_size) := goodIn_app (goodIn_of _ (by decide +kernel)) ggX5_clip_X0_size
theorem dX5_clip_0 : decode cX5_clip 0 = .ok (.aload_n 0, 1) := by decide +kernel
theorem dX5_clip_1 : decode cX5_clip 1 = .ok (.iload_n 1, 1) := by decide +kernel
theorem dX5_clip_2 : decode cX5_clip 2 = .ok (.invokevirtual 41, 3) := by decide +kernel
theorem dX5_clip_5 : decode cX5_clip 5 = .ok (.astore 6, 2) := by decide +kernel
theorem dX5_clip_7 : decode cX5_clip 7 = .ok (.aload 6, 2) := by decide +kernel
theorem dX5_clip_9 : decode cX5_clip 9 = .ok (.ifnull 19, 3) := by decide +kernel
theorem dX5_clip_12 : decode cX5_clip 12 = .ok (.iload 4, 2) := by decide +kernel
theorem dX5_clip_14 : decode cX5_clip 14 = .ok (.invokestatic 34, 3) := by decide +kernel
theorem dX5_clip_17 : decode cX5_clip 17 = .ok (.ifCond .eq 11, 3) := by decide +kernel
theorem dX5_clip_20 : decode cX5_clip 20 = .ok (.iload 5, 2) := by decide +kernel
theorem dX5_clip_22 : decode cX5_clip 22 = .ok (.invokestatic 34, 3) := by decide +kernel
theorem dX5_clip_25 : decode cX5_clip 25 = .ok (.ifCond .ne 5, 3) := by decide +kernel
theorem dX5_clip_28 : decode cX5_clip 28 = .ok (.iconst (-1), 1) := by decide +kernel
theorem dX5_clip_29 : decode cX5_clip 29 = .ok (.ireturn, 1) := by decide +kernel
theorem dX5_clip_30 : decode cX5_clip 30 = .ok (.aload 6, 2) := by decide +kernel
theorem dX5_clip_32 : decode cX5_clip 32 = .ok (.aload 6, 2) := by decide +kernel
theorem dX5_clip_34 : decode cX5_clip 34 = .ok (.getfield 45, 3) := by decide +kernel
theorem dX5_clip_37 : decode cX5_clip 37 = .ok (.new 49, 3) := by decide +kernel
theorem dX5_clip_40 : decode cX5_clip 40 = .ok (.dup, 1) := by decide +kernel
theorem dX5_clip_41 : decode cX5_clip 41 = .ok (.iload_n 2, 1) := by decide +kernel
theorem dX5_clip_42 : decode cX5_clip 42 = .ok (.i2l, 1) := by decide +kernel
theorem dX5_clip_43 : decode cX5_clip 43 = .ok (.iload_n 3, 1) := by decide +kernel
theorem dX5_clip_44 : decode cX5_clip 44 = .ok (.i2l, 1) := by decide +kernel
theorem dX5_clip_45 : decode cX5_clip 45 = .ok (.iload 4, 2) := by decide +kernel
theorem dX5_clip_47 : decode cX5_clip 47 = .ok (.iload 5, 2) := by decide +kernel
theorem dX5_clip_49 : decode cX5_clip 49 = .ok (.invokespecial 51, 3) := by decide +kernel
theorem dX5_clip_52 : decode cX5_clip 52 = .ok (.invokevirtual 54, 3) := by decide +kernel
theorem dX5_clip_55 : decode cX5_clip 55 = .ok (.putfield 58, 3) := by decide +kernel
theorem dX5_clip_58 : decode cX5_clip 58 = .ok (.aload 6, 2) := by decide +kernel
theorem dX5_clip_60 : decode cX5_clip 60 = .ok (.getfield 58, 3) := by decide +kernel
theorem dX5_clip_63 : decode cX5_clip 63 = .ok (.invokevirtual 61, 3) := by decide +kernel
theorem dX5_clip_66 : decode cX5_clip 66 = .ok (.ireturn, 1) := by decide +kernel
set_option maxRecDepth 100000 in
theorem ggX5_set_X5_surfaceAt : GoodIn wsX5_set wsX5_surfaceAt := goodIn_r _ [7, 8, 9, 36, 37, 38, 39, 40] rfl (by decide +kernel)
set_option maxRecDepth 20000 in
theorem gX5_set_X5_surfaceAt : GoodIn wsX5_set (wsV RX5 41 RX5 yX5_surfaceAt wsX5_surfaceAt) := goodIn_app (goodIn_of _ (by decide +kernel)) ggX5_set_X5_surfaceAt
set_option maxRecDepth 100000 in
theorem ggX5_set_X0_holds : GoodIn wsX5_set wsX0_holds := goodIn_r _ [14, 15, 16, 17, 18, 41, 42, 43, 44] rfl (by decide +kernel)
set_option maxRecDepth 20000 in
theorem gX5_set_X0_holds : GoodIn wsX5_set (wsV RX5 65 RX0 yX0_holds wsX0_holds) := goodIn_app (goodIn_of _ (by decide +kernel)) ggX5_set_X0_holds
set_option maxRecDepth 100000 in
theorem ggX5_set_X3_fits : GoodIn wsX5_set wsX3_fits := goodIn_r _ [23, 24, 31, 32, 33, 34, 35] rfl (by decide +kernel)
set_option maxRecDepth 20000 in
theorem gX5_set_X3_fits : GoodIn wsX5_set (wsV RX5 69 RX3 yX3_fits wsX3_fits) := goodIn_app (goodIn_of _ (by decide +kernel)) ggX5_set_X3_fits
set_option maxRecDepth 100000 in
theorem ggX5_set_X3_indexOf : GoodIn wsX5_set wsX3_indexOf := goodIn_r _ [28, 29, 30, 31, 32, 33, 34, 35, 41, 42, 43, 44] rfl (by decide +kernel)
set_option maxRecDepth 20000 in
theorem gX5_set_X3_indexOf : GoodIn wsX5_set (wsV RX5 75 RX3 yX3_indexOf wsX3_indexOf) := goodIn_app (goodIn_of _ (by decide +kernel)) ggX5_set_X3_indexOf
theorem dX5_set_0 : decode cX5_set 0 = .ok (.aload_n 0, 1) := by decide +kernel
theorem dX5_set_1 : decode cX5_set 1 = .ok (.iload_n 1, 1) := by decide +kernel
theorem dX5_set_2 : decode cX5_set 2 = .ok (.invokevirtual 41, 3) := by decide +kernel
theorem dX5_set_5 : decode cX5_set 5 = .ok (.astore 5, 2) := by decide +kernel
theorem dX5_set_7 : decode cX5_set 7 = .ok (.aload 5, 2) := by decide +kernel
theorem dX5_set_9 : decode cX5_set 9 = .ok (.ifnull 28, 3) := by decide +kernel
theorem dX5_set_12 : decode cX5_set 12 = .ok (.aload 5, 2) := by decide +kernel
theorem dX5_set_14 : decode cX5_set 14 = .ok (.getfield 45, 3) := by decide +kernel
theorem dX5_set_17 : decode cX5_set 17 = .ok (.iload_n 2, 1) := by decide +kernel
theorem dX5_set_18 : decode cX5_set 18 = .ok (.i2l, 1) := by decide +kernel
theorem dX5_set_19 : decode cX5_set 19 = .ok (.iload_n 3, 1) := by decide +kernel
theorem dX5_set_20 : decode cX5_set 20 = .ok (.i2l, 1) := by decide +kernel
theorem dX5_set_21 : decode cX5_set 21 = .ok (.invokevirtual 65, 3) := by decide +kernel
theorem dX5_set_24 : decode cX5_set 24 = .ok (.ifCond .eq 13, 3) := by decide +kernel
theorem dX5_set_27 : decode cX5_set 27 = .ok (.aload 5, 2) := by decide +kernel
theorem dX5_set_29 : decode cX5_set 29 = .ok (.iload 4, 2) := by decide +kernel
theorem dX5_set_31 : decode cX5_set 31 = .ok (.invokevirtual 69, 3) := by decide +kernel
theorem dX5_set_34 : decode cX5_set 34 = .ok (.ifCond .ne 5, 3) := by decide +kernel
theorem dX5_set_37 : decode cX5_set 37 = .ok (.iconst 0, 1) := by decide +kernel
theorem dX5_set_38 : decode cX5_set 38 = .ok (.ireturn, 1) := by decide +kernel
theorem dX5_set_39 : decode cX5_set 39 = .ok (.aload 5, 2) := by decide +kernel
theorem dX5_set_41 : decode cX5_set 41 = .ok (.getfield 72, 3) := by decide +kernel
theorem dX5_set_44 : decode cX5_set 44 = .ok (.aload 5, 2) := by decide +kernel
theorem dX5_set_46 : decode cX5_set 46 = .ok (.iload_n 2, 1) := by decide +kernel
theorem dX5_set_47 : decode cX5_set 47 = .ok (.i2l, 1) := by decide +kernel
theorem dX5_set_48 : decode cX5_set 48 = .ok (.iload_n 3, 1) := by decide +kernel
theorem dX5_set_49 : decode cX5_set 49 = .ok (.i2l, 1) := by decide +kernel
theorem dX5_set_50 : decode cX5_set 50 = .ok (.invokevirtual 75, 3) := by decide +kernel
theorem dX5_set_53 : decode cX5_set 53 = .ok (.iload 4, 2) := by decide +kernel
theorem dX5_set_55 : decode cX5_set 55 = .ok (.iastore, 1) := by decide +kernel
theorem dX5_set_56 : decode cX5_set 56 = .ok (.iconst 1, 1) := by decide +kernel
theorem dX5_set_57 : decode cX5_set 57 = .ok (.ireturn, 1) := by decide +kernel
set_option maxRecDepth 100000 in
theorem ggX5_get_X5_surfaceAt : GoodIn wsX5_get wsX5_surfaceAt := goodIn_r _ [7, 8, 9, 31, 32, 33, 34, 35] rfl (by decide +kernel)
set_option maxRecDepth 20000 in
theorem gX5_get_X5_surfaceAt : GoodIn wsX5_get (wsV RX5 41 RX5 yX5_surfaceAt wsX5_surfaceAt) := goodIn_app (goodIn_of _ (by decide +kernel)) ggX5_get_X5_surfaceAt
set_option maxRecDepth 100000 in
theorem ggX5_get_X0_holds : GoodIn wsX5_get wsX0_holds := goodIn_r _ [14, 15, 16, 17, 18, 36, 37, 38, 39] rfl (by decide +kernel)
set_option maxRecDepth 20000 in
theorem gX5_get_X0_holds : GoodIn wsX5_get (wsV RX5 65 RX0 yX0_holds wsX0_holds) := goodIn_app (goodIn_of _ (by decide +kernel)) ggX5_get_X0_holds
set_option maxRecDepth 100000 in
theorem ggX5_get_X3_indexOf : GoodIn wsX5_get wsX3_indexOf := goodIn_r _ [23, 24, 25, 26, 27, 28, 29, 30, 36, 37, 38, 39] rfl (by decide +kernel)
set_option maxRecDepth 20000 in
theorem gX5_get_X3_indexOf : GoodIn wsX5_get (wsV RX5 75 RX3 yX3_indexOf wsX3_indexOf) := goodIn_app (goodIn_of _ (by decide +kernel)) ggX5_get_X3_indexOf
theorem dX5_get_0 : decode cX5_get 0 = .ok (.aload_n 0, 1) := by decide +kernel
theorem dX5_get_1 : decode cX5_get 1 = .ok (.iload_n 1, 1) := by decide +kernel
theorem dX5_get_2 : decode cX5_get 2 = .ok (.invokevirtual 41, 3) := by decide +kernel
theorem dX5_get_5 : decode cX5_get 5 = .ok (.astore 4, 2) := by decide +kernel
theorem dX5_get_7 : decode cX5_get 7 = .ok (.aload 4, 2) := by decide +kernel
theorem dX5_get_9 : decode cX5_get 9 = .ok (.ifnull 18, 3) := by decide +kernel
theorem dX5_get_12 : decode cX5_get 12 = .ok (.aload 4, 2) := by decide +kernel
theorem dX5_get_14 : decode cX5_get 14 = .ok (.getfield 45, 3) := by decide +kernel
theorem dX5_get_17 : decode cX5_get 17 = .ok (.iload_n 2, 1) := by decide +kernel
theorem dX5_get_18 : decode cX5_get 18 = .ok (.i2l, 1) := by decide +kernel
theorem dX5_get_19 : decode cX5_get 19 = .ok (.iload_n 3, 1) := by decide +kernel
theorem dX5_get_20 : decode cX5_get 20 = .ok (.i2l, 1) := by decide +kernel
theorem dX5_get_21 : decode cX5_get 21 = .ok (.invokevirtual 65, 3) := by decide +kernel
theorem dX5_get_24 : decode cX5_get 24 = .ok (.ifCond .ne 5, 3) := by decide +kernel
theorem dX5_get_27 : decode cX5_get 27 = .ok (.iconst (-1), 1) := by decide +kernel
theorem dX5_get_28 : decode cX5_get 28 = .ok (.ireturn, 1) := by decide +kernel
theorem dX5_get_29 : decode cX5_get 29 = .ok (.aload 4, 2) := by decide +kernel
theorem dX5_get_31 : decode cX5_get 31 = .ok (.getfield 72, 3) := by decide +kernel
theorem dX5_get_34 : decode cX5_get 34 = .ok (.aload 4, 2) := by decide +kernel
theorem dX5_get_36 : decode cX5_get 36 = .ok (.iload_n 2, 1) := by decide +kernel
theorem dX5_get_37 : decode cX5_get 37 = .ok (.i2l, 1) := by decide +kernel
theorem dX5_get_38 : decode cX5_get 38 = .ok (.iload_n 3, 1) := by decide +kernel
theorem dX5_get_39 : decode cX5_get 39 = .ok (.i2l, 1) := by decide +kernel
theorem dX5_get_40 : decode cX5_get 40 = .ok (.invokevirtual 75, 3) := by decide +kernel
theorem dX5_get_43 : decode cX5_get 43 = .ok (.iaload, 1) := by decide +kernel
theorem dX5_get_44 : decode cX5_get 44 = .ok (.ireturn, 1) := by decide +kernel
set_option maxRecDepth 100000 in
theorem ggX5_told_X5_surfaceAt : GoodIn wsX5_told wsX5_surfaceAt := goodIn_r _ [12, 13, 14, 24, 25, 26, 27, 28] rfl (by decide +kernel)
set_option maxRecDepth 20000 in
theorem gX5_told_X5_surfaceAt : GoodIn wsX5_told (wsV RX5 41 RX5 yX5_surfaceAt wsX5_surfaceAt) := goodIn_app (goodIn_of _ (by decide +kernel)) ggX5_told_X5_surfaceAt
theorem dX5_told_0 : decode cX5_told 0 = .ok (.aload_n 0, 1) := by decide +kernel
theorem dX5_told_1 : decode cX5_told 1 = .ok (.iload_n 1, 1) := by decide +kernel
theorem dX5_told_2 : decode cX5_told 2 = .ok (.invokevirtual 41, 3) := by decide +kernel
theorem dX5_told_5 : decode cX5_told 5 = .ok (.astore_n 3, 1) := by decide +kernel
theorem dX5_told_6 : decode cX5_told 6 = .ok (.aload_n 3, 1) := by decide +kernel
theorem dX5_told_7 : decode cX5_told 7 = .ok (.ifnonnull 5, 3) := by decide +kernel
theorem dX5_told_10 : decode cX5_told 10 = .ok (.iconst (-1), 1) := by decide +kernel
theorem dX5_told_11 : decode cX5_told 11 = .ok (.ireturn, 1) := by decide +kernel
theorem dX5_told_12 : decode cX5_told 12 = .ok (.iload_n 2, 1) := by decide +kernel
theorem dX5_told_13 : decode cX5_told 13 = .ok (.tableswitch 98 0 6 #[43, 48, 56, 64, 73, 82, 90], 43) := by decide +kernel
theorem dX5_told_56 : decode cX5_told 56 = .ok (.aload_n 3, 1) := by decide +kernel
theorem dX5_told_57 : decode cX5_told 57 = .ok (.getfield 79, 3) := by decide +kernel
theorem dX5_told_60 : decode cX5_told 60 = .ok (.ireturn, 1) := by decide +kernel
theorem dX5_told_61 : decode cX5_told 61 = .ok (.aload_n 3, 1) := by decide +kernel
theorem dX5_told_62 : decode cX5_told 62 = .ok (.getfield 45, 3) := by decide +kernel
theorem dX5_told_65 : decode cX5_told 65 = .ok (.getfield 82, 3) := by decide +kernel
theorem dX5_told_68 : decode cX5_told 68 = .ok (.ireturn, 1) := by decide +kernel
theorem dX5_told_69 : decode cX5_told 69 = .ok (.aload_n 3, 1) := by decide +kernel
theorem dX5_told_70 : decode cX5_told 70 = .ok (.getfield 45, 3) := by decide +kernel
theorem dX5_told_73 : decode cX5_told 73 = .ok (.getfield 85, 3) := by decide +kernel
theorem dX5_told_76 : decode cX5_told 76 = .ok (.ireturn, 1) := by decide +kernel
theorem dX5_told_77 : decode cX5_told 77 = .ok (.aload_n 3, 1) := by decide +kernel
theorem dX5_told_78 : decode cX5_told 78 = .ok (.getfield 58, 3) := by decide +kernel
theorem dX5_told_81 : decode cX5_told 81 = .ok (.getfield 88, 3) := by decide +kernel
theorem dX5_told_84 : decode cX5_told 84 = .ok (.l2i, 1) := by decide +kernel
theorem dX5_told_85 : decode cX5_told 85 = .ok (.ireturn, 1) := by decide +kernel
theorem dX5_told_86 : decode cX5_told 86 = .ok (.aload_n 3, 1) := by decide +kernel
theorem dX5_told_87 : decode cX5_told 87 = .ok (.getfield 58, 3) := by decide +kernel
theorem dX5_told_90 : decode cX5_told 90 = .ok (.getfield 92, 3) := by decide +kernel
theorem dX5_told_93 : decode cX5_told 93 = .ok (.l2i, 1) := by decide +kernel
theorem dX5_told_94 : decode cX5_told 94 = .ok (.ireturn, 1) := by decide +kernel
theorem dX5_told_95 : decode cX5_told 95 = .ok (.aload_n 3, 1) := by decide +kernel
theorem dX5_told_96 : decode cX5_told 96 = .ok (.getfield 58, 3) := by decide +kernel
theorem dX5_told_99 : decode cX5_told 99 = .ok (.getfield 82, 3) := by decide +kernel
theorem dX5_told_102 : decode cX5_told 102 = .ok (.ireturn, 1) := by decide +kernel
theorem dX5_told_103 : decode cX5_told 103 = .ok (.aload_n 3, 1) := by decide +kernel
theorem dX5_told_104 : decode cX5_told 104 = .ok (.getfield 58, 3) := by decide +kernel
theorem dX5_told_107 : decode cX5_told 107 = .ok (.getfield 85, 3) := by decide +kernel
theorem dX5_told_110 : decode cX5_told 110 = .ok (.ireturn, 1) := by decide +kernel
theorem dX5_told_111 : decode cX5_told 111 = .ok (.iconst (-1), 1) := by decide +kernel
theorem dX5_told_112 : decode cX5_told 112 = .ok (.ireturn, 1) := by decide +kernel
set_option maxRecDepth 100000 in
theorem ggX5_fill_X5_surfaceAt : GoodIn wsX5_fill wsX5_surfaceAt := goodIn_r _ [10, 11, 12, 87, 88, 89, 90, 91] rfl (by decide +kernel)
set_option maxRecDepth 20000 in
theorem gX5_fill_X5_surfaceAt : GoodIn wsX5_fill (wsV RX5 41 RX5 yX5_surfaceAt wsX5_surfaceAt) := goodIn_app (goodIn_of _ (by decide +kernel)) ggX5_fill_X5_surfaceAt
set_option maxRecDepth 100000 in
theorem ggX5_fill_X3_fits : GoodIn wsX5_fill wsX3_fits := goodIn_r _ [17, 18, 78, 79, 80, 81, 82] rfl (by decide +kernel)
set_option maxRecDepth 20000 in
theorem gX5_fill_X3_fits : GoodIn wsX5_fill (wsV RX5 69 RX3 yX3_fits wsX3_fits) := goodIn_app (goodIn_of _ (by decide +kernel)) ggX5_fill_X3_fits
set_option maxRecDepth 100000 in
theorem ggX5_fill_X5_isOperation : GoodIn wsX5_fill wsX5_isOperation := goodIn_r _ [21] rfl (by decide +kernel)
set_option maxRecDepth 20000 in
theorem gX5_fill_X5_isOperation : GoodIn wsX5_fill (va_wsS RX5 95 yX5_isOperation wsX5_isOperation) := goodIn_app (goodIn_of _ (by decide +kernel)) ggX5_fill_X5_isOperation
set_option maxRecDepth 100000 in
theorem ggX5_fill_X5_isSide : GoodIn wsX5_fill wsX5_isSide := goodIn_r _ [24] rfl (by decide +kernel)
set_option maxRecDepth 20000 in
theorem gX5_fill_X5_isSide : GoodIn wsX5_fill (va_wsS RX5 34 yX5_isSide wsX5_isSide) := goodIn_app (goodIn_of _ (by decide +kernel)) ggX5_fill_X5_isSide
set_option maxRecDepth 100000 in
theorem ggX5_fill_X0_init : GoodIn wsX5_fill wsX0_init := goodIn_r _ [27, 28, 29, 30, 31, 32, 33, 34, 83, 84, 85, 86] rfl (by decide +kernel)
set_option maxRecDepth 20000 in
theorem gX5_fill_X0_init : GoodIn wsX5_fill (wsX0_init) := ggX5_fill_X0_init
set_option maxRecDepth 100000 in
theorem ggX5_fill_X0_shared : GoodIn wsX5_fill wsX0_shared := goodIn_r _ [38, 31, 39, 40, 41, 42, 32, 33, 43, 44, 45, 34, 46, 3, 4, 47, 26, 27, 28, 29, 30, 83, 84, 85, 86] rfl (by decide +kernel)
set_option maxRecDepth 20000 in
theorem gX5_fill_X0_shared : GoodIn wsX5_fill (wsV RX5 54 RX0 yX0_shared wsX0_shared) := goodIn_app (goodIn_of _ (by decide +kernel)) ggX5_fill_X0_shared
set_option maxRecDepth 100000 in
theorem ggX5_fill_X0_size : GoodIn wsX5_fill wsX0_size := goodIn_r _ [51, 33, 34, 83, 84, 85, 86] rfl (by decide +kernel)
set_option maxRecDepth 20000 in
theorem gX5_fill_X0_size : GoodIn wsX5_fill (wsV RX5 61 RX0 yX0_size wsX0_size) := goodIn_app (goodIn_of _ (by decide +kernel)) ggX5_fill_X0_size
set_option maxRecDepth 100000 in
theorem ggX5_fill_J7_fill_fda19 : GoodIn wsX5_fill wsJ7_fill_fda19 := goodIn_r _ [55, 56, 57, 54, 58] rfl (by decide +kernel)
set_option maxRecDepth 20000 in
theorem gX5_fill_J7_fill_fda19 : GoodIn wsX5_fill (va_wsS RX5 98 yJ7_fill_fda19 wsJ7_fill_fda19) := goodIn_app (goodIn_of _ (by decide +kernel)) ggX5_fill_J7_fill_fda19
set_option maxRecDepth 100000 in
theorem ggX5_fill_X5_putDots : GoodIn wsX5_fill wsX5_putDots := goodIn_r _ [62, 63, 64, 65, 66, 5, 67, 68, 69, 70, 71, 16, 72, 73, 74, 75, 76, 9, 77, 83, 84, 85, 86, 87, 88, 89, 90, 91, 78, 79, 80, 81, 82] rfl (by decide +kernel)
set_option maxRecDepth 20000 in
theorem gX5_fill_X5_putDots : GoodIn wsX5_fill (wsV RX5 104 RX5 yX5_putDots wsX5_putDots) := goodIn_app (goodIn_of _ (by decide +kernel)) ggX5_fill_X5_putDots
theorem dX5_fill_0 : decode cX5_fill 0 = .ok (.aload_n 0, 1) := by decide +kernel
theorem dX5_fill_1 : decode cX5_fill 1 = .ok (.iload_n 1, 1) := by decide +kernel
theorem dX5_fill_2 : decode cX5_fill 2 = .ok (.invokevirtual 41, 3) := by decide +kernel
theorem dX5_fill_5 : decode cX5_fill 5 = .ok (.astore 8, 2) := by decide +kernel
theorem dX5_fill_7 : decode cX5_fill 7 = .ok (.aload 8, 2) := by decide +kernel
theorem dX5_fill_9 : decode cX5_fill 9 = .ok (.ifnull 37, 3) := by decide +kernel
theorem dX5_fill_12 : decode cX5_fill 12 = .ok (.aload 8, 2) := by decide +kernel
theorem dX5_fill_14 : decode cX5_fill 14 = .ok (.iload 6, 2) := by decide +kernel
theorem dX5_fill_16 : decode cX5_fill 16 = .ok (.invokevirtual 69, 3) := by decide +kernel
theorem dX5_fill_19 : decode cX5_fill 19 = .ok (.ifCond .eq 27, 3) := by decide +kernel
theorem dX5_fill_22 : decode cX5_fill 22 = .ok (.iload 7, 2) := by decide +kernel
theorem dX5_fill_24 : decode cX5_fill 24 = .ok (.invokestatic 95, 3) := by decide +kernel
theorem dX5_fill_27 : decode cX5_fill 27 = .ok (.ifCond .eq 19, 3) := by decide +kernel
theorem dX5_fill_30 : decode cX5_fill 30 = .ok (.iload 4, 2) := by decide +kernel
theorem dX5_fill_32 : decode cX5_fill 32 = .ok (.invokestatic 34, 3) := by decide +kernel
theorem dX5_fill_35 : decode cX5_fill 35 = .ok (.ifCond .eq 11, 3) := by decide +kernel
theorem dX5_fill_38 : decode cX5_fill 38 = .ok (.iload 5, 2) := by decide +kernel
theorem dX5_fill_40 : decode cX5_fill 40 = .ok (.invokestatic 34, 3) := by decide +kernel
theorem dX5_fill_43 : decode cX5_fill 43 = .ok (.ifCond .ne 5, 3) := by decide +kernel
theorem dX5_fill_46 : decode cX5_fill 46 = .ok (.iconst (-1), 1) := by decide +kernel
theorem dX5_fill_47 : decode cX5_fill 47 = .ok (.ireturn, 1) := by decide +kernel
theorem dX5_fill_48 : decode cX5_fill 48 = .ok (.aload 8, 2) := by decide +kernel
theorem dX5_fill_50 : decode cX5_fill 50 = .ok (.getfield 58, 3) := by decide +kernel
theorem dX5_fill_53 : decode cX5_fill 53 = .ok (.new 49, 3) := by decide +kernel
theorem dX5_fill_56 : decode cX5_fill 56 = .ok (.dup, 1) := by decide +kernel
theorem dX5_fill_57 : decode cX5_fill 57 = .ok (.iload_n 2, 1) := by decide +kernel
theorem dX5_fill_58 : decode cX5_fill 58 = .ok (.i2l, 1) := by decide +kernel
theorem dX5_fill_59 : decode cX5_fill 59 = .ok (.iload_n 3, 1) := by decide +kernel
theorem dX5_fill_60 : decode cX5_fill 60 = .ok (.i2l, 1) := by decide +kernel
theorem dX5_fill_61 : decode cX5_fill 61 = .ok (.iload 4, 2) := by decide +kernel
theorem dX5_fill_63 : decode cX5_fill 63 = .ok (.iload 5, 2) := by decide +kernel
theorem dX5_fill_65 : decode cX5_fill 65 = .ok (.invokespecial 51, 3) := by decide +kernel
theorem dX5_fill_68 : decode cX5_fill 68 = .ok (.invokevirtual 54, 3) := by decide +kernel
theorem dX5_fill_71 : decode cX5_fill 71 = .ok (.astore 9, 2) := by decide +kernel
theorem dX5_fill_73 : decode cX5_fill 73 = .ok (.aload_n 0, 1) := by decide +kernel
theorem dX5_fill_74 : decode cX5_fill 74 = .ok (.getfield 30, 3) := by decide +kernel
theorem dX5_fill_77 : decode cX5_fill 77 = .ok (.iconst 0, 1) := by decide +kernel
theorem dX5_fill_78 : decode cX5_fill 78 = .ok (.aload 9, 2) := by decide +kernel
theorem dX5_fill_80 : decode cX5_fill 80 = .ok (.invokevirtual 61, 3) := by decide +kernel
theorem dX5_fill_83 : decode cX5_fill 83 = .ok (.iload 6, 2) := by decide +kernel
theorem dX5_fill_85 : decode cX5_fill 85 = .ok (.invokestatic 98, 3) := by decide +kernel
theorem dX5_fill_88 : decode cX5_fill 88 = .ok (.aload_n 0, 1) := by decide +kernel
theorem dX5_fill_89 : decode cX5_fill 89 = .ok (.aload 8, 2) := by decide +kernel
theorem dX5_fill_91 : decode cX5_fill 91 = .ok (.aload 9, 2) := by decide +kernel
theorem dX5_fill_93 : decode cX5_fill 93 = .ok (.iload 7, 2) := by decide +kernel
theorem dX5_fill_95 : decode cX5_fill 95 = .ok (.invokevirtual 104, 3) := by decide +kernel
theorem dX5_fill_98 : decode cX5_fill 98 = .ok (.aload 9, 2) := by decide +kernel
theorem dX5_fill_100 : decode cX5_fill 100 = .ok (.invokevirtual 61, 3) := by decide +kernel
theorem dX5_fill_103 : decode cX5_fill 103 = .ok (.ireturn, 1) := by decide +kernel
set_option maxRecDepth 100000 in
theorem ggX5_copy_X5_surfaceAt : GoodIn wsX5_copy wsX5_surfaceAt := goodIn_r _ [10, 11, 12, 112, 113, 114, 115, 116] rfl (by decide +kernel)
set_option maxRecDepth 20000 in
theorem gX5_copy_X5_surfaceAt : GoodIn wsX5_copy (wsV RX5 41 RX5 yX5_surfaceAt wsX5_surfaceAt) := goodIn_app (goodIn_of _ (by decide +kernel)) ggX5_copy_X5_surfaceAt
set_option maxRecDepth 100000 in
theorem ggX5_copy_X0_init : GoodIn wsX5_copy wsX0_init := goodIn_r _ [15, 16, 17, 18, 19, 20, 21, 22, 104, 105, 106, 107] rfl (by decide +kernel)
set_option maxRecDepth 20000 in
theorem gX5_copy_X0_init : GoodIn wsX5_copy (wsX0_init) := ggX5_copy_X0_init
set_option maxRecDepth 100000 in
theorem ggX5_copy_X5_moveOf : GoodIn wsX5_copy wsX5_moveOf := goodIn_r _ [25, 26, 27, 28, 29, 30, 31, 32, 9, 33, 34, 35, 36, 37, 17, 18, 38, 39, 40, 41, 42, 43, 44, 45, 46, 47, 48, 3, 49, 19, 50, 51, 52, 53, 20, 21, 54, 55, 56, 22, 57, 2, 58, 14, 15, 16, 59, 60, 61, 62, 104, 105, 106, 107, 108, 109, 110, 111, 117, 118, 119, 120, 121] rfl (by decide +kernel)
set_option maxRecDepth 20000 in
theorem gX5_copy_X5_moveOf : GoodIn wsX5_copy (va_wsS RX5 108 yX5_moveOf wsX5_moveOf) := goodIn_app (goodIn_of _ (by decide +kernel)) ggX5_copy_X5_moveOf
set_option maxRecDepth 100000 in
theorem ggX5_copy_X1_keepsDepth : GoodIn wsX5_copy wsX1_keepsDepth := goodIn_r _ [66, 40, 67, 41, 108, 109, 110, 111, 117, 118, 119, 120, 121] rfl (by decide +kernel)
set_option maxRecDepth 20000 in
theorem gX5_copy_X1_keepsDepth : GoodIn wsX5_copy (wsV RX5 112 RX1 yX1_keepsDepth wsX1_keepsDepth) := goodIn_app (goodIn_of _ (by decide +kernel)) ggX5_copy_X1_keepsDepth
set_option maxRecDepth 100000 in
theorem ggX5_copy_X5_isOperation : GoodIn wsX5_copy wsX5_isOperation := goodIn_r _ [70] rfl (by decide +kernel)
set_option maxRecDepth 20000 in
theorem gX5_copy_X5_isOperation : GoodIn wsX5_copy (va_wsS RX5 95 yX5_isOperation wsX5_isOperation) := goodIn_app (goodIn_of _ (by decide +kernel)) ggX5_copy_X5_isOperation
set_option maxRecDepth 100000 in
theorem ggX5_copy_X5_takeDots : GoodIn wsX5_copy wsX5_takeDots := goodIn_r _ [74, 75, 27, 76, 77, 78, 79, 80, 26, 81, 82, 83, 84, 85, 86, 87, 88, 89, 90, 91, 108, 109, 110, 111, 104, 105, 106, 107, 117, 118, 119, 120, 121, 112, 113, 114, 115, 116] rfl (by decide +kernel)
set_option maxRecDepth 20000 in
theorem gX5_copy_X5_takeDots : GoodIn wsX5_copy (wsV RX5 118 RX5 yX5_takeDots wsX5_takeDots) := goodIn_app (goodIn_of _ (by decide +kernel)) ggX5_copy_X5_takeDots
set_option maxRecDepth 100000 in
theorem ggX5_copy_X5_putDots : GoodIn wsX5_copy wsX5_putDots := goodIn_r _ [95, 27, 77, 78, 26, 80, 79, 96, 85, 86, 87, 88, 89, 90, 91, 97, 98, 9, 99, 104, 105, 106, 107, 112, 113, 114, 115, 116, 117, 118, 119, 120, 121] rfl (by decide +kernel)
set_option maxRecDepth 20000 in
theorem gX5_copy_X5_putDots : GoodIn wsX5_copy (wsV RX5 104 RX5 yX5_putDots wsX5_putDots) := goodIn_app (goodIn_of _ (by decide +kernel)) ggX5_copy_X5_putDots
set_option maxRecDepth 100000 in
theorem ggX5_copy_X0_size : GoodIn wsX5_copy wsX0_size := goodIn_r _ [103, 21, 22, 104, 105, 106, 107] rfl (by decide +kernel)
set_option maxRecDepth 20000 in
theorem gX5_copy_X0_size : GoodIn wsX5_copy (wsV RX5 61 RX0 yX0_size wsX0_size) := goodIn_app (goodIn_of _ (by decide +kernel)) ggX5_copy_X0_size
theorem dX5_copy_0 : decode cX5_copy 0 = .ok (.aload_n 0, 1) := by decide +kernel
theorem dX5_copy_1 : decode cX5_copy 1 = .ok (.iload_n 1, 1) := by decide +kernel
theorem dX5_copy_2 : decode cX5_copy 2 = .ok (.invokevirtual 41, 3) := by decide +kernel
theorem dX5_copy_5 : decode cX5_copy 5 = .ok (.new 49, 3) := by decide +kernel
theorem dX5_copy_8 : decode cX5_copy 8 = .ok (.dup, 1) := by decide +kernel
theorem dX5_copy_9 : decode cX5_copy 9 = .ok (.iload_n 2, 1) := by decide +kernel
theorem dX5_copy_10 : decode cX5_copy 10 = .ok (.i2l, 1) := by decide +kernel
theorem dX5_copy_11 : decode cX5_copy 11 = .ok (.iload_n 3, 1) := by decide +kernel
theorem dX5_copy_12 : decode cX5_copy 12 = .ok (.i2l, 1) := by decide +kernel
theorem dX5_copy_13 : decode cX5_copy 13 = .ok (.iload 4, 2) := by decide +kernel
theorem dX5_copy_15 : decode cX5_copy 15 = .ok (.iload 5, 2) := by decide +kernel
theorem dX5_copy_17 : decode cX5_copy 17 = .ok (.invokespecial 51, 3) := by decide +kernel
theorem dX5_copy_20 : decode cX5_copy 20 = .ok (.aload_n 0, 1) := by decide +kernel
theorem dX5_copy_21 : decode cX5_copy 21 = .ok (.iload 6, 2) := by decide +kernel
theorem dX5_copy_23 : decode cX5_copy 23 = .ok (.invokevirtual 41, 3) := by decide +kernel
theorem dX5_copy_26 : decode cX5_copy 26 = .ok (.iload 7, 2) := by decide +kernel
theorem dX5_copy_28 : decode cX5_copy 28 = .ok (.iload 8, 2) := by decide +kernel
theorem dX5_copy_30 : decode cX5_copy 30 = .ok (.invokestatic 108, 3) := by decide +kernel
theorem dX5_copy_33 : decode cX5_copy 33 = .ok (.astore 10, 2) := by decide +kernel
theorem dX5_copy_35 : decode cX5_copy 35 = .ok (.aload 10, 2) := by decide +kernel
theorem dX5_copy_37 : decode cX5_copy 37 = .ok (.ifnull 19, 3) := by decide +kernel
theorem dX5_copy_40 : decode cX5_copy 40 = .ok (.aload 10, 2) := by decide +kernel
theorem dX5_copy_42 : decode cX5_copy 42 = .ok (.invokevirtual 112, 3) := by decide +kernel
theorem dX5_copy_45 : decode cX5_copy 45 = .ok (.ifCond .eq 11, 3) := by decide +kernel
theorem dX5_copy_48 : decode cX5_copy 48 = .ok (.iload 9, 2) := by decide +kernel
theorem dX5_copy_50 : decode cX5_copy 50 = .ok (.invokestatic 95, 3) := by decide +kernel
theorem dX5_copy_53 : decode cX5_copy 53 = .ok (.ifCond .ne 5, 3) := by decide +kernel
theorem dX5_copy_56 : decode cX5_copy 56 = .ok (.iconst (-1), 1) := by decide +kernel
theorem dX5_copy_57 : decode cX5_copy 57 = .ok (.ireturn, 1) := by decide +kernel
theorem dX5_copy_58 : decode cX5_copy 58 = .ok (.aload_n 0, 1) := by decide +kernel
theorem dX5_copy_59 : decode cX5_copy 59 = .ok (.aload 10, 2) := by decide +kernel
theorem dX5_copy_61 : decode cX5_copy 61 = .ok (.invokevirtual 118, 3) := by decide +kernel
theorem dX5_copy_64 : decode cX5_copy 64 = .ok (.aload_n 0, 1) := by decide +kernel
theorem dX5_copy_65 : decode cX5_copy 65 = .ok (.aload 10, 2) := by decide +kernel
theorem dX5_copy_67 : decode cX5_copy 67 = .ok (.getfield 122, 3) := by decide +kernel
theorem dX5_copy_70 : decode cX5_copy 70 = .ok (.aload 10, 2) := by decide +kernel
theorem dX5_copy_72 : decode cX5_copy 72 = .ok (.getfield 126, 3) := by decide +kernel
theorem dX5_copy_75 : decode cX5_copy 75 = .ok (.iload 9, 2) := by decide +kernel
theorem dX5_copy_77 : decode cX5_copy 77 = .ok (.invokevirtual 104, 3) := by decide +kernel
theorem dX5_copy_80 : decode cX5_copy 80 = .ok (.aload 10, 2) := by decide +kernel
theorem dX5_copy_82 : decode cX5_copy 82 = .ok (.getfield 126, 3) := by decide +kernel
theorem dX5_copy_85 : decode cX5_copy 85 = .ok (.invokevirtual 61, 3) := by decide +kernel
theorem dX5_copy_88 : decode cX5_copy 88 = .ok (.ireturn, 1) := by decide +kernel
set_option maxRecDepth 100000 in
theorem ggX5_keyed_X5_surfaceAt : GoodIn wsX5_keyed wsX5_surfaceAt := goodIn_r _ [10, 11, 12, 118, 119, 120, 121, 122] rfl (by decide +kernel)
set_option maxRecDepth 20000 in
theorem gX5_keyed_X5_surfaceAt : GoodIn wsX5_keyed (wsV RX5 41 RX5 yX5_surfaceAt wsX5_surfaceAt) := goodIn_app (goodIn_of _ (by decide +kernel)) ggX5_keyed_X5_surfaceAt
set_option maxRecDepth 100000 in
theorem ggX5_keyed_X0_init : GoodIn wsX5_keyed wsX0_init := goodIn_r _ [15, 16, 17, 18, 19, 20, 21, 22, 110, 111, 112, 113] rfl (by decide +kernel)
set_option maxRecDepth 20000 in
theorem gX5_keyed_X0_init : GoodIn wsX5_keyed (wsX0_init) := ggX5_keyed_X0_init
set_option maxRecDepth 100000 in
theorem ggX5_keyed_X5_moveOf : GoodIn wsX5_keyed wsX5_moveOf := goodIn_r _ [25, 26, 27, 28, 29, 30, 31, 32, 9, 33, 34, 35, 36, 37, 17, 18, 38, 39, 40, 41, 42, 43, 44, 45, 46, 47, 48, 3, 49, 19, 50, 51, 52, 53, 20, 21, 54, 55, 56, 22, 57, 2, 58, 14, 15, 16, 59, 60, 61, 62, 110, 111, 112, 113, 114, 115, 116, 117, 123, 124, 125, 126, 127] rfl (by decide +kernel)
set_option maxRecDepth 20000 in
theorem gX5_keyed_X5_moveOf : GoodIn wsX5_keyed (va_wsS RX5 108 yX5_moveOf wsX5_moveOf) := goodIn_app (goodIn_of _ (by decide +kernel)) ggX5_keyed_X5_moveOf
set_option maxRecDepth 100000 in
theorem ggX5_keyed_X1_keepsDepth : GoodIn wsX5_keyed wsX1_keepsDepth := goodIn_r _ [66, 40, 67, 41, 114, 115, 116, 117, 123, 124, 125, 126, 127] rfl (by decide +kernel)
set_option maxRecDepth 20000 in
theorem gX5_keyed_X1_keepsDepth : GoodIn wsX5_keyed (wsV RX5 112 RX1 yX1_keepsDepth wsX1_keepsDepth) := goodIn_app (goodIn_of _ (by decide +kernel)) ggX5_keyed_X1_keepsDepth
set_option maxRecDepth 100000 in
theorem ggX5_keyed_X3_fits : GoodIn wsX5_keyed wsX3_fits := goodIn_r _ [72, 73, 123, 124, 125, 126, 127] rfl (by decide +kernel)
set_option maxRecDepth 20000 in
theorem gX5_keyed_X3_fits : GoodIn wsX5_keyed (wsV RX5 69 RX3 yX3_fits wsX3_fits) := goodIn_app (goodIn_of _ (by decide +kernel)) ggX5_keyed_X3_fits
set_option maxRecDepth 100000 in
theorem ggX5_keyed_X5_takeDots : GoodIn wsX5_keyed wsX5_takeDots := goodIn_r _ [77, 78, 27, 79, 80, 81, 82, 83, 26, 84, 85, 86, 87, 88, 89, 90, 71, 91, 92, 93, 114, 115, 116, 117, 110, 111, 112, 113, 123, 124, 125, 126, 127, 118, 119, 120, 121, 122] rfl (by decide +kernel)
set_option maxRecDepth 20000 in
theorem gX5_keyed_X5_takeDots : GoodIn wsX5_keyed (wsV RX5 118 RX5 yX5_takeDots wsX5_takeDots) := goodIn_app (goodIn_of _ (by decide +kernel)) ggX5_keyed_X5_takeDots
set_option maxRecDepth 100000 in
theorem ggX5_keyed_X0_size : GoodIn wsX5_keyed wsX0_size := goodIn_r _ [97, 21, 22, 110, 111, 112, 113] rfl (by decide +kernel)
set_option maxRecDepth 20000 in
theorem gX5_keyed_X0_size : GoodIn wsX5_keyed (wsV RX5 61 RX0 yX0_size wsX0_size) := goodIn_app (goodIn_of _ (by decide +kernel)) ggX5_keyed_X0_size
set_option maxRecDepth 100000 in
theorem ggX5_keyed_X5_dropKey : GoodIn wsX5_keyed wsX5_dropKey := goodIn_r _ [101, 83, 118, 119, 120, 121, 122] rfl (by decide +kernel)
set_option maxRecDepth 20000 in
theorem gX5_keyed_X5_dropKey : GoodIn wsX5_keyed (wsV RX5 129 RX5 yX5_dropKey wsX5_dropKey) := goodIn_app (goodIn_of _ (by decide +kernel)) ggX5_keyed_X5_dropKey
set_option maxRecDepth 100000 in
theorem ggX5_keyed_X5_putDots : GoodIn wsX5_keyed wsX5_putDots := goodIn_r _ [105, 27, 80, 81, 26, 83, 82, 106, 88, 89, 90, 71, 91, 92, 93, 107, 108, 9, 109, 110, 111, 112, 113, 118, 119, 120, 121, 122, 123, 124, 125, 126, 127] rfl (by decide +kernel)
set_option maxRecDepth 20000 in
theorem gX5_keyed_X5_putDots : GoodIn wsX5_keyed (wsV RX5 104 RX5 yX5_putDots wsX5_putDots) := goodIn_app (goodIn_of _ (by decide +kernel)) ggX5_keyed_X5_putDots
theorem dX5_keyed_0 : decode cX5_keyed 0 = .ok (.aload_n 0, 1) := by decide +kernel
theorem dX5_keyed_1 : decode cX5_keyed 1 = .ok (.iload_n 1, 1) := by decide +kernel
theorem dX5_keyed_2 : decode cX5_keyed 2 = .ok (.invokevirtual 41, 3) := by decide +kernel
theorem dX5_keyed_5 : decode cX5_keyed 5 = .ok (.new 49, 3) := by decide +kernel
theorem dX5_keyed_8 : decode cX5_keyed 8 = .ok (.dup, 1) := by decide +kernel
theorem dX5_keyed_9 : decode cX5_keyed 9 = .ok (.iload_n 2, 1) := by decide +kernel
theorem dX5_keyed_10 : decode cX5_keyed 10 = .ok (.i2l, 1) := by decide +kernel
theorem dX5_keyed_11 : decode cX5_keyed 11 = .ok (.iload_n 3, 1) := by decide +kernel
theorem dX5_keyed_12 : decode cX5_keyed 12 = .ok (.i2l, 1) := by decide +kernel
theorem dX5_keyed_13 : decode cX5_keyed 13 = .ok (.iload 4, 2) := by decide +kernel
theorem dX5_keyed_15 : decode cX5_keyed 15 = .ok (.iload 5, 2) := by decide +kernel
theorem dX5_keyed_17 : decode cX5_keyed 17 = .ok (.invokespecial 51, 3) := by decide +kernel
theorem dX5_keyed_20 : decode cX5_keyed 20 = .ok (.aload_n 0, 1) := by decide +kernel
theorem dX5_keyed_21 : decode cX5_keyed 21 = .ok (.iload 6, 2) := by decide +kernel
theorem dX5_keyed_23 : decode cX5_keyed 23 = .ok (.invokevirtual 41, 3) := by decide +kernel
theorem dX5_keyed_26 : decode cX5_keyed 26 = .ok (.iload 7, 2) := by decide +kernel
theorem dX5_keyed_28 : decode cX5_keyed 28 = .ok (.iload 8, 2) := by decide +kernel
theorem dX5_keyed_30 : decode cX5_keyed 30 = .ok (.invokestatic 108, 3) := by decide +kernel
theorem dX5_keyed_33 : decode cX5_keyed 33 = .ok (.astore 10, 2) := by decide +kernel
theorem dX5_keyed_35 : decode cX5_keyed 35 = .ok (.aload 10, 2) := by decide +kernel
theorem dX5_keyed_37 : decode cX5_keyed 37 = .ok (.ifnull 24, 3) := by decide +kernel
theorem dX5_keyed_40 : decode cX5_keyed 40 = .ok (.aload 10, 2) := by decide +kernel
theorem dX5_keyed_42 : decode cX5_keyed 42 = .ok (.invokevirtual 112, 3) := by decide +kernel
theorem dX5_keyed_45 : decode cX5_keyed 45 = .ok (.ifCond .eq 16, 3) := by decide +kernel
theorem dX5_keyed_48 : decode cX5_keyed 48 = .ok (.aload 10, 2) := by decide +kernel
theorem dX5_keyed_50 : decode cX5_keyed 50 = .ok (.getfield 122, 3) := by decide +kernel
theorem dX5_keyed_53 : decode cX5_keyed 53 = .ok (.iload 9, 2) := by decide +kernel
theorem dX5_keyed_55 : decode cX5_keyed 55 = .ok (.invokevirtual 69, 3) := by decide +kernel
theorem dX5_keyed_58 : decode cX5_keyed 58 = .ok (.ifCond .ne 5, 3) := by decide +kernel
theorem dX5_keyed_61 : decode cX5_keyed 61 = .ok (.iconst (-1), 1) := by decide +kernel
theorem dX5_keyed_62 : decode cX5_keyed 62 = .ok (.ireturn, 1) := by decide +kernel
theorem dX5_keyed_63 : decode cX5_keyed 63 = .ok (.aload_n 0, 1) := by decide +kernel
theorem dX5_keyed_64 : decode cX5_keyed 64 = .ok (.aload 10, 2) := by decide +kernel
theorem dX5_keyed_66 : decode cX5_keyed 66 = .ok (.invokevirtual 118, 3) := by decide +kernel
theorem dX5_keyed_69 : decode cX5_keyed 69 = .ok (.aload_n 0, 1) := by decide +kernel
theorem dX5_keyed_70 : decode cX5_keyed 70 = .ok (.aload 10, 2) := by decide +kernel
theorem dX5_keyed_72 : decode cX5_keyed 72 = .ok (.getfield 126, 3) := by decide +kernel
theorem dX5_keyed_75 : decode cX5_keyed 75 = .ok (.invokevirtual 61, 3) := by decide +kernel
theorem dX5_keyed_78 : decode cX5_keyed 78 = .ok (.iload 9, 2) := by decide +kernel
theorem dX5_keyed_80 : decode cX5_keyed 80 = .ok (.invokevirtual 129, 3) := by decide +kernel
theorem dX5_keyed_83 : decode cX5_keyed 83 = .ok (.aload_n 0, 1) := by decide +kernel
theorem dX5_keyed_84 : decode cX5_keyed 84 = .ok (.aload 10, 2) := by decide +kernel
theorem dX5_keyed_86 : decode cX5_keyed 86 = .ok (.getfield 122, 3) := by decide +kernel
theorem dX5_keyed_89 : decode cX5_keyed 89 = .ok (.aload 10, 2) := by decide +kernel
theorem dX5_keyed_91 : decode cX5_keyed 91 = .ok (.getfield 126, 3) := by decide +kernel
theorem dX5_keyed_94 : decode cX5_keyed 94 = .ok (.bipush 12, 2) := by decide +kernel
theorem dX5_keyed_96 : decode cX5_keyed 96 = .ok (.invokevirtual 104, 3) := by decide +kernel
theorem dX5_keyed_99 : decode cX5_keyed 99 = .ok (.aload 10, 2) := by decide +kernel
theorem dX5_keyed_101 : decode cX5_keyed 101 = .ok (.getfield 126, 3) := by decide +kernel
theorem dX5_keyed_104 : decode cX5_keyed 104 = .ok (.invokevirtual 61, 3) := by decide +kernel
theorem dX5_keyed_107 : decode cX5_keyed 107 = .ok (.ireturn, 1) := by decide +kernel
set_option maxRecDepth 100000 in
theorem ggX5_masked_X5_surfaceAt : GoodIn wsX5_masked wsX5_surfaceAt := goodIn_r _ [12, 13, 14, 129, 130, 131, 132, 133] rfl (by decide +kernel)
set_option maxRecDepth 20000 in
theorem gX5_masked_X5_surfaceAt : GoodIn wsX5_masked (wsV RX5 41 RX5 yX5_surfaceAt wsX5_surfaceAt) := goodIn_app (goodIn_of _ (by decide +kernel)) ggX5_masked_X5_surfaceAt
set_option maxRecDepth 100000 in
theorem ggX5_masked_X0_init : GoodIn wsX5_masked wsX0_init := goodIn_r _ [17, 18, 19, 20, 21, 22, 23, 24, 116, 117, 118, 119] rfl (by decide +kernel)
set_option maxRecDepth 20000 in
theorem gX5_masked_X0_init : GoodIn wsX5_masked (wsX0_init) := ggX5_masked_X0_init
set_option maxRecDepth 100000 in
theorem ggX5_masked_X5_moveOf : GoodIn wsX5_masked wsX5_moveOf := goodIn_r _ [27, 28, 29, 30, 31, 32, 33, 34, 11, 35, 36, 37, 38, 39, 19, 20, 40, 41, 42, 43, 44, 45, 46, 47, 48, 49, 50, 3, 51, 21, 52, 53, 54, 55, 22, 23, 56, 57, 58, 24, 59, 2, 60, 16, 17, 18, 61, 62, 63, 64, 116, 117, 118, 119, 125, 126, 127, 128, 120, 121, 122, 123, 124] rfl (by decide +kernel)
set_option maxRecDepth 20000 in
theorem gX5_masked_X5_moveOf : GoodIn wsX5_masked (va_wsS RX5 108 yX5_moveOf wsX5_moveOf) := goodIn_app (goodIn_of _ (by decide +kernel)) ggX5_masked_X5_moveOf
set_option maxRecDepth 100000 in
theorem ggX5_masked_X1_keepsDepth : GoodIn wsX5_masked wsX1_keepsDepth := goodIn_r _ [68, 42, 69, 43, 125, 126, 127, 128, 120, 121, 122, 123, 124] rfl (by decide +kernel)
set_option maxRecDepth 20000 in
theorem gX5_masked_X1_keepsDepth : GoodIn wsX5_masked (wsV RX5 112 RX1 yX1_keepsDepth wsX1_keepsDepth) := goodIn_app (goodIn_of _ (by decide +kernel)) ggX5_masked_X1_keepsDepth
set_option maxRecDepth 100000 in
theorem ggX5_masked_X5_takeDots : GoodIn wsX5_masked wsX5_takeDots := goodIn_r _ [73, 5, 29, 74, 75, 76, 77, 78, 28, 79, 80, 81, 82, 83, 84, 85, 86, 87, 88, 89, 125, 126, 127, 128, 116, 117, 118, 119, 120, 121, 122, 123, 124, 129, 130, 131, 132, 133] rfl (by decide +kernel)
set_option maxRecDepth 20000 in
theorem gX5_masked_X5_takeDots : GoodIn wsX5_masked (wsV RX5 118 RX5 yX5_takeDots wsX5_takeDots) := goodIn_app (goodIn_of _ (by decide +kernel)) ggX5_masked_X5_takeDots
set_option maxRecDepth 100000 in
theorem ggX5_masked_X5_dropMasked : GoodIn wsX5_masked wsX5_dropMasked := goodIn_r _ [93, 29, 28, 75, 76, 78, 94, 95, 96, 86, 97, 88, 98, 99, 100, 101, 3, 102, 21, 23, 22, 24, 103, 84, 85, 87, 89, 116, 117, 118, 119, 129, 130, 131, 132, 133, 120, 121, 122, 123, 124] rfl (by decide +kernel)
set_option maxRecDepth 20000 in
theorem gX5_masked_X5_dropMasked : GoodIn wsX5_masked (wsV RX5 136 RX5 yX5_dropMasked wsX5_dropMasked) := goodIn_app (goodIn_of _ (by decide +kernel)) ggX5_masked_X5_dropMasked
set_option maxRecDepth 100000 in
theorem ggX5_masked_X5_putDots : GoodIn wsX5_masked wsX5_putDots := goodIn_r _ [107, 29, 75, 76, 28, 78, 77, 108, 83, 84, 85, 86, 87, 88, 89, 109, 110, 11, 111, 116, 117, 118, 119, 129, 130, 131, 132, 133, 120, 121, 122, 123, 124] rfl (by decide +kernel)
set_option maxRecDepth 20000 in
theorem gX5_masked_X5_putDots : GoodIn wsX5_masked (wsV RX5 104 RX5 yX5_putDots wsX5_putDots) := goodIn_app (goodIn_of _ (by decide +kernel)) ggX5_masked_X5_putDots
set_option maxRecDepth 100000 in
theorem ggX5_masked_X0_size : GoodIn wsX5_masked wsX0_size := goodIn_r _ [115, 23, 24, 116, 117, 118, 119] rfl (by decide +kernel)
set_option maxRecDepth 20000 in
theorem gX5_masked_X0_size : GoodIn wsX5_masked (wsV RX5 61 RX0 yX0_size wsX0_size) := goodIn_app (goodIn_of _ (by decide +kernel)) ggX5_masked_X0_size
theorem dX5_masked_0 : decode cX5_masked 0 = .ok (.aload_n 0, 1) := by decide +kernel
theorem dX5_masked_1 : decode cX5_masked 1 = .ok (.iload_n 1, 1) := by decide +kernel
theorem dX5_masked_2 : decode cX5_masked 2 = .ok (.invokevirtual 41, 3) := by decide +kernel
theorem dX5_masked_5 : decode cX5_masked 5 = .ok (.new 49, 3) := by decide +kernel
theorem dX5_masked_8 : decode cX5_masked 8 = .ok (.dup, 1) := by decide +kernel
theorem dX5_masked_9 : decode cX5_masked 9 = .ok (.iload_n 2, 1) := by decide +kernel
theorem dX5_masked_10 : decode cX5_masked 10 = .ok (.i2l, 1) := by decide +kernel
theorem dX5_masked_11 : decode cX5_masked 11 = .ok (.iload_n 3, 1) := by decide +kernel
theorem dX5_masked_12 : decode cX5_masked 12 = .ok (.i2l, 1) := by decide +kernel
theorem dX5_masked_13 : decode cX5_masked 13 = .ok (.iload 4, 2) := by decide +kernel
theorem dX5_masked_15 : decode cX5_masked 15 = .ok (.iload 5, 2) := by decide +kernel
theorem dX5_masked_17 : decode cX5_masked 17 = .ok (.invokespecial 51, 3) := by decide +kernel
theorem dX5_masked_20 : decode cX5_masked 20 = .ok (.aload_n 0, 1) := by decide +kernel
theorem dX5_masked_21 : decode cX5_masked 21 = .ok (.iload 6, 2) := by decide +kernel
theorem dX5_masked_23 : decode cX5_masked 23 = .ok (.invokevirtual 41, 3) := by decide +kernel
theorem dX5_masked_26 : decode cX5_masked 26 = .ok (.iload 7, 2) := by decide +kernel
theorem dX5_masked_28 : decode cX5_masked 28 = .ok (.iload 8, 2) := by decide +kernel
theorem dX5_masked_30 : decode cX5_masked 30 = .ok (.invokestatic 108, 3) := by decide +kernel
theorem dX5_masked_33 : decode cX5_masked 33 = .ok (.astore 10, 2) := by decide +kernel
theorem dX5_masked_35 : decode cX5_masked 35 = .ok (.aload_n 0, 1) := by decide +kernel
theorem dX5_masked_36 : decode cX5_masked 36 = .ok (.iload 9, 2) := by decide +kernel
theorem dX5_masked_38 : decode cX5_masked 38 = .ok (.invokevirtual 41, 3) := by decide +kernel
theorem dX5_masked_41 : decode cX5_masked 41 = .ok (.astore 11, 2) := by decide +kernel
theorem dX5_masked_43 : decode cX5_masked 43 = .ok (.aload 10, 2) := by decide +kernel
theorem dX5_masked_45 : decode cX5_masked 45 = .ok (.ifnull 25, 3) := by decide +kernel
theorem dX5_masked_48 : decode cX5_masked 48 = .ok (.aload 10, 2) := by decide +kernel
theorem dX5_masked_50 : decode cX5_masked 50 = .ok (.invokevirtual 112, 3) := by decide +kernel
theorem dX5_masked_53 : decode cX5_masked 53 = .ok (.ifCond .eq 17, 3) := by decide +kernel
theorem dX5_masked_56 : decode cX5_masked 56 = .ok (.aload 11, 2) := by decide +kernel
theorem dX5_masked_58 : decode cX5_masked 58 = .ok (.ifnull 12, 3) := by decide +kernel
theorem dX5_masked_61 : decode cX5_masked 61 = .ok (.aload 11, 2) := by decide +kernel
theorem dX5_masked_63 : decode cX5_masked 63 = .ok (.getfield 79, 3) := by decide +kernel
theorem dX5_masked_66 : decode cX5_masked 66 = .ok (.iconst 1, 1) := by decide +kernel
theorem dX5_masked_67 : decode cX5_masked 67 = .ok (.if_icmp .eq 5, 3) := by decide +kernel
theorem dX5_masked_70 : decode cX5_masked 70 = .ok (.iconst (-1), 1) := by decide +kernel
theorem dX5_masked_71 : decode cX5_masked 71 = .ok (.ireturn, 1) := by decide +kernel
theorem dX5_masked_72 : decode cX5_masked 72 = .ok (.aload_n 0, 1) := by decide +kernel
theorem dX5_masked_73 : decode cX5_masked 73 = .ok (.aload 10, 2) := by decide +kernel
theorem dX5_masked_75 : decode cX5_masked 75 = .ok (.invokevirtual 118, 3) := by decide +kernel
theorem dX5_masked_78 : decode cX5_masked 78 = .ok (.aload_n 0, 1) := by decide +kernel
theorem dX5_masked_79 : decode cX5_masked 79 = .ok (.aload 10, 2) := by decide +kernel
theorem dX5_masked_81 : decode cX5_masked 81 = .ok (.getfield 133, 3) := by decide +kernel
theorem dX5_masked_84 : decode cX5_masked 84 = .ok (.aload 11, 2) := by decide +kernel
theorem dX5_masked_86 : decode cX5_masked 86 = .ok (.invokevirtual 136, 3) := by decide +kernel
theorem dX5_masked_89 : decode cX5_masked 89 = .ok (.aload_n 0, 1) := by decide +kernel
theorem dX5_masked_90 : decode cX5_masked 90 = .ok (.aload 10, 2) := by decide +kernel
theorem dX5_masked_92 : decode cX5_masked 92 = .ok (.getfield 122, 3) := by decide +kernel
theorem dX5_masked_95 : decode cX5_masked 95 = .ok (.aload 10, 2) := by decide +kernel
theorem dX5_masked_97 : decode cX5_masked 97 = .ok (.getfield 126, 3) := by decide +kernel
theorem dX5_masked_100 : decode cX5_masked 100 = .ok (.bipush 12, 2) := by decide +kernel
theorem dX5_masked_102 : decode cX5_masked 102 = .ok (.invokevirtual 104, 3) := by decide +kernel
theorem dX5_masked_105 : decode cX5_masked 105 = .ok (.aload 10, 2) := by decide +kernel
theorem dX5_masked_107 : decode cX5_masked 107 = .ok (.getfield 126, 3) := by decide +kernel
theorem dX5_masked_110 : decode cX5_masked 110 = .ok (.invokevirtual 61, 3) := by decide +kernel
theorem dX5_masked_113 : decode cX5_masked 113 = .ok (.ireturn, 1) := by decide +kernel
set_option maxRecDepth 100000 in
theorem ggX5_spread_X5_surfaceAt : GoodIn wsX5_spread wsX5_surfaceAt := goodIn_r _ [13, 14, 15, 115, 116, 117, 118, 119] rfl (by decide +kernel)
set_option maxRecDepth 20000 in
theorem gX5_spread_X5_surfaceAt : GoodIn wsX5_spread (wsV RX5 41 RX5 yX5_surfaceAt wsX5_surfaceAt) := goodIn_app (goodIn_of _ (by decide +kernel)) ggX5_spread_X5_surfaceAt
set_option maxRecDepth 100000 in
theorem ggX5_spread_X0_init : GoodIn wsX5_spread wsX0_init := goodIn_r _ [18, 19, 20, 21, 22, 23, 24, 25, 102, 103, 104, 105] rfl (by decide +kernel)
set_option maxRecDepth 20000 in
theorem gX5_spread_X0_init : GoodIn wsX5_spread (wsX0_init) := ggX5_spread_X0_init
set_option maxRecDepth 100000 in
theorem ggX5_spread_X5_moveOf : GoodIn wsX5_spread wsX5_moveOf := goodIn_r _ [28, 29, 30, 31, 32, 33, 34, 35, 12, 36, 37, 38, 39, 40, 20, 21, 41, 42, 43, 44, 45, 46, 47, 48, 49, 50, 51, 3, 52, 22, 53, 54, 55, 56, 23, 24, 57, 58, 59, 25, 60, 2, 61, 17, 18, 19, 62, 63, 64, 65, 102, 103, 104, 105, 106, 107, 108, 109, 110, 111, 112, 113, 114] rfl (by decide +kernel)
set_option maxRecDepth 20000 in
theorem gX5_spread_X5_moveOf : GoodIn wsX5_spread (va_wsS RX5 108 yX5_moveOf wsX5_moveOf) := goodIn_app (goodIn_of _ (by decide +kernel)) ggX5_spread_X5_moveOf
set_option maxRecDepth 100000 in
theorem ggX5_spread_X3_fits : GoodIn wsX5_spread wsX3_fits := goodIn_r _ [70, 71, 110, 111, 112, 113, 114] rfl (by decide +kernel)
set_option maxRecDepth 20000 in
theorem gX5_spread_X3_fits : GoodIn wsX5_spread (wsV RX5 69 RX3 yX3_fits wsX3_fits) := goodIn_app (goodIn_of _ (by decide +kernel)) ggX5_spread_X3_fits
set_option maxRecDepth 100000 in
theorem ggX5_spread_X5_takeDots : GoodIn wsX5_spread wsX5_takeDots := goodIn_r _ [75, 76, 30, 4, 77, 78, 79, 8, 29, 80, 81, 82, 83, 84, 85, 86, 69, 87, 88, 89, 106, 107, 108, 109, 102, 103, 104, 105, 110, 111, 112, 113, 114, 115, 116, 117, 118, 119] rfl (by decide +kernel)
set_option maxRecDepth 20000 in
theorem gX5_spread_X5_takeDots : GoodIn wsX5_spread (wsV RX5 118 RX5 yX5_takeDots wsX5_takeDots) := goodIn_app (goodIn_of _ (by decide +kernel)) ggX5_spread_X5_takeDots
set_option maxRecDepth 100000 in
theorem ggX5_spread_X0_size : GoodIn wsX5_spread wsX0_size := goodIn_r _ [93, 24, 25, 102, 103, 104, 105] rfl (by decide +kernel)
set_option maxRecDepth 20000 in
theorem gX5_spread_X0_size : GoodIn wsX5_spread (wsV RX5 61 RX0 yX0_size wsX0_size) := goodIn_app (goodIn_of _ (by decide +kernel)) ggX5_spread_X0_size
set_option maxRecDepth 100000 in
theorem ggX5_spread_X5_putDots : GoodIn wsX5_spread wsX5_putDots := goodIn_r _ [97, 30, 77, 78, 29, 8, 79, 98, 84, 85, 86, 69, 87, 88, 89, 99, 100, 12, 101, 102, 103, 104, 105, 115, 116, 117, 118, 119, 110, 111, 112, 113, 114] rfl (by decide +kernel)
set_option maxRecDepth 20000 in
theorem gX5_spread_X5_putDots : GoodIn wsX5_spread (wsV RX5 104 RX5 yX5_putDots wsX5_putDots) := goodIn_app (goodIn_of _ (by decide +kernel)) ggX5_spread_X5_putDots
theorem dX5_spread_0 : decode cX5_spread 0 = .ok (.aload_n 0, 1) := by decide +kernel
theorem dX5_spread_1 : decode cX5_spread 1 = .ok (.iload_n 1, 1) := by decide +kernel
theorem dX5_spread_2 : decode cX5_spread 2 = .ok (.invokevirtual 41, 3) := by decide +kernel
theorem dX5_spread_5 : decode cX5_spread 5 = .ok (.new 49, 3) := by decide +kernel
theorem dX5_spread_8 : decode cX5_spread 8 = .ok (.dup, 1) := by decide +kernel
theorem dX5_spread_9 : decode cX5_spread 9 = .ok (.iload_n 2, 1) := by decide +kernel
theorem dX5_spread_10 : decode cX5_spread 10 = .ok (.i2l, 1) := by decide +kernel
theorem dX5_spread_11 : decode cX5_spread 11 = .ok (.iload_n 3, 1) := by decide +kernel
theorem dX5_spread_12 : decode cX5_spread 12 = .ok (.i2l, 1) := by decide +kernel
theorem dX5_spread_13 : decode cX5_spread 13 = .ok (.iload 4, 2) := by decide +kernel
theorem dX5_spread_15 : decode cX5_spread 15 = .ok (.iload 5, 2) := by decide +kernel
theorem dX5_spread_17 : decode cX5_spread 17 = .ok (.invokespecial 51, 3) := by decide +kernel
theorem dX5_spread_20 : decode cX5_spread 20 = .ok (.aload_n 0, 1) := by decide +kernel
theorem dX5_spread_21 : decode cX5_spread 21 = .ok (.iload 6, 2) := by decide +kernel
theorem dX5_spread_23 : decode cX5_spread 23 = .ok (.invokevirtual 41, 3) := by decide +kernel
theorem dX5_spread_26 : decode cX5_spread 26 = .ok (.iload 7, 2) := by decide +kernel
theorem dX5_spread_28 : decode cX5_spread 28 = .ok (.iload 8, 2) := by decide +kernel
theorem dX5_spread_30 : decode cX5_spread 30 = .ok (.invokestatic 108, 3) := by decide +kernel
theorem dX5_spread_33 : decode cX5_spread 33 = .ok (.astore 11, 2) := by decide +kernel
theorem dX5_spread_35 : decode cX5_spread 35 = .ok (.aload 11, 2) := by decide +kernel
theorem dX5_spread_37 : decode cX5_spread 37 = .ok (.ifnull 41, 3) := by decide +kernel
theorem dX5_spread_40 : decode cX5_spread 40 = .ok (.aload 11, 2) := by decide +kernel
theorem dX5_spread_42 : decode cX5_spread 42 = .ok (.getfield 140, 3) := by decide +kernel
theorem dX5_spread_45 : decode cX5_spread 45 = .ok (.getfield 79, 3) := by decide +kernel
theorem dX5_spread_48 : decode cX5_spread 48 = .ok (.iconst 1, 1) := by decide +kernel
theorem dX5_spread_49 : decode cX5_spread 49 = .ok (.if_icmp .ne 29, 3) := by decide +kernel
theorem dX5_spread_52 : decode cX5_spread 52 = .ok (.aload 11, 2) := by decide +kernel
theorem dX5_spread_54 : decode cX5_spread 54 = .ok (.getfield 122, 3) := by decide +kernel
theorem dX5_spread_57 : decode cX5_spread 57 = .ok (.iload 9, 2) := by decide +kernel
theorem dX5_spread_59 : decode cX5_spread 59 = .ok (.invokevirtual 69, 3) := by decide +kernel
theorem dX5_spread_62 : decode cX5_spread 62 = .ok (.ifCond .eq 16, 3) := by decide +kernel
theorem dX5_spread_65 : decode cX5_spread 65 = .ok (.aload 11, 2) := by decide +kernel
theorem dX5_spread_67 : decode cX5_spread 67 = .ok (.getfield 122, 3) := by decide +kernel
theorem dX5_spread_70 : decode cX5_spread 70 = .ok (.iload 10, 2) := by decide +kernel
theorem dX5_spread_72 : decode cX5_spread 72 = .ok (.invokevirtual 69, 3) := by decide +kernel
theorem dX5_spread_75 : decode cX5_spread 75 = .ok (.ifCond .ne 5, 3) := by decide +kernel
theorem dX5_spread_78 : decode cX5_spread 78 = .ok (.iconst (-1), 1) := by decide +kernel
theorem dX5_spread_79 : decode cX5_spread 79 = .ok (.ireturn, 1) := by decide +kernel
theorem dX5_spread_80 : decode cX5_spread 80 = .ok (.aload_n 0, 1) := by decide +kernel
theorem dX5_spread_81 : decode cX5_spread 81 = .ok (.aload 11, 2) := by decide +kernel
theorem dX5_spread_83 : decode cX5_spread 83 = .ok (.invokevirtual 118, 3) := by decide +kernel
theorem dX5_spread_86 : decode cX5_spread 86 = .ok (.iconst 0, 1) := by decide +kernel
theorem dX5_spread_87 : decode cX5_spread 87 = .ok (.istore 12, 2) := by decide +kernel
theorem dX5_spread_89 : decode cX5_spread 89 = .ok (.iload 12, 2) := by decide +kernel
theorem dX5_spread_91 : decode cX5_spread 91 = .ok (.aload 11, 2) := by decide +kernel
theorem dX5_spread_93 : decode cX5_spread 93 = .ok (.getfield 126, 3) := by decide +kernel
theorem dX5_spread_96 : decode cX5_spread 96 = .ok (.invokevirtual 61, 3) := by decide +kernel
theorem dX5_spread_99 : decode cX5_spread 99 = .ok (.if_icmp .ge 33, 3) := by decide +kernel
theorem dX5_spread_102 : decode cX5_spread 102 = .ok (.aload_n 0, 1) := by decide +kernel
theorem dX5_spread_103 : decode cX5_spread 103 = .ok (.getfield 30, 3) := by decide +kernel
theorem dX5_spread_106 : decode cX5_spread 106 = .ok (.iload 12, 2) := by decide +kernel
theorem dX5_spread_108 : decode cX5_spread 108 = .ok (.aload_n 0, 1) := by decide +kernel
theorem dX5_spread_109 : decode cX5_spread 109 = .ok (.getfield 30, 3) := by decide +kernel
theorem dX5_spread_112 : decode cX5_spread 112 = .ok (.iload 12, 2) := by decide +kernel
theorem dX5_spread_114 : decode cX5_spread 114 = .ok (.iaload, 1) := by decide +kernel
theorem dX5_spread_115 : decode cX5_spread 115 = .ok (.ifCond .ne 8, 3) := by decide +kernel
theorem dX5_spread_118 : decode cX5_spread 118 = .ok (.iload 9, 2) := by decide +kernel
theorem dX5_spread_120 : decode cX5_spread 120 = .ok (.goto 5, 3) := by decide +kernel
theorem dX5_spread_123 : decode cX5_spread 123 = .ok (.iload 10, 2) := by decide +kernel
theorem dX5_spread_125 : decode cX5_spread 125 = .ok (.iastore, 1) := by decide +kernel
theorem dX5_spread_126 : decode cX5_spread 126 = .ok (.iinc 12 1, 3) := by decide +kernel
theorem dX5_spread_129 : decode cX5_spread 129 = .ok (.goto (-40), 3) := by decide +kernel
theorem dX5_spread_132 : decode cX5_spread 132 = .ok (.aload_n 0, 1) := by decide +kernel
theorem dX5_spread_133 : decode cX5_spread 133 = .ok (.aload 11, 2) := by decide +kernel
theorem dX5_spread_135 : decode cX5_spread 135 = .ok (.getfield 122, 3) := by decide +kernel
theorem dX5_spread_138 : decode cX5_spread 138 = .ok (.aload 11, 2) := by decide +kernel
theorem dX5_spread_140 : decode cX5_spread 140 = .ok (.getfield 126, 3) := by decide +kernel
theorem dX5_spread_143 : decode cX5_spread 143 = .ok (.bipush 12, 2) := by decide +kernel
theorem dX5_spread_145 : decode cX5_spread 145 = .ok (.invokevirtual 104, 3) := by decide +kernel
theorem dX5_spread_148 : decode cX5_spread 148 = .ok (.aload 11, 2) := by decide +kernel
theorem dX5_spread_150 : decode cX5_spread 150 = .ok (.getfield 126, 3) := by decide +kernel
theorem dX5_spread_153 : decode cX5_spread 153 = .ok (.invokevirtual 61, 3) := by decide +kernel
theorem dX5_spread_156 : decode cX5_spread 156 = .ok (.ireturn, 1) := by decide +kernel
set_option maxRecDepth 100000 in
theorem ggX5_turn_X5_surfaceAt : GoodIn wsX5_turn wsX5_surfaceAt := goodIn_r _ [5, 6, 7, 29, 30, 31, 32, 33] rfl (by decide +kernel)
set_option maxRecDepth 20000 in
theorem gX5_turn_X5_surfaceAt : GoodIn wsX5_turn (wsV RX5 41 RX5 yX5_surfaceAt wsX5_surfaceAt) := goodIn_app (goodIn_of _ (by decide +kernel)) ggX5_turn_X5_surfaceAt
set_option maxRecDepth 100000 in
theorem ggX5_turn_X3_swapLeftAndRight : GoodIn wsX5_turn wsX3_swapLeftAndRight := goodIn_r _ [12, 13, 14, 15, 16, 17, 18, 11, 19, 20, 21, 22, 23, 24, 34, 35, 36, 37, 38, 39, 40, 41, 42] rfl (by decide +kernel)
set_option maxRecDepth 20000 in
theorem gX5_turn_X3_swapLeftAndRight : GoodIn wsX5_turn (wsV RX5 143 RX3 yX3_swapLeftAndRight wsX3_swapLeftAndRight) := goodIn_app (goodIn_of _ (by decide +kernel)) ggX5_turn_X3_swapLeftAndRight
set_option maxRecDepth 100000 in
theorem ggX5_turn_X3_swapTopAndBottom : GoodIn wsX5_turn wsX3_swapTopAndBottom := goodIn_r _ [28, 13, 14, 15, 16, 17, 18, 11, 19, 20, 21, 22, 23, 24, 34, 35, 36, 37, 38, 39, 40, 41, 42] rfl (by decide +kernel)
set_option maxRecDepth 20000 in
theorem gX5_turn_X3_swapTopAndBottom : GoodIn wsX5_turn (wsV RX5 146 RX3 yX3_swapTopAndBottom wsX3_swapTopAndBottom) := goodIn_app (goodIn_of _ (by decide +kernel)) ggX5_turn_X3_swapTopAndBottom
theorem dX5_turn_0 : decode cX5_turn 0 = .ok (.aload_n 0, 1) := by decide +kernel
theorem dX5_turn_1 : decode cX5_turn 1 = .ok (.iload_n 1, 1) := by decide +kernel
theorem dX5_turn_2 : decode cX5_turn 2 = .ok (.invokevirtual 41, 3) := by decide +kernel
theorem dX5_turn_5 : decode cX5_turn 5 = .ok (.astore_n 3, 1) := by decide +kernel
theorem dX5_turn_6 : decode cX5_turn 6 = .ok (.aload_n 3, 1) := by decide +kernel
theorem dX5_turn_7 : decode cX5_turn 7 = .ok (.ifnull 12, 3) := by decide +kernel
theorem dX5_turn_10 : decode cX5_turn 10 = .ok (.iload_n 2, 1) := by decide +kernel
theorem dX5_turn_11 : decode cX5_turn 11 = .ok (.ifCond .lt 8, 3) := by decide +kernel
theorem dX5_turn_14 : decode cX5_turn 14 = .ok (.iload_n 2, 1) := by decide +kernel
theorem dX5_turn_15 : decode cX5_turn 15 = .ok (.iconst 1, 1) := by decide +kernel
theorem dX5_turn_16 : decode cX5_turn 16 = .ok (.if_icmp .le 5, 3) := by decide +kernel
theorem dX5_turn_19 : decode cX5_turn 19 = .ok (.iconst 0, 1) := by decide +kernel
theorem dX5_turn_20 : decode cX5_turn 20 = .ok (.ireturn, 1) := by decide +kernel
theorem dX5_turn_21 : decode cX5_turn 21 = .ok (.iload_n 2, 1) := by decide +kernel
theorem dX5_turn_22 : decode cX5_turn 22 = .ok (.ifCond .ne 10, 3) := by decide +kernel
theorem dX5_turn_25 : decode cX5_turn 25 = .ok (.aload_n 3, 1) := by decide +kernel
theorem dX5_turn_26 : decode cX5_turn 26 = .ok (.invokevirtual 143, 3) := by decide +kernel
theorem dX5_turn_29 : decode cX5_turn 29 = .ok (.goto 7, 3) := by decide +kernel
theorem dX5_turn_32 : decode cX5_turn 32 = .ok (.aload_n 3, 1) := by decide +kernel
theorem dX5_turn_33 : decode cX5_turn 33 = .ok (.invokevirtual 146, 3) := by decide +kernel
theorem dX5_turn_36 : decode cX5_turn 36 = .ok (.iconst 1, 1) := by decide +kernel
theorem dX5_turn_37 : decode cX5_turn 37 = .ok (.ireturn, 1) := by decide +kernel
set_option maxRecDepth 100000 in
theorem ggX5_count_X5_surfaceAt : GoodIn wsX5_count wsX5_surfaceAt := goodIn_r _ [6, 7, 8, 14, 15, 16, 17, 18] rfl (by decide +kernel)
set_option maxRecDepth 20000 in
theorem gX5_count_X5_surfaceAt : GoodIn wsX5_count (wsV RX5 41 RX5 yX5_surfaceAt wsX5_surfaceAt) := goodIn_app (goodIn_of _ (by decide +kernel)) ggX5_count_X5_surfaceAt
theorem dX5_count_0 : decode cX5_count 0 = .ok (.aload_n 0, 1) := by decide +kernel
theorem dX5_count_1 : decode cX5_count 1 = .ok (.iload_n 1, 1) := by decide +kernel
theorem dX5_count_2 : decode cX5_count 2 = .ok (.invokevirtual 41, 3) := by decide +kernel
theorem dX5_count_5 : decode cX5_count 5 = .ok (.astore_n 3, 1) := by decide +kernel
theorem dX5_count_6 : decode cX5_count 6 = .ok (.aload_n 3, 1) := by decide +kernel
theorem dX5_count_7 : decode cX5_count 7 = .ok (.ifnonnull 5, 3) := by decide +kernel
theorem dX5_count_10 : decode cX5_count 10 = .ok (.iconst (-1), 1) := by decide +kernel
theorem dX5_count_11 : decode cX5_count 11 = .ok (.ireturn, 1) := by decide +kernel
theorem dX5_count_12 : decode cX5_count 12 = .ok (.iconst 0, 1) := by decide +kernel
theorem dX5_count_13 : decode cX5_count 13 = .ok (.istore 4, 2) := by decide +kernel
theorem dX5_count_15 : decode cX5_count 15 = .ok (.aload_n 3, 1) := by decide +kernel
theorem dX5_count_16 : decode cX5_count 16 = .ok (.getfield 72, 3) := by decide +kernel
theorem dX5_count_19 : decode cX5_count 19 = .ok (.astore 5, 2) := by decide +kernel
theorem dX5_count_21 : decode cX5_count 21 = .ok (.aload 5, 2) := by decide +kernel
theorem dX5_count_23 : decode cX5_count 23 = .ok (.arraylength, 1) := by decide +kernel
theorem dX5_count_24 : decode cX5_count 24 = .ok (.istore 6, 2) := by decide +kernel
theorem dX5_count_26 : decode cX5_count 26 = .ok (.iconst 0, 1) := by decide +kernel
theorem dX5_count_27 : decode cX5_count 27 = .ok (.istore 7, 2) := by decide +kernel
theorem dX5_count_29 : decode cX5_count 29 = .ok (.iload 7, 2) := by decide +kernel
theorem dX5_count_31 : decode cX5_count 31 = .ok (.iload 6, 2) := by decide +kernel
theorem dX5_count_33 : decode cX5_count 33 = .ok (.if_icmp .ge 25, 3) := by decide +kernel
theorem dX5_count_36 : decode cX5_count 36 = .ok (.aload 5, 2) := by decide +kernel
theorem dX5_count_38 : decode cX5_count 38 = .ok (.iload 7, 2) := by decide +kernel
theorem dX5_count_40 : decode cX5_count 40 = .ok (.iaload, 1) := by decide +kernel
theorem dX5_count_41 : decode cX5_count 41 = .ok (.istore 8, 2) := by decide +kernel
theorem dX5_count_43 : decode cX5_count 43 = .ok (.iload 8, 2) := by decide +kernel
theorem dX5_count_45 : decode cX5_count 45 = .ok (.iload_n 2, 1) := by decide +kernel
theorem dX5_count_46 : decode cX5_count 46 = .ok (.if_icmp .ne 6, 3) := by decide +kernel
theorem dX5_count_49 : decode cX5_count 49 = .ok (.iinc 4 1, 3) := by decide +kernel
theorem dX5_count_52 : decode cX5_count 52 = .ok (.iinc 7 1, 3) := by decide +kernel
theorem dX5_count_55 : decode cX5_count 55 = .ok (.goto (-26), 3) := by decide +kernel
theorem dX5_count_58 : decode cX5_count 58 = .ok (.iload 4, 2) := by decide +kernel
theorem dX5_count_60 : decode cX5_count 60 = .ok (.ireturn, 1) := by decide +kernel
set_option maxRecDepth 100000 in
theorem ggX5_tell_X5_spriteAt : GoodIn wsX5_tell wsX5_spriteAt := goodIn_r _ [12, 6, 79, 80, 81, 82, 83] rfl (by decide +kernel)
set_option maxRecDepth 20000 in
theorem gX5_tell_X5_spriteAt : GoodIn wsX5_tell (wsV RX5 149 RX5 yX5_spriteAt wsX5_spriteAt) := goodIn_app (goodIn_of _ (by decide +kernel)) ggX5_tell_X5_spriteAt
set_option maxRecDepth 100000 in
theorem ggX5_tell_X5_surfaceAt : GoodIn wsX5_tell wsX5_surfaceAt := goodIn_r _ [16, 17, 18, 79, 80, 81, 82, 83] rfl (by decide +kernel)
set_option maxRecDepth 20000 in
theorem gX5_tell_X5_surfaceAt : GoodIn wsX5_tell (wsV RX5 41 RX5 yX5_surfaceAt wsX5_surfaceAt) := goodIn_app (goodIn_of _ (by decide +kernel)) ggX5_tell_X5_surfaceAt
set_option maxRecDepth 100000 in
theorem ggX5_tell_X2_empty : GoodIn wsX5_tell wsX2_empty := goodIn_r _ [23, 24, 25, 87, 88, 89] rfl (by decide +kernel)
set_option maxRecDepth 20000 in
theorem gX5_tell_X2_empty : GoodIn wsX5_tell (wsV RX5 153 RX2 yX2_empty wsX2_empty) := goodIn_app (goodIn_of _ (by decide +kernel)) ggX5_tell_X2_empty
set_option maxRecDepth 100000 in
theorem ggX5_tell_X4_init : GoodIn wsX5_tell wsX4_init := goodIn_r _ [28, 29, 30, 31, 32, 33, 34, 84, 85, 86] rfl (by decide +kernel)
set_option maxRecDepth 20000 in
theorem gX5_tell_X4_init : GoodIn wsX5_tell (wsX4_init) := ggX5_tell_X4_init
set_option maxRecDepth 100000 in
theorem ggX5_tell_X4_addRows : GoodIn wsX5_tell wsX4_addRows := goodIn_r _ [38, 32, 39, 40, 34, 41, 42, 43, 44, 45, 46, 47, 48, 49, 50, 4, 51, 52, 53, 54, 55, 56, 57, 33, 58, 59, 60, 61, 62, 63, 64, 65, 66, 67, 68, 69, 70, 71, 72, 73, 74, 75, 76, 22, 77, 24, 25, 78, 84, 85, 86, 90, 91, 92, 93, 94, 95, 96, 97, 98, 87, 88, 89] rfl (by decide +kernel)
set_option maxRecDepth 20000 in
theorem gX5_tell_X4_addRows : GoodIn wsX5_tell (wsV RX5 161 RX4 yX4_addRows wsX4_addRows) := goodIn_app (goodIn_of _ (by decide +kernel)) ggX5_tell_X4_addRows
theorem dX5_tell_0 : decode cX5_tell 0 = .ok (.aload_n 0, 1) := by decide +kernel
theorem dX5_tell_1 : decode cX5_tell 1 = .ok (.iload_n 1, 1) := by decide +kernel
theorem dX5_tell_2 : decode cX5_tell 2 = .ok (.invokevirtual 149, 3) := by decide +kernel
theorem dX5_tell_5 : decode cX5_tell 5 = .ok (.astore 4, 2) := by decide +kernel
theorem dX5_tell_7 : decode cX5_tell 7 = .ok (.aload_n 0, 1) := by decide +kernel
theorem dX5_tell_8 : decode cX5_tell 8 = .ok (.iload_n 2, 1) := by decide +kernel
theorem dX5_tell_9 : decode cX5_tell 9 = .ok (.invokevirtual 41, 3) := by decide +kernel
theorem dX5_tell_12 : decode cX5_tell 12 = .ok (.astore 5, 2) := by decide +kernel
theorem dX5_tell_14 : decode cX5_tell 14 = .ok (.aload 4, 2) := by decide +kernel
theorem dX5_tell_16 : decode cX5_tell 16 = .ok (.ifnull 8, 3) := by decide +kernel
theorem dX5_tell_19 : decode cX5_tell 19 = .ok (.aload 5, 2) := by decide +kernel
theorem dX5_tell_21 : decode cX5_tell 21 = .ok (.ifnonnull 5, 3) := by decide +kernel
theorem dX5_tell_24 : decode cX5_tell 24 = .ok (.iconst (-1), 1) := by decide +kernel
theorem dX5_tell_25 : decode cX5_tell 25 = .ok (.ireturn, 1) := by decide +kernel
theorem dX5_tell_26 : decode cX5_tell 26 = .ok (.aload_n 0, 1) := by decide +kernel
theorem dX5_tell_27 : decode cX5_tell 27 = .ok (.getfield 26, 3) := by decide +kernel
theorem dX5_tell_30 : decode cX5_tell 30 = .ok (.invokevirtual 153, 3) := by decide +kernel
theorem dX5_tell_33 : decode cX5_tell 33 = .ok (.new 156, 3) := by decide +kernel
theorem dX5_tell_36 : decode cX5_tell 36 = .ok (.dup, 1) := by decide +kernel
theorem dX5_tell_37 : decode cX5_tell 37 = .ok (.aload 5, 2) := by decide +kernel
theorem dX5_tell_39 : decode cX5_tell 39 = .ok (.iload_n 3, 1) := by decide +kernel
theorem dX5_tell_40 : decode cX5_tell 40 = .ok (.aload_n 0, 1) := by decide +kernel
theorem dX5_tell_41 : decode cX5_tell 41 = .ok (.getfield 26, 3) := by decide +kernel
theorem dX5_tell_44 : decode cX5_tell 44 = .ok (.invokespecial 158, 3) := by decide +kernel
theorem dX5_tell_47 : decode cX5_tell 47 = .ok (.invokevirtual 161, 3) := by decide +kernel
theorem dX5_tell_50 : decode cX5_tell 50 = .ok (.aload_n 0, 1) := by decide +kernel
theorem dX5_tell_51 : decode cX5_tell 51 = .ok (.getfield 26, 3) := by decide +kernel
theorem dX5_tell_54 : decode cX5_tell 54 = .ok (.getfield 164, 3) := by decide +kernel
theorem dX5_tell_57 : decode cX5_tell 57 = .ok (.ifCond .eq 5, 3) := by decide +kernel
theorem dX5_tell_60 : decode cX5_tell 60 = .ok (.iconst (-1), 1) := by decide +kernel
theorem dX5_tell_61 : decode cX5_tell 61 = .ok (.ireturn, 1) := by decide +kernel
theorem dX5_tell_62 : decode cX5_tell 62 = .ok (.aload_n 0, 1) := by decide +kernel
theorem dX5_tell_63 : decode cX5_tell 63 = .ok (.getfield 21, 3) := by decide +kernel
theorem dX5_tell_66 : decode cX5_tell 66 = .ok (.iload_n 1, 1) := by decide +kernel
theorem dX5_tell_67 : decode cX5_tell 67 = .ok (.aload_n 0, 1) := by decide +kernel
theorem dX5_tell_68 : decode cX5_tell 68 = .ok (.getfield 26, 3) := by decide +kernel
theorem dX5_tell_71 : decode cX5_tell 71 = .ok (.aastore, 1) := by decide +kernel
theorem dX5_tell_72 : decode cX5_tell 72 = .ok (.aload_n 0, 1) := by decide +kernel
theorem dX5_tell_73 : decode cX5_tell 73 = .ok (.aload 4, 2) := by decide +kernel
theorem dX5_tell_75 : decode cX5_tell 75 = .ok (.putfield 26, 3) := by decide +kernel
theorem dX5_tell_78 : decode cX5_tell 78 = .ok (.aload_n 0, 1) := by decide +kernel
theorem dX5_tell_79 : decode cX5_tell 79 = .ok (.getfield 21, 3) := by decide +kernel
theorem dX5_tell_82 : decode cX5_tell 82 = .ok (.iload_n 1, 1) := by decide +kernel
theorem dX5_tell_83 : decode cX5_tell 83 = .ok (.aaload, 1) := by decide +kernel
theorem dX5_tell_84 : decode cX5_tell 84 = .ok (.getfield 168, 3) := by decide +kernel
theorem dX5_tell_87 : decode cX5_tell 87 = .ok (.ireturn, 1) := by decide +kernel
set_option maxRecDepth 100000 in
theorem ggX5_load_X5_spriteAt : GoodIn wsX5_load wsX5_spriteAt := goodIn_r _ [6, 7, 19, 20, 21, 22, 23] rfl (by decide +kernel)
set_option maxRecDepth 20000 in
theorem gX5_load_X5_spriteAt : GoodIn wsX5_load (wsV RX5 149 RX5 yX5_spriteAt wsX5_spriteAt) := goodIn_app (goodIn_of _ (by decide +kernel)) ggX5_load_X5_spriteAt
set_option maxRecDepth 100000 in
theorem ggX5_load_X2_append : GoodIn wsX5_load wsX2_append := goodIn_r _ [12, 13, 14, 15, 16, 17, 18] rfl (by decide +kernel)
set_option maxRecDepth 20000 in
theorem gX5_load_X2_append : GoodIn wsX5_load (wsV RX5 170 RX2 yX2_append wsX2_append) := goodIn_app (goodIn_of _ (by decide +kernel)) ggX5_load_X2_append
theorem dX5_load_0 : decode cX5_load 0 = .ok (.aload_n 0, 1) := by decide +kernel
theorem dX5_load_1 : decode cX5_load 1 = .ok (.iload_n 1, 1) := by decide +kernel
theorem dX5_load_2 : decode cX5_load 2 = .ok (.invokevirtual 149, 3) := by decide +kernel
theorem dX5_load_5 : decode cX5_load 5 = .ok (.astore 5, 2) := by decide +kernel
theorem dX5_load_7 : decode cX5_load 7 = .ok (.aload 5, 2) := by decide +kernel
theorem dX5_load_9 : decode cX5_load 9 = .ok (.ifnull 30, 3) := by decide +kernel
theorem dX5_load_12 : decode cX5_load 12 = .ok (.iload 4, 2) := by decide +kernel
theorem dX5_load_14 : decode cX5_load 14 = .ok (.iconst 1, 1) := by decide +kernel
theorem dX5_load_15 : decode cX5_load 15 = .ok (.if_icmp .lt 24, 3) := by decide +kernel
theorem dX5_load_18 : decode cX5_load 18 = .ok (.iload 4, 2) := by decide +kernel
theorem dX5_load_20 : decode cX5_load 20 = .ok (.bipush 8, 2) := by decide +kernel
theorem dX5_load_22 : decode cX5_load 22 = .ok (.if_icmp .gt 17, 3) := by decide +kernel
theorem dX5_load_25 : decode cX5_load 25 = .ok (.aload 5, 2) := by decide +kernel
theorem dX5_load_27 : decode cX5_load 27 = .ok (.getfield 168, 3) := by decide +kernel
theorem dX5_load_30 : decode cX5_load 30 = .ok (.iload 4, 2) := by decide +kernel
theorem dX5_load_32 : decode cX5_load 32 = .ok (.iadd, 1) := by decide +kernel
theorem dX5_load_33 : decode cX5_load 33 = .ok (.sipush 5000, 3) := by decide +kernel
theorem dX5_load_36 : decode cX5_load 36 = .ok (.if_icmp .le 5, 3) := by decide +kernel
theorem dX5_load_39 : decode cX5_load 39 = .ok (.iconst (-1), 1) := by decide +kernel
theorem dX5_load_40 : decode cX5_load 40 = .ok (.ireturn, 1) := by decide +kernel
theorem dX5_load_41 : decode cX5_load 41 = .ok (.iload 4, 2) := by decide +kernel
theorem dX5_load_43 : decode cX5_load 43 = .ok (.iconst 1, 1) := by decide +kernel
theorem dX5_load_44 : decode cX5_load 44 = .ok (.isub, 1) := by decide +kernel
theorem dX5_load_45 : decode cX5_load 45 = .ok (.istore 6, 2) := by decide +kernel
theorem dX5_load_47 : decode cX5_load 47 = .ok (.iload 6, 2) := by decide +kernel
theorem dX5_load_49 : decode cX5_load 49 = .ok (.ifCond .lt 26, 3) := by decide +kernel
theorem dX5_load_52 : decode cX5_load 52 = .ok (.aload 5, 2) := by decide +kernel
theorem dX5_load_54 : decode cX5_load 54 = .ok (.lload_n 2, 1) := by decide +kernel
theorem dX5_load_55 : decode cX5_load 55 = .ok (.bipush 8, 2) := by decide +kernel
theorem dX5_load_57 : decode cX5_load 57 = .ok (.iload 6, 2) := by decide +kernel
theorem dX5_load_59 : decode cX5_load 59 = .ok (.imul, 1) := by decide +kernel
theorem dX5_load_60 : decode cX5_load 60 = .ok (.lushr, 1) := by decide +kernel
theorem dX5_load_61 : decode cX5_load 61 = .ok (.l2i, 1) := by decide +kernel
theorem dX5_load_62 : decode cX5_load 62 = .ok (.sipush 255, 3) := by decide +kernel
theorem dX5_load_65 : decode cX5_load 65 = .ok (.iand, 1) := by decide +kernel
theorem dX5_load_66 : decode cX5_load 66 = .ok (.invokevirtual 170, 3) := by decide +kernel
theorem dX5_load_69 : decode cX5_load 69 = .ok (.iinc 6 (-1), 3) := by decide +kernel
theorem dX5_load_72 : decode cX5_load 72 = .ok (.goto (-25), 3) := by decide +kernel
theorem dX5_load_75 : decode cX5_load 75 = .ok (.aload 5, 2) := by decide +kernel
theorem dX5_load_77 : decode cX5_load 77 = .ok (.getfield 168, 3) := by decide +kernel
theorem dX5_load_80 : decode cX5_load 80 = .ok (.ireturn, 1) := by decide +kernel
set_option maxRecDepth 100000 in
theorem ggX5_forget_X5_spriteAt : GoodIn wsX5_forget wsX5_spriteAt := goodIn_r _ [6, 7, 18, 19, 20, 21, 22] rfl (by decide +kernel)
set_option maxRecDepth 20000 in
theorem gX5_forget_X5_spriteAt : GoodIn wsX5_forget (wsV RX5 149 RX5 yX5_spriteAt wsX5_spriteAt) := goodIn_app (goodIn_of _ (by decide +kernel)) ggX5_forget_X5_spriteAt
set_option maxRecDepth 100000 in
theorem ggX5_forget_X2_empty : GoodIn wsX5_forget wsX2_empty := goodIn_r _ [12, 13, 14, 15, 16, 17] rfl (by decide +kernel)
set_option maxRecDepth 20000 in
theorem gX5_forget_X2_empty : GoodIn wsX5_forget (wsV RX5 153 RX2 yX2_empty wsX2_empty) := goodIn_app (goodIn_of _ (by decide +kernel)) ggX5_forget_X2_empty
theorem dX5_forget_0 : decode cX5_forget 0 = .ok (.aload_n 0, 1) := by decide +kernel
theorem dX5_forget_1 : decode cX5_forget 1 = .ok (.iload_n 1, 1) := by decide +kernel
theorem dX5_forget_2 : decode cX5_forget 2 = .ok (.invokevirtual 149, 3) := by decide +kernel
theorem dX5_forget_5 : decode cX5_forget 5 = .ok (.astore_n 2, 1) := by decide +kernel
theorem dX5_forget_6 : decode cX5_forget 6 = .ok (.aload_n 2, 1) := by decide +kernel
theorem dX5_forget_7 : decode cX5_forget 7 = .ok (.ifnonnull 5, 3) := by decide +kernel
theorem dX5_forget_10 : decode cX5_forget 10 = .ok (.iconst (-1), 1) := by decide +kernel
theorem dX5_forget_11 : decode cX5_forget 11 = .ok (.ireturn, 1) := by decide +kernel
theorem dX5_forget_12 : decode cX5_forget 12 = .ok (.aload_n 2, 1) := by decide +kernel
theorem dX5_forget_13 : decode cX5_forget 13 = .ok (.getfield 168, 3) := by decide +kernel
theorem dX5_forget_16 : decode cX5_forget 16 = .ok (.istore_n 3, 1) := by decide +kernel
theorem dX5_forget_17 : decode cX5_forget 17 = .ok (.aload_n 2, 1) := by decide +kernel
theorem dX5_forget_18 : decode cX5_forget 18 = .ok (.invokevirtual 153, 3) := by decide +kernel
theorem dX5_forget_21 : decode cX5_forget 21 = .ok (.iload_n 3, 1) := by decide +kernel
theorem dX5_forget_22 : decode cX5_forget 22 = .ok (.ireturn, 1) := by decide +kernel
set_option maxRecDepth 100000 in
theorem ggX5_part_X5_spriteAt : GoodIn wsX5_part wsX5_spriteAt := goodIn_r _ [7, 8, 12, 13, 14, 15, 16] rfl (by decide +kernel)
set_option maxRecDepth 20000 in
theorem gX5_part_X5_spriteAt : GoodIn wsX5_part (wsV RX5 149 RX5 yX5_spriteAt wsX5_spriteAt) := goodIn_app (goodIn_of _ (by decide +kernel)) ggX5_part_X5_spriteAt
theorem dX5_part_0 : decode cX5_part 0 = .ok (.aload_n 0, 1) := by decide +kernel
theorem dX5_part_1 : decode cX5_part 1 = .ok (.iload_n 1, 1) := by decide +kernel
theorem dX5_part_2 : decode cX5_part 2 = .ok (.invokevirtual 149, 3) := by decide +kernel
theorem dX5_part_5 : decode cX5_part 5 = .ok (.astore_n 3, 1) := by decide +kernel
theorem dX5_part_6 : decode cX5_part 6 = .ok (.aload_n 3, 1) := by decide +kernel
theorem dX5_part_7 : decode cX5_part 7 = .ok (.ifnull 15, 3) := by decide +kernel
theorem dX5_part_10 : decode cX5_part 10 = .ok (.iload_n 2, 1) := by decide +kernel
theorem dX5_part_11 : decode cX5_part 11 = .ok (.ifCond .lt 11, 3) := by decide +kernel
theorem dX5_part_14 : decode cX5_part 14 = .ok (.iload_n 2, 1) := by decide +kernel
theorem dX5_part_15 : decode cX5_part 15 = .ok (.aload_n 3, 1) := by decide +kernel
theorem dX5_part_16 : decode cX5_part 16 = .ok (.getfield 168, 3) := by decide +kernel
theorem dX5_part_19 : decode cX5_part 19 = .ok (.if_icmp .lt 5, 3) := by decide +kernel
theorem dX5_part_22 : decode cX5_part 22 = .ok (.iconst (-1), 1) := by decide +kernel
theorem dX5_part_23 : decode cX5_part 23 = .ok (.ireturn, 1) := by decide +kernel
theorem dX5_part_24 : decode cX5_part 24 = .ok (.aload_n 3, 1) := by decide +kernel
theorem dX5_part_25 : decode cX5_part 25 = .ok (.getfield 174, 3) := by decide +kernel
theorem dX5_part_28 : decode cX5_part 28 = .ok (.iload_n 2, 1) := by decide +kernel
theorem dX5_part_29 : decode cX5_part 29 = .ok (.iaload, 1) := by decide +kernel
theorem dX5_part_30 : decode cX5_part 30 = .ok (.ireturn, 1) := by decide +kernel
set_option maxRecDepth 100000 in
theorem ggX5_draw_X5_spriteAt : GoodIn wsX5_draw wsX5_spriteAt := goodIn_r _ [6, 7, 64, 65, 66, 67, 68] rfl (by decide +kernel)
set_option maxRecDepth 20000 in
theorem gX5_draw_X5_spriteAt : GoodIn wsX5_draw (wsV RX5 149 RX5 yX5_spriteAt wsX5_spriteAt) := goodIn_app (goodIn_of _ (by decide +kernel)) ggX5_draw_X5_spriteAt
set_option maxRecDepth 100000 in
theorem ggX5_draw_X5_surfaceAt : GoodIn wsX5_draw wsX5_surfaceAt := goodIn_r _ [11, 12, 13, 64, 65, 66, 67, 68] rfl (by decide +kernel)
set_option maxRecDepth 20000 in
theorem gX5_draw_X5_surfaceAt : GoodIn wsX5_draw (wsV RX5 41 RX5 yX5_surfaceAt wsX5_surfaceAt) := goodIn_app (goodIn_of _ (by decide +kernel)) ggX5_draw_X5_surfaceAt
set_option maxRecDepth 100000 in
theorem ggX5_draw_X2_firstWrong : GoodIn wsX5_draw wsX2_firstWrong := goodIn_r _ [18, 19, 20, 21, 22, 17, 23, 24, 25, 26, 27, 28, 29, 69, 70, 71] rfl (by decide +kernel)
set_option maxRecDepth 20000 in
theorem gX5_draw_X2_firstWrong : GoodIn wsX5_draw (wsV RX5 180 RX2 yX2_firstWrong wsX2_firstWrong) := goodIn_app (goodIn_of _ (by decide +kernel)) ggX5_draw_X2_firstWrong
set_option maxRecDepth 100000 in
theorem ggX5_draw_X2_paint : GoodIn wsX5_draw wsX2_paint := goodIn_r _ [33, 19, 20, 34, 35, 17, 36, 37, 38, 39, 40, 41, 42, 43, 44, 45, 46, 47, 48, 49, 50, 51, 52, 53, 54, 55, 56, 57, 58, 27, 28, 29, 21, 22, 23, 69, 70, 71, 59, 60, 61, 62, 63, 72, 73, 74, 75] rfl (by decide +kernel)
set_option maxRecDepth 20000 in
theorem gX5_draw_X2_paint : GoodIn wsX5_draw (wsV RX5 184 RX2 yX2_paint wsX2_paint) := goodIn_app (goodIn_of _ (by decide +kernel)) ggX5_draw_X2_paint
theorem dX5_draw_0 : decode cX5_draw 0 = .ok (.aload_n 0, 1) := by decide +kernel
theorem dX5_draw_1 : decode cX5_draw 1 = .ok (.iload_n 1, 1) := by decide +kernel
theorem dX5_draw_2 : decode cX5_draw 2 = .ok (.invokevirtual 149, 3) := by decide +kernel
theorem dX5_draw_5 : decode cX5_draw 5 = .ok (.astore 5, 2) := by decide +kernel
theorem dX5_draw_7 : decode cX5_draw 7 = .ok (.aload_n 0, 1) := by decide +kernel
theorem dX5_draw_8 : decode cX5_draw 8 = .ok (.iload_n 2, 1) := by decide +kernel
theorem dX5_draw_9 : decode cX5_draw 9 = .ok (.invokevirtual 41, 3) := by decide +kernel
theorem dX5_draw_12 : decode cX5_draw 12 = .ok (.astore 6, 2) := by decide +kernel
theorem dX5_draw_14 : decode cX5_draw 14 = .ok (.aload 5, 2) := by decide +kernel
theorem dX5_draw_16 : decode cX5_draw 16 = .ok (.ifnull 8, 3) := by decide +kernel
theorem dX5_draw_19 : decode cX5_draw 19 = .ok (.aload 6, 2) := by decide +kernel
theorem dX5_draw_21 : decode cX5_draw 21 = .ok (.ifnonnull 5, 3) := by decide +kernel
theorem dX5_draw_24 : decode cX5_draw 24 = .ok (.iconst (-1), 1) := by decide +kernel
theorem dX5_draw_25 : decode cX5_draw 25 = .ok (.ireturn, 1) := by decide +kernel
theorem dX5_draw_26 : decode cX5_draw 26 = .ok (.aload 5, 2) := by decide +kernel
theorem dX5_draw_28 : decode cX5_draw 28 = .ok (.aload 6, 2) := by decide +kernel
theorem dX5_draw_30 : decode cX5_draw 30 = .ok (.getfield 177, 3) := by decide +kernel
theorem dX5_draw_33 : decode cX5_draw 33 = .ok (.invokevirtual 180, 3) := by decide +kernel
theorem dX5_draw_36 : decode cX5_draw 36 = .ok (.istore 7, 2) := by decide +kernel
theorem dX5_draw_38 : decode cX5_draw 38 = .ok (.iload 7, 2) := by decide +kernel
theorem dX5_draw_40 : decode cX5_draw 40 = .ok (.ifCond .ne 13, 3) := by decide +kernel
theorem dX5_draw_43 : decode cX5_draw 43 = .ok (.aload 5, 2) := by decide +kernel
theorem dX5_draw_45 : decode cX5_draw 45 = .ok (.aload 6, 2) := by decide +kernel
theorem dX5_draw_47 : decode cX5_draw 47 = .ok (.iload_n 3, 1) := by decide +kernel
theorem dX5_draw_48 : decode cX5_draw 48 = .ok (.iload 4, 2) := by decide +kernel
theorem dX5_draw_50 : decode cX5_draw 50 = .ok (.invokevirtual 184, 3) := by decide +kernel
theorem dX5_draw_53 : decode cX5_draw 53 = .ok (.iload 7, 2) := by decide +kernel
theorem dX5_draw_55 : decode cX5_draw 55 = .ok (.ireturn, 1) := by decide +kernel
set_option maxRecDepth 100000 in
theorem ggX5_check_X3_isSound : GoodIn wsX5_check wsX3_isSound := goodIn_r _ [7, 8, 9, 10, 11, 12, 13, 14, 15, 16, 17, 6, 18, 19, 25, 26, 27, 28, 29, 30, 31, 32, 33] rfl (by decide +kernel)
set_option maxRecDepth 20000 in
theorem gX5_check_X3_isSound : GoodIn wsX5_check (wsV RX5 188 RX3 yX3_isSound wsX3_isSound) := goodIn_app (goodIn_of _ (by decide +kernel)) ggX5_check_X3_isSound
theorem dX5_check_0 : decode cX5_check 0 = .ok (.iconst 0, 1) := by decide +kernel
theorem dX5_check_1 : decode cX5_check 1 = .ok (.istore_n 1, 1) := by decide +kernel
theorem dX5_check_2 : decode cX5_check 2 = .ok (.iload_n 1, 1) := by decide +kernel
theorem dX5_check_3 : decode cX5_check 3 = .ok (.aload_n 0, 1) := by decide +kernel
theorem dX5_check_4 : decode cX5_check 4 = .ok (.getfield 15, 3) := by decide +kernel
theorem dX5_check_7 : decode cX5_check 7 = .ok (.if_icmp .ge 23, 3) := by decide +kernel
theorem dX5_check_10 : decode cX5_check 10 = .ok (.aload_n 0, 1) := by decide +kernel
theorem dX5_check_11 : decode cX5_check 11 = .ok (.getfield 11, 3) := by decide +kernel
theorem dX5_check_14 : decode cX5_check 14 = .ok (.iload_n 1, 1) := by decide +kernel
theorem dX5_check_15 : decode cX5_check 15 = .ok (.aaload, 1) := by decide +kernel
theorem dX5_check_16 : decode cX5_check 16 = .ok (.invokevirtual 188, 3) := by decide +kernel
theorem dX5_check_19 : decode cX5_check 19 = .ok (.ifCond .ne 5, 3) := by decide +kernel
theorem dX5_check_22 : decode cX5_check 22 = .ok (.iconst 0, 1) := by decide +kernel
theorem dX5_check_23 : decode cX5_check 23 = .ok (.ireturn, 1) := by decide +kernel
theorem dX5_check_24 : decode cX5_check 24 = .ok (.iinc 1 1, 3) := by decide +kernel
theorem dX5_check_27 : decode cX5_check 27 = .ok (.goto (-25), 3) := by decide +kernel
theorem dX5_check_30 : decode cX5_check 30 = .ok (.iconst 1, 1) := by decide +kernel
theorem dX5_check_31 : decode cX5_check 31 = .ok (.ireturn, 1) := by decide +kernel
theorem dX5_surfaceAt_0 : decode cX5_surfaceAt 0 = .ok (.iload_n 1, 1) := by decide +kernel
theorem dX5_surfaceAt_1 : decode cX5_surfaceAt 1 = .ok (.ifCond .lt 20, 3) := by decide +kernel
theorem dX5_surfaceAt_4 : decode cX5_surfaceAt 4 = .ok (.iload_n 1, 1) := by decide +kernel
theorem dX5_surfaceAt_5 : decode cX5_surfaceAt 5 = .ok (.aload_n 0, 1) := by decide +kernel
theorem dX5_surfaceAt_6 : decode cX5_surfaceAt 6 = .ok (.getfield 15, 3) := by decide +kernel
theorem dX5_surfaceAt_9 : decode cX5_surfaceAt 9 = .ok (.if_icmp .ge 12, 3) := by decide +kernel
theorem dX5_surfaceAt_12 : decode cX5_surfaceAt 12 = .ok (.aload_n 0, 1) := by decide +kernel
theorem dX5_surfaceAt_13 : decode cX5_surfaceAt 13 = .ok (.getfield 11, 3) := by decide +kernel
theorem dX5_surfaceAt_16 : decode cX5_surfaceAt 16 = .ok (.iload_n 1, 1) := by decide +kernel
theorem dX5_surfaceAt_17 : decode cX5_surfaceAt 17 = .ok (.aaload, 1) := by decide +kernel
theorem dX5_surfaceAt_18 : decode cX5_surfaceAt 18 = .ok (.goto 4, 3) := by decide +kernel
theorem dX5_surfaceAt_21 : decode cX5_surfaceAt 21 = .ok (.aconst_null, 1) := by decide +kernel
theorem dX5_surfaceAt_22 : decode cX5_surfaceAt 22 = .ok (.areturn, 1) := by decide +kernel
theorem dX5_spriteAt_0 : decode cX5_spriteAt 0 = .ok (.iload_n 1, 1) := by decide +kernel
theorem dX5_spriteAt_1 : decode cX5_spriteAt 1 = .ok (.ifCond .lt 17, 3) := by decide +kernel
theorem dX5_spriteAt_4 : decode cX5_spriteAt 4 = .ok (.iload_n 1, 1) := by decide +kernel
theorem dX5_spriteAt_5 : decode cX5_spriteAt 5 = .ok (.iconst 4, 1) := by decide +kernel
theorem dX5_spriteAt_6 : decode cX5_spriteAt 6 = .ok (.if_icmp .ge 12, 3) := by decide +kernel
theorem dX5_spriteAt_9 : decode cX5_spriteAt 9 = .ok (.aload_n 0, 1) := by decide +kernel
theorem dX5_spriteAt_10 : decode cX5_spriteAt 10 = .ok (.getfield 21, 3) := by decide +kernel
theorem dX5_spriteAt_13 : decode cX5_spriteAt 13 = .ok (.iload_n 1, 1) := by decide +kernel
theorem dX5_spriteAt_14 : decode cX5_spriteAt 14 = .ok (.aaload, 1) := by decide +kernel
theorem dX5_spriteAt_15 : decode cX5_spriteAt 15 = .ok (.goto 4, 3) := by decide +kernel
theorem dX5_spriteAt_18 : decode cX5_spriteAt 18 = .ok (.aconst_null, 1) := by decide +kernel
theorem dX5_spriteAt_19 : decode cX5_spriteAt 19 = .ok (.areturn, 1) := by decide +kernel
theorem dX5_isSide_0 : decode cX5_isSide 0 = .ok (.iload_n 0, 1) := by decide +kernel
theorem dX5_isSide_1 : decode cX5_isSide 1 = .ok (.ifCond .lt 13, 3) := by decide +kernel
theorem dX5_isSide_4 : decode cX5_isSide 4 = .ok (.iload_n 0, 1) := by decide +kernel
theorem dX5_isSide_5 : decode cX5_isSide 5 = .ok (.bipush 64, 2) := by decide +kernel
theorem dX5_isSide_7 : decode cX5_isSide 7 = .ok (.if_icmp .gt 7, 3) := by decide +kernel
theorem dX5_isSide_10 : decode cX5_isSide 10 = .ok (.iconst 1, 1) := by decide +kernel
theorem dX5_isSide_11 : decode cX5_isSide 11 = .ok (.goto 4, 3) := by decide +kernel
theorem dX5_isSide_14 : decode cX5_isSide 14 = .ok (.iconst 0, 1) := by decide +kernel
theorem dX5_isSide_15 : decode cX5_isSide 15 = .ok (.ireturn, 1) := by decide +kernel
theorem dX5_isOperation_0 : decode cX5_isOperation 0 = .ok (.iload_n 0, 1) := by decide +kernel
theorem dX5_isOperation_1 : decode cX5_isOperation 1 = .ok (.ifCond .lt 13, 3) := by decide +kernel
theorem dX5_isOperation_4 : decode cX5_isOperation 4 = .ok (.iload_n 0, 1) := by decide +kernel
theorem dX5_isOperation_5 : decode cX5_isOperation 5 = .ok (.bipush 15, 2) := by decide +kernel
theorem dX5_isOperation_7 : decode cX5_isOperation 7 = .ok (.if_icmp .gt 7, 3) := by decide +kernel
theorem dX5_isOperation_10 : decode cX5_isOperation 10 = .ok (.iconst 1, 1) := by decide +kernel
theorem dX5_isOperation_11 : decode cX5_isOperation 11 = .ok (.goto 4, 3) := by decide +kernel
theorem dX5_isOperation_14 : decode cX5_isOperation 14 = .ok (.iconst 0, 1) := by decide +kernel
theorem dX5_isOperation_15 : decode cX5_isOperation 15 = .ok (.ireturn, 1) := by decide +kernel
set_option maxRecDepth 100000 in
theorem ggX5_moveOf_X5_isSide : GoodIn wsX5_moveOf wsX5_isSide := goodIn_r _ [9] rfl (by decide +kernel)
set_option maxRecDepth 20000 in
theorem gX5_moveOf_X5_isSide : GoodIn wsX5_moveOf (va_wsS RX5 34 yX5_isSide wsX5_isSide) := goodIn_app (goodIn_of _ (by decide +kernel)) ggX5_moveOf_X5_isSide
set_option maxRecDepth 100000 in
theorem ggX5_moveOf_X1_init : GoodIn wsX5_moveOf wsX1_init := goodIn_r _ [12, 13, 14, 15, 16, 17, 18, 19, 20, 21, 22, 23, 24, 25, 26, 27, 28, 29, 30, 31, 32, 33, 34, 35, 36, 37, 38, 39, 40, 41, 42, 43, 44, 45, 46, 47, 48, 49, 50, 51, 52, 53, 54, 55, 56, 57, 58, 59, 60, 61, 62] rfl (by decide +kernel)
set_option maxRecDepth 20000 in
theorem gX5_moveOf_X1_init : GoodIn wsX5_moveOf (wsX1_init) := ggX5_moveOf_X1_init
theorem dX5_moveOf_0 : decode cX5_moveOf 0 = .ok (.aload_n 0, 1) := by decide +kernel
theorem dX5_moveOf_1 : decode cX5_moveOf 1 = .ok (.ifnull 27, 3) := by decide +kernel
theorem dX5_moveOf_4 : decode cX5_moveOf 4 = .ok (.aload_n 2, 1) := by decide +kernel
theorem dX5_moveOf_5 : decode cX5_moveOf 5 = .ok (.ifnull 23, 3) := by decide +kernel
theorem dX5_moveOf_8 : decode cX5_moveOf 8 = .ok (.aload_n 1, 1) := by decide +kernel
theorem dX5_moveOf_9 : decode cX5_moveOf 9 = .ok (.getfield 82, 3) := by decide +kernel
theorem dX5_moveOf_12 : decode cX5_moveOf 12 = .ok (.invokestatic 34, 3) := by decide +kernel
theorem dX5_moveOf_15 : decode cX5_moveOf 15 = .ok (.ifCond .eq 13, 3) := by decide +kernel
theorem dX5_moveOf_18 : decode cX5_moveOf 18 = .ok (.aload_n 1, 1) := by decide +kernel
theorem dX5_moveOf_19 : decode cX5_moveOf 19 = .ok (.getfield 85, 3) := by decide +kernel
theorem dX5_moveOf_22 : decode cX5_moveOf 22 = .ok (.invokestatic 34, 3) := by decide +kernel
theorem dX5_moveOf_25 : decode cX5_moveOf 25 = .ok (.ifCond .ne 5, 3) := by decide +kernel
theorem dX5_moveOf_28 : decode cX5_moveOf 28 = .ok (.aconst_null, 1) := by decide +kernel
theorem dX5_moveOf_29 : decode cX5_moveOf 29 = .ok (.areturn, 1) := by decide +kernel
theorem dX5_moveOf_30 : decode cX5_moveOf 30 = .ok (.new 113, 3) := by decide +kernel
theorem dX5_moveOf_33 : decode cX5_moveOf 33 = .ok (.dup, 1) := by decide +kernel
theorem dX5_moveOf_34 : decode cX5_moveOf 34 = .ok (.aload_n 0, 1) := by decide +kernel
theorem dX5_moveOf_35 : decode cX5_moveOf 35 = .ok (.aload_n 1, 1) := by decide +kernel
theorem dX5_moveOf_36 : decode cX5_moveOf 36 = .ok (.aload_n 2, 1) := by decide +kernel
theorem dX5_moveOf_37 : decode cX5_moveOf 37 = .ok (.iload_n 3, 1) := by decide +kernel
theorem dX5_moveOf_38 : decode cX5_moveOf 38 = .ok (.iload 4, 2) := by decide +kernel
theorem dX5_moveOf_40 : decode cX5_moveOf 40 = .ok (.invokespecial 191, 3) := by decide +kernel
theorem dX5_moveOf_43 : decode cX5_moveOf 43 = .ok (.areturn, 1) := by decide +kernel
set_option maxRecDepth 100000 in
theorem ggX5_takeDots_X3_indexOf : GoodIn wsX5_takeDots wsX3_indexOf := goodIn_r _ [17, 18, 19, 28, 29, 30, 31, 32, 24, 25, 26, 27] rfl (by decide +kernel)
set_option maxRecDepth 20000 in
theorem gX5_takeDots_X3_indexOf : GoodIn wsX5_takeDots (wsV RX5 75 RX3 yX3_indexOf wsX3_indexOf) := goodIn_app (goodIn_of _ (by decide +kernel)) ggX5_takeDots_X3_indexOf
theorem dX5_takeDots_0 : decode cX5_takeDots 0 = .ok (.aload_n 1, 1) := by decide +kernel
theorem dX5_takeDots_1 : decode cX5_takeDots 1 = .ok (.getfield 133, 3) := by decide +kernel
theorem dX5_takeDots_4 : decode cX5_takeDots 4 = .ok (.astore_n 2, 1) := by decide +kernel
theorem dX5_takeDots_5 : decode cX5_takeDots 5 = .ok (.iconst 0, 1) := by decide +kernel
theorem dX5_takeDots_6 : decode cX5_takeDots 6 = .ok (.istore_n 3, 1) := by decide +kernel
theorem dX5_takeDots_7 : decode cX5_takeDots 7 = .ok (.iload_n 3, 1) := by decide +kernel
theorem dX5_takeDots_8 : decode cX5_takeDots 8 = .ok (.aload_n 2, 1) := by decide +kernel
theorem dX5_takeDots_9 : decode cX5_takeDots 9 = .ok (.getfield 85, 3) := by decide +kernel
theorem dX5_takeDots_12 : decode cX5_takeDots 12 = .ok (.if_icmp .ge 55, 3) := by decide +kernel
theorem dX5_takeDots_15 : decode cX5_takeDots 15 = .ok (.aload_n 1, 1) := by decide +kernel
theorem dX5_takeDots_16 : decode cX5_takeDots 16 = .ok (.getfield 140, 3) := by decide +kernel
theorem dX5_takeDots_19 : decode cX5_takeDots 19 = .ok (.aload_n 2, 1) := by decide +kernel
theorem dX5_takeDots_20 : decode cX5_takeDots 20 = .ok (.getfield 88, 3) := by decide +kernel
theorem dX5_takeDots_23 : decode cX5_takeDots 23 = .ok (.aload_n 2, 1) := by decide +kernel
theorem dX5_takeDots_24 : decode cX5_takeDots 24 = .ok (.getfield 92, 3) := by decide +kernel
theorem dX5_takeDots_27 : decode cX5_takeDots 27 = .ok (.iload_n 3, 1) := by decide +kernel
theorem dX5_takeDots_28 : decode cX5_takeDots 28 = .ok (.i2l, 1) := by decide +kernel
theorem dX5_takeDots_29 : decode cX5_takeDots 29 = .ok (.ladd, 1) := by decide +kernel
theorem dX5_takeDots_30 : decode cX5_takeDots 30 = .ok (.invokevirtual 75, 3) := by decide +kernel
theorem dX5_takeDots_33 : decode cX5_takeDots 33 = .ok (.istore 4, 2) := by decide +kernel
theorem dX5_takeDots_35 : decode cX5_takeDots 35 = .ok (.aload_n 1, 1) := by decide +kernel
theorem dX5_takeDots_36 : decode cX5_takeDots 36 = .ok (.getfield 140, 3) := by decide +kernel
theorem dX5_takeDots_39 : decode cX5_takeDots 39 = .ok (.getfield 72, 3) := by decide +kernel
theorem dX5_takeDots_42 : decode cX5_takeDots 42 = .ok (.iload 4, 2) := by decide +kernel
theorem dX5_takeDots_44 : decode cX5_takeDots 44 = .ok (.aload_n 0, 1) := by decide +kernel
theorem dX5_takeDots_45 : decode cX5_takeDots 45 = .ok (.getfield 30, 3) := by decide +kernel
theorem dX5_takeDots_48 : decode cX5_takeDots 48 = .ok (.iload_n 3, 1) := by decide +kernel
theorem dX5_takeDots_49 : decode cX5_takeDots 49 = .ok (.aload_n 2, 1) := by decide +kernel
theorem dX5_takeDots_50 : decode cX5_takeDots 50 = .ok (.getfield 82, 3) := by decide +kernel
theorem dX5_takeDots_53 : decode cX5_takeDots 53 = .ok (.imul, 1) := by decide +kernel
theorem dX5_takeDots_54 : decode cX5_takeDots 54 = .ok (.aload_n 2, 1) := by decide +kernel
theorem dX5_takeDots_55 : decode cX5_takeDots 55 = .ok (.getfield 82, 3) := by decide +kernel
theorem dX5_takeDots_58 : decode cX5_takeDots 58 = .ok (.invokestatic 194, 3) := by decide +kernel
theorem dX5_takeDots_61 : decode cX5_takeDots 61 = .ok (.iinc 3 1, 3) := by decide +kernel
theorem dX5_takeDots_64 : decode cX5_takeDots 64 = .ok (.goto (-57), 3) := by decide +kernel
theorem dX5_takeDots_67 : decode cX5_takeDots 67 = .ok (.return_, 1) := by decide +kernel
theorem dX5_dropKey_0 : decode cX5_dropKey 0 = .ok (.iconst 0, 1) := by decide +kernel
theorem dX5_dropKey_1 : decode cX5_dropKey 1 = .ok (.istore_n 3, 1) := by decide +kernel
theorem dX5_dropKey_2 : decode cX5_dropKey 2 = .ok (.iload_n 3, 1) := by decide +kernel
theorem dX5_dropKey_3 : decode cX5_dropKey 3 = .ok (.iload_n 1, 1) := by decide +kernel
theorem dX5_dropKey_4 : decode cX5_dropKey 4 = .ok (.if_icmp .ge 26, 3) := by decide +kernel
