theorem dX6_bring_307 : decode cX6_bring 307 = .ok (.iaload, 1) := by decide +kernel
theorem dX6_bring_308 : decode cX6_bring 308 = .ok (.goto 17, 3) := by decide +kernel
theorem dX6_bring_311 : decode cX6_bring 311 = .ok (.aload_n 0, 1) := by decide +kernel
theorem dX6_bring_312 : decode cX6_bring 312 = .ok (.getfield 23, 3) := by decide +kernel
theorem dX6_bring_315 : decode cX6_bring 315 = .ok (.sipush 4096, 3) := by decide +kernel
theorem dX6_bring_318 : decode cX6_bring 318 = .ok (.iload 6, 2) := by decide +kernel
theorem dX6_bring_320 : decode cX6_bring 320 = .ok (.imul, 1) := by decide +kernel
theorem dX6_bring_321 : decode cX6_bring 321 = .ok (.iload 13, 2) := by decide +kernel
theorem dX6_bring_323 : decode cX6_bring 323 = .ok (.iadd, 1) := by decide +kernel
theorem dX6_bring_324 : decode cX6_bring 324 = .ok (.iaload, 1) := by decide +kernel
theorem dX6_bring_325 : decode cX6_bring 325 = .ok (.iastore, 1) := by decide +kernel
theorem dX6_bring_326 : decode cX6_bring 326 = .ok (.iinc 13 1, 3) := by decide +kernel
theorem dX6_bring_329 : decode cX6_bring 329 = .ok (.goto (-59), 3) := by decide +kernel
theorem dX6_bring_332 : decode cX6_bring 332 = .ok (.iload 12, 2) := by decide +kernel
theorem dX6_bring_334 : decode cX6_bring 334 = .ok (.ireturn, 1) := by decide +kernel
set_option maxRecDepth 100000 in
theorem ggX6_areAlike_X6_isSurface : GoodIn wsX6_areAlike wsX6_isSurface := goodIn_r _ [6, 7, 11, 12, 13, 14, 15, 16, 17, 18, 19, 20, 21, 22, 23, 24, 25, 26] rfl (by decide +kernel)
set_option maxRecDepth 20000 in
theorem gX6_areAlike_X6_isSurface : GoodIn wsX6_areAlike (wsV RX6 59 RX6 yX6_isSurface wsX6_isSurface) := goodIn_app (goodIn_of _ (by decide +kernel)) ggX6_areAlike_X6_isSurface
set_option maxRecDepth 100000 in
theorem ggX6_areAlike_X6_isSpan : GoodIn wsX6_areAlike wsX6_isSpan := goodIn_r _ [10] rfl (by decide +kernel)
set_option maxRecDepth 20000 in
theorem gX6_areAlike_X6_isSpan : GoodIn wsX6_areAlike (va_wsS RX6 63 yX6_isSpan wsX6_isSpan) := goodIn_app (goodIn_of _ (by decide +kernel)) ggX6_areAlike_X6_isSpan
theorem dX6_areAlike_0 : decode cX6_areAlike 0 = .ok (.aload_n 0, 1) := by decide +kernel
theorem dX6_areAlike_1 : decode cX6_areAlike 1 = .ok (.iload_n 1, 1) := by decide +kernel
theorem dX6_areAlike_2 : decode cX6_areAlike 2 = .ok (.invokevirtual 59, 3) := by decide +kernel
theorem dX6_areAlike_5 : decode cX6_areAlike 5 = .ok (.ifCond .eq 45, 3) := by decide +kernel
theorem dX6_areAlike_8 : decode cX6_areAlike 8 = .ok (.aload_n 0, 1) := by decide +kernel
theorem dX6_areAlike_9 : decode cX6_areAlike 9 = .ok (.iload_n 2, 1) := by decide +kernel
theorem dX6_areAlike_10 : decode cX6_areAlike 10 = .ok (.invokevirtual 59, 3) := by decide +kernel
theorem dX6_areAlike_13 : decode cX6_areAlike 13 = .ok (.ifCond .eq 37, 3) := by decide +kernel
theorem dX6_areAlike_16 : decode cX6_areAlike 16 = .ok (.iload_n 3, 1) := by decide +kernel
theorem dX6_areAlike_17 : decode cX6_areAlike 17 = .ok (.invokestatic 63, 3) := by decide +kernel
theorem dX6_areAlike_20 : decode cX6_areAlike 20 = .ok (.ifCond .eq 30, 3) := by decide +kernel
theorem dX6_areAlike_23 : decode cX6_areAlike 23 = .ok (.iload 4, 2) := by decide +kernel
theorem dX6_areAlike_25 : decode cX6_areAlike 25 = .ok (.invokestatic 63, 3) := by decide +kernel
theorem dX6_areAlike_28 : decode cX6_areAlike 28 = .ok (.ifCond .eq 22, 3) := by decide +kernel
theorem dX6_areAlike_31 : decode cX6_areAlike 31 = .ok (.aload_n 0, 1) := by decide +kernel
theorem dX6_areAlike_32 : decode cX6_areAlike 32 = .ok (.getfield 7, 3) := by decide +kernel
theorem dX6_areAlike_35 : decode cX6_areAlike 35 = .ok (.iload_n 1, 1) := by decide +kernel
theorem dX6_areAlike_36 : decode cX6_areAlike 36 = .ok (.iaload, 1) := by decide +kernel
theorem dX6_areAlike_37 : decode cX6_areAlike 37 = .ok (.aload_n 0, 1) := by decide +kernel
theorem dX6_areAlike_38 : decode cX6_areAlike 38 = .ok (.getfield 7, 3) := by decide +kernel
theorem dX6_areAlike_41 : decode cX6_areAlike 41 = .ok (.iload_n 2, 1) := by decide +kernel
theorem dX6_areAlike_42 : decode cX6_areAlike 42 = .ok (.iaload, 1) := by decide +kernel
theorem dX6_areAlike_43 : decode cX6_areAlike 43 = .ok (.if_icmp .ne 7, 3) := by decide +kernel
theorem dX6_areAlike_46 : decode cX6_areAlike 46 = .ok (.iconst 1, 1) := by decide +kernel
theorem dX6_areAlike_47 : decode cX6_areAlike 47 = .ok (.goto 4, 3) := by decide +kernel
theorem dX6_areAlike_50 : decode cX6_areAlike 50 = .ok (.iconst 0, 1) := by decide +kernel
theorem dX6_areAlike_51 : decode cX6_areAlike 51 = .ok (.ireturn, 1) := by decide +kernel
set_option maxRecDepth 100000 in
theorem ggX6_copy_X6_areAlike : GoodIn wsX6_copy wsX6_areAlike := goodIn_r _ [5, 6, 7, 8, 9, 4, 10, 11, 12, 13, 14, 44, 45, 46, 47, 48, 49, 50, 51, 52, 53, 54, 55, 56, 57, 58, 59] rfl (by decide +kernel)
set_option maxRecDepth 20000 in
theorem gX6_copy_X6_areAlike : GoodIn wsX6_copy (wsV RX6 89 RX6 yX6_areAlike wsX6_areAlike) := goodIn_app (goodIn_of _ (by decide +kernel)) ggX6_copy_X6_areAlike
set_option maxRecDepth 100000 in
theorem ggX6_copy_X6_bring : GoodIn wsX6_copy wsX6_bring := goodIn_r _ [18, 19, 20, 21, 22, 23, 24, 4, 25, 26, 27, 28, 29, 30, 31, 32, 33, 34, 35, 36, 37, 38, 39, 40, 41, 42, 43, 6, 44, 45, 46, 47, 48, 49, 50, 51, 52, 53, 54, 55, 56, 57, 58, 59] rfl (by decide +kernel)
set_option maxRecDepth 20000 in
theorem gX6_copy_X6_bring : GoodIn wsX6_copy (wsV RX6 93 RX6 yX6_bring wsX6_bring) := goodIn_app (goodIn_of _ (by decide +kernel)) ggX6_copy_X6_bring
theorem dX6_copy_0 : decode cX6_copy 0 = .ok (.aload_n 0, 1) := by decide +kernel
theorem dX6_copy_1 : decode cX6_copy 1 = .ok (.iload_n 1, 1) := by decide +kernel
theorem dX6_copy_2 : decode cX6_copy 2 = .ok (.iload 6, 2) := by decide +kernel
theorem dX6_copy_4 : decode cX6_copy 4 = .ok (.iload 4, 2) := by decide +kernel
theorem dX6_copy_6 : decode cX6_copy 6 = .ok (.iload 5, 2) := by decide +kernel
theorem dX6_copy_8 : decode cX6_copy 8 = .ok (.invokevirtual 89, 3) := by decide +kernel
theorem dX6_copy_11 : decode cX6_copy 11 = .ok (.ifCond .eq 19, 3) := by decide +kernel
theorem dX6_copy_14 : decode cX6_copy 14 = .ok (.iload 9, 2) := by decide +kernel
theorem dX6_copy_16 : decode cX6_copy 16 = .ok (.ifCond .lt 14, 3) := by decide +kernel
theorem dX6_copy_19 : decode cX6_copy 19 = .ok (.iload 9, 2) := by decide +kernel
theorem dX6_copy_21 : decode cX6_copy 21 = .ok (.bipush 16, 2) := by decide +kernel
theorem dX6_copy_23 : decode cX6_copy 23 = .ok (.if_icmp .ge 7, 3) := by decide +kernel
theorem dX6_copy_26 : decode cX6_copy 26 = .ok (.iconst 1, 1) := by decide +kernel
theorem dX6_copy_27 : decode cX6_copy 27 = .ok (.goto 4, 3) := by decide +kernel
theorem dX6_copy_30 : decode cX6_copy 30 = .ok (.iconst 0, 1) := by decide +kernel
theorem dX6_copy_31 : decode cX6_copy 31 = .ok (.istore 10, 2) := by decide +kernel
theorem dX6_copy_33 : decode cX6_copy 33 = .ok (.iload 10, 2) := by decide +kernel
theorem dX6_copy_35 : decode cX6_copy 35 = .ok (.ifCond .eq 27, 3) := by decide +kernel
theorem dX6_copy_38 : decode cX6_copy 38 = .ok (.aload_n 0, 1) := by decide +kernel
theorem dX6_copy_39 : decode cX6_copy 39 = .ok (.iload_n 1, 1) := by decide +kernel
theorem dX6_copy_40 : decode cX6_copy 40 = .ok (.iload_n 2, 1) := by decide +kernel
theorem dX6_copy_41 : decode cX6_copy 41 = .ok (.iload_n 3, 1) := by decide +kernel
theorem dX6_copy_42 : decode cX6_copy 42 = .ok (.iload 4, 2) := by decide +kernel
theorem dX6_copy_44 : decode cX6_copy 44 = .ok (.iload 5, 2) := by decide +kernel
theorem dX6_copy_46 : decode cX6_copy 46 = .ok (.iload 6, 2) := by decide +kernel
theorem dX6_copy_48 : decode cX6_copy 48 = .ok (.iload 7, 2) := by decide +kernel
theorem dX6_copy_50 : decode cX6_copy 50 = .ok (.iload 8, 2) := by decide +kernel
theorem dX6_copy_52 : decode cX6_copy 52 = .ok (.iconst 0, 1) := by decide +kernel
theorem dX6_copy_53 : decode cX6_copy 53 = .ok (.iload 9, 2) := by decide +kernel
theorem dX6_copy_55 : decode cX6_copy 55 = .ok (.iconst 0, 1) := by decide +kernel
theorem dX6_copy_56 : decode cX6_copy 56 = .ok (.invokevirtual 93, 3) := by decide +kernel
theorem dX6_copy_59 : decode cX6_copy 59 = .ok (.goto 4, 3) := by decide +kernel
theorem dX6_copy_62 : decode cX6_copy 62 = .ok (.iconst (-1), 1) := by decide +kernel
theorem dX6_copy_63 : decode cX6_copy 63 = .ok (.ireturn, 1) := by decide +kernel
set_option maxRecDepth 100000 in
theorem ggX6_keyed_X6_areAlike : GoodIn wsX6_keyed wsX6_areAlike := goodIn_r _ [5, 6, 7, 8, 9, 4, 10, 11, 12, 13, 14, 48, 49, 50, 51, 52, 53, 54, 55, 56, 57, 58, 59, 60, 61, 62, 63] rfl (by decide +kernel)
set_option maxRecDepth 20000 in
theorem gX6_keyed_X6_areAlike : GoodIn wsX6_keyed (wsV RX6 89 RX6 yX6_areAlike wsX6_areAlike) := goodIn_app (goodIn_of _ (by decide +kernel)) ggX6_keyed_X6_areAlike
set_option maxRecDepth 100000 in
theorem ggX6_keyed_X6_fits : GoodIn wsX6_keyed wsX6_fits := goodIn_r _ [18, 6, 48, 49, 50, 51, 52, 53, 54, 55, 56, 57, 58, 59, 60, 61, 62, 63] rfl (by decide +kernel)
set_option maxRecDepth 20000 in
theorem gX6_keyed_X6_fits : GoodIn wsX6_keyed (wsV RX6 70 RX6 yX6_fits wsX6_fits) := goodIn_app (goodIn_of _ (by decide +kernel)) ggX6_keyed_X6_fits
set_option maxRecDepth 100000 in
theorem ggX6_keyed_X6_bring : GoodIn wsX6_keyed wsX6_bring := goodIn_r _ [22, 23, 24, 25, 26, 27, 28, 4, 29, 30, 31, 32, 33, 34, 35, 36, 37, 38, 39, 40, 41, 42, 43, 44, 45, 46, 47, 6, 48, 49, 50, 51, 52, 53, 54, 55, 56, 57, 58, 59, 60, 61, 62, 63] rfl (by decide +kernel)
set_option maxRecDepth 20000 in
theorem gX6_keyed_X6_bring : GoodIn wsX6_keyed (wsV RX6 93 RX6 yX6_bring wsX6_bring) := goodIn_app (goodIn_of _ (by decide +kernel)) ggX6_keyed_X6_bring
theorem dX6_keyed_0 : decode cX6_keyed 0 = .ok (.aload_n 0, 1) := by decide +kernel
theorem dX6_keyed_1 : decode cX6_keyed 1 = .ok (.iload_n 1, 1) := by decide +kernel
theorem dX6_keyed_2 : decode cX6_keyed 2 = .ok (.iload 6, 2) := by decide +kernel
theorem dX6_keyed_4 : decode cX6_keyed 4 = .ok (.iload 4, 2) := by decide +kernel
theorem dX6_keyed_6 : decode cX6_keyed 6 = .ok (.iload 5, 2) := by decide +kernel
theorem dX6_keyed_8 : decode cX6_keyed 8 = .ok (.invokevirtual 89, 3) := by decide +kernel
theorem dX6_keyed_11 : decode cX6_keyed 11 = .ok (.ifCond .eq 17, 3) := by decide +kernel
theorem dX6_keyed_14 : decode cX6_keyed 14 = .ok (.aload_n 0, 1) := by decide +kernel
theorem dX6_keyed_15 : decode cX6_keyed 15 = .ok (.iload_n 1, 1) := by decide +kernel
theorem dX6_keyed_16 : decode cX6_keyed 16 = .ok (.iload 9, 2) := by decide +kernel
theorem dX6_keyed_18 : decode cX6_keyed 18 = .ok (.invokevirtual 70, 3) := by decide +kernel
theorem dX6_keyed_21 : decode cX6_keyed 21 = .ok (.ifCond .eq 7, 3) := by decide +kernel
theorem dX6_keyed_24 : decode cX6_keyed 24 = .ok (.iconst 1, 1) := by decide +kernel
theorem dX6_keyed_25 : decode cX6_keyed 25 = .ok (.goto 4, 3) := by decide +kernel
theorem dX6_keyed_28 : decode cX6_keyed 28 = .ok (.iconst 0, 1) := by decide +kernel
theorem dX6_keyed_29 : decode cX6_keyed 29 = .ok (.istore 10, 2) := by decide +kernel
theorem dX6_keyed_31 : decode cX6_keyed 31 = .ok (.iload 10, 2) := by decide +kernel
theorem dX6_keyed_33 : decode cX6_keyed 33 = .ok (.ifCond .eq 27, 3) := by decide +kernel
theorem dX6_keyed_36 : decode cX6_keyed 36 = .ok (.aload_n 0, 1) := by decide +kernel
theorem dX6_keyed_37 : decode cX6_keyed 37 = .ok (.iload_n 1, 1) := by decide +kernel
theorem dX6_keyed_38 : decode cX6_keyed 38 = .ok (.iload_n 2, 1) := by decide +kernel
theorem dX6_keyed_39 : decode cX6_keyed 39 = .ok (.iload_n 3, 1) := by decide +kernel
theorem dX6_keyed_40 : decode cX6_keyed 40 = .ok (.iload 4, 2) := by decide +kernel
theorem dX6_keyed_42 : decode cX6_keyed 42 = .ok (.iload 5, 2) := by decide +kernel
theorem dX6_keyed_44 : decode cX6_keyed 44 = .ok (.iload 6, 2) := by decide +kernel
theorem dX6_keyed_46 : decode cX6_keyed 46 = .ok (.iload 7, 2) := by decide +kernel
theorem dX6_keyed_48 : decode cX6_keyed 48 = .ok (.iload 8, 2) := by decide +kernel
theorem dX6_keyed_50 : decode cX6_keyed 50 = .ok (.iconst 1, 1) := by decide +kernel
theorem dX6_keyed_51 : decode cX6_keyed 51 = .ok (.iload 9, 2) := by decide +kernel
theorem dX6_keyed_53 : decode cX6_keyed 53 = .ok (.iconst 0, 1) := by decide +kernel
theorem dX6_keyed_54 : decode cX6_keyed 54 = .ok (.invokevirtual 93, 3) := by decide +kernel
theorem dX6_keyed_57 : decode cX6_keyed 57 = .ok (.goto 4, 3) := by decide +kernel
theorem dX6_keyed_60 : decode cX6_keyed 60 = .ok (.iconst (-1), 1) := by decide +kernel
theorem dX6_keyed_61 : decode cX6_keyed 61 = .ok (.ireturn, 1) := by decide +kernel
set_option maxRecDepth 100000 in
theorem ggX6_masked_X6_areAlike : GoodIn wsX6_masked wsX6_areAlike := goodIn_r _ [6, 1, 7, 8, 9, 5, 10, 11, 12, 13, 14, 44, 45, 46, 47, 48, 49, 50, 51, 52, 53, 54, 55, 56, 57, 58, 59] rfl (by decide +kernel)
set_option maxRecDepth 20000 in
theorem gX6_masked_X6_areAlike : GoodIn wsX6_masked (wsV RX6 89 RX6 yX6_areAlike wsX6_areAlike) := goodIn_app (goodIn_of _ (by decide +kernel)) ggX6_masked_X6_areAlike
set_option maxRecDepth 100000 in
theorem ggX6_masked_X6_isSurface : GoodIn wsX6_masked wsX6_isSurface := goodIn_r _ [10, 11, 44, 45, 46, 47, 48, 49, 50, 51, 52, 53, 54, 55, 56, 57, 58, 59] rfl (by decide +kernel)
set_option maxRecDepth 20000 in
theorem gX6_masked_X6_isSurface : GoodIn wsX6_masked (wsV RX6 59 RX6 yX6_isSurface wsX6_isSurface) := goodIn_app (goodIn_of _ (by decide +kernel)) ggX6_masked_X6_isSurface
set_option maxRecDepth 100000 in
theorem ggX6_masked_X6_bring : GoodIn wsX6_masked wsX6_bring := goodIn_r _ [18, 19, 20, 21, 22, 23, 24, 5, 25, 26, 27, 28, 29, 30, 31, 32, 33, 34, 35, 36, 37, 38, 39, 40, 41, 42, 43, 1, 44, 45, 46, 47, 48, 49, 50, 51, 52, 53, 54, 55, 56, 57, 58, 59] rfl (by decide +kernel)
set_option maxRecDepth 20000 in
theorem gX6_masked_X6_bring : GoodIn wsX6_masked (wsV RX6 93 RX6 yX6_bring wsX6_bring) := goodIn_app (goodIn_of _ (by decide +kernel)) ggX6_masked_X6_bring
theorem dX6_masked_0 : decode cX6_masked 0 = .ok (.aload_n 0, 1) := by decide +kernel
theorem dX6_masked_1 : decode cX6_masked 1 = .ok (.iload_n 1, 1) := by decide +kernel
theorem dX6_masked_2 : decode cX6_masked 2 = .ok (.iload 6, 2) := by decide +kernel
theorem dX6_masked_4 : decode cX6_masked 4 = .ok (.iload 4, 2) := by decide +kernel
theorem dX6_masked_6 : decode cX6_masked 6 = .ok (.iload 5, 2) := by decide +kernel
theorem dX6_masked_8 : decode cX6_masked 8 = .ok (.invokevirtual 89, 3) := by decide +kernel
theorem dX6_masked_11 : decode cX6_masked 11 = .ok (.ifCond .eq 27, 3) := by decide +kernel
theorem dX6_masked_14 : decode cX6_masked 14 = .ok (.aload_n 0, 1) := by decide +kernel
theorem dX6_masked_15 : decode cX6_masked 15 = .ok (.iload 9, 2) := by decide +kernel
theorem dX6_masked_17 : decode cX6_masked 17 = .ok (.invokevirtual 59, 3) := by decide +kernel
theorem dX6_masked_20 : decode cX6_masked 20 = .ok (.ifCond .eq 18, 3) := by decide +kernel
theorem dX6_masked_23 : decode cX6_masked 23 = .ok (.aload_n 0, 1) := by decide +kernel
theorem dX6_masked_24 : decode cX6_masked 24 = .ok (.getfield 7, 3) := by decide +kernel
theorem dX6_masked_27 : decode cX6_masked 27 = .ok (.iload 9, 2) := by decide +kernel
theorem dX6_masked_29 : decode cX6_masked 29 = .ok (.iaload, 1) := by decide +kernel
theorem dX6_masked_30 : decode cX6_masked 30 = .ok (.iconst 1, 1) := by decide +kernel
theorem dX6_masked_31 : decode cX6_masked 31 = .ok (.if_icmp .ne 7, 3) := by decide +kernel
theorem dX6_masked_34 : decode cX6_masked 34 = .ok (.iconst 1, 1) := by decide +kernel
theorem dX6_masked_35 : decode cX6_masked 35 = .ok (.goto 4, 3) := by decide +kernel
theorem dX6_masked_38 : decode cX6_masked 38 = .ok (.iconst 0, 1) := by decide +kernel
theorem dX6_masked_39 : decode cX6_masked 39 = .ok (.istore 10, 2) := by decide +kernel
theorem dX6_masked_41 : decode cX6_masked 41 = .ok (.iload 10, 2) := by decide +kernel
theorem dX6_masked_43 : decode cX6_masked 43 = .ok (.ifCond .eq 27, 3) := by decide +kernel
theorem dX6_masked_46 : decode cX6_masked 46 = .ok (.aload_n 0, 1) := by decide +kernel
theorem dX6_masked_47 : decode cX6_masked 47 = .ok (.iload_n 1, 1) := by decide +kernel
theorem dX6_masked_48 : decode cX6_masked 48 = .ok (.iload_n 2, 1) := by decide +kernel
theorem dX6_masked_49 : decode cX6_masked 49 = .ok (.iload_n 3, 1) := by decide +kernel
theorem dX6_masked_50 : decode cX6_masked 50 = .ok (.iload 4, 2) := by decide +kernel
theorem dX6_masked_52 : decode cX6_masked 52 = .ok (.iload 5, 2) := by decide +kernel
theorem dX6_masked_54 : decode cX6_masked 54 = .ok (.iload 6, 2) := by decide +kernel
theorem dX6_masked_56 : decode cX6_masked 56 = .ok (.iload 7, 2) := by decide +kernel
theorem dX6_masked_58 : decode cX6_masked 58 = .ok (.iload 8, 2) := by decide +kernel
theorem dX6_masked_60 : decode cX6_masked 60 = .ok (.iconst 2, 1) := by decide +kernel
theorem dX6_masked_61 : decode cX6_masked 61 = .ok (.iload 9, 2) := by decide +kernel
theorem dX6_masked_63 : decode cX6_masked 63 = .ok (.iconst 0, 1) := by decide +kernel
theorem dX6_masked_64 : decode cX6_masked 64 = .ok (.invokevirtual 93, 3) := by decide +kernel
theorem dX6_masked_67 : decode cX6_masked 67 = .ok (.goto 4, 3) := by decide +kernel
theorem dX6_masked_70 : decode cX6_masked 70 = .ok (.iconst (-1), 1) := by decide +kernel
theorem dX6_masked_71 : decode cX6_masked 71 = .ok (.ireturn, 1) := by decide +kernel
set_option maxRecDepth 100000 in
theorem ggX6_spread_X6_isSurface : GoodIn wsX6_spread wsX6_isSurface := goodIn_r _ [6, 7, 44, 45, 46, 47, 48, 49, 50, 51, 52, 53, 54, 55, 56, 57, 58, 59] rfl (by decide +kernel)
set_option maxRecDepth 20000 in
theorem gX6_spread_X6_isSurface : GoodIn wsX6_spread (wsV RX6 59 RX6 yX6_isSurface wsX6_isSurface) := goodIn_app (goodIn_of _ (by decide +kernel)) ggX6_spread_X6_isSurface
set_option maxRecDepth 100000 in
theorem ggX6_spread_X6_isSpan : GoodIn wsX6_spread wsX6_isSpan := goodIn_r _ [10] rfl (by decide +kernel)
set_option maxRecDepth 20000 in
theorem gX6_spread_X6_isSpan : GoodIn wsX6_spread (va_wsS RX6 63 yX6_isSpan wsX6_isSpan) := goodIn_app (goodIn_of _ (by decide +kernel)) ggX6_spread_X6_isSpan
set_option maxRecDepth 100000 in
theorem ggX6_spread_X6_fits : GoodIn wsX6_spread wsX6_fits := goodIn_r _ [14, 1, 44, 45, 46, 47, 48, 49, 50, 51, 52, 53, 54, 55, 56, 57, 58, 59] rfl (by decide +kernel)
set_option maxRecDepth 20000 in
theorem gX6_spread_X6_fits : GoodIn wsX6_spread (wsV RX6 70 RX6 yX6_fits wsX6_fits) := goodIn_app (goodIn_of _ (by decide +kernel)) ggX6_spread_X6_fits
set_option maxRecDepth 100000 in
theorem ggX6_spread_X6_bring : GoodIn wsX6_spread wsX6_bring := goodIn_r _ [18, 19, 20, 21, 22, 23, 24, 5, 25, 26, 27, 28, 29, 30, 31, 32, 33, 34, 35, 36, 37, 38, 39, 40, 41, 42, 43, 1, 44, 45, 46, 47, 48, 49, 50, 51, 52, 53, 54, 55, 56, 57, 58, 59] rfl (by decide +kernel)
set_option maxRecDepth 20000 in
theorem gX6_spread_X6_bring : GoodIn wsX6_spread (wsV RX6 93 RX6 yX6_bring wsX6_bring) := goodIn_app (goodIn_of _ (by decide +kernel)) ggX6_spread_X6_bring
theorem dX6_spread_0 : decode cX6_spread 0 = .ok (.aload_n 0, 1) := by decide +kernel
theorem dX6_spread_1 : decode cX6_spread 1 = .ok (.iload_n 1, 1) := by decide +kernel
theorem dX6_spread_2 : decode cX6_spread 2 = .ok (.invokevirtual 59, 3) := by decide +kernel
theorem dX6_spread_5 : decode cX6_spread 5 = .ok (.ifCond .eq 64, 3) := by decide +kernel
theorem dX6_spread_8 : decode cX6_spread 8 = .ok (.aload_n 0, 1) := by decide +kernel
theorem dX6_spread_9 : decode cX6_spread 9 = .ok (.getfield 7, 3) := by decide +kernel
theorem dX6_spread_12 : decode cX6_spread 12 = .ok (.iload_n 1, 1) := by decide +kernel
theorem dX6_spread_13 : decode cX6_spread 13 = .ok (.iaload, 1) := by decide +kernel
theorem dX6_spread_14 : decode cX6_spread 14 = .ok (.iconst 1, 1) := by decide +kernel
theorem dX6_spread_15 : decode cX6_spread 15 = .ok (.if_icmp .ne 54, 3) := by decide +kernel
theorem dX6_spread_18 : decode cX6_spread 18 = .ok (.aload_n 0, 1) := by decide +kernel
theorem dX6_spread_19 : decode cX6_spread 19 = .ok (.iload 6, 2) := by decide +kernel
theorem dX6_spread_21 : decode cX6_spread 21 = .ok (.invokevirtual 59, 3) := by decide +kernel
theorem dX6_spread_24 : decode cX6_spread 24 = .ok (.ifCond .eq 45, 3) := by decide +kernel
theorem dX6_spread_27 : decode cX6_spread 27 = .ok (.iload 4, 2) := by decide +kernel
theorem dX6_spread_29 : decode cX6_spread 29 = .ok (.invokestatic 63, 3) := by decide +kernel
theorem dX6_spread_32 : decode cX6_spread 32 = .ok (.ifCond .eq 37, 3) := by decide +kernel
theorem dX6_spread_35 : decode cX6_spread 35 = .ok (.iload 5, 2) := by decide +kernel
theorem dX6_spread_37 : decode cX6_spread 37 = .ok (.invokestatic 63, 3) := by decide +kernel
theorem dX6_spread_40 : decode cX6_spread 40 = .ok (.ifCond .eq 29, 3) := by decide +kernel
theorem dX6_spread_43 : decode cX6_spread 43 = .ok (.aload_n 0, 1) := by decide +kernel
theorem dX6_spread_44 : decode cX6_spread 44 = .ok (.iload 6, 2) := by decide +kernel
theorem dX6_spread_46 : decode cX6_spread 46 = .ok (.iload 9, 2) := by decide +kernel
theorem dX6_spread_48 : decode cX6_spread 48 = .ok (.invokevirtual 70, 3) := by decide +kernel
theorem dX6_spread_51 : decode cX6_spread 51 = .ok (.ifCond .eq 18, 3) := by decide +kernel
theorem dX6_spread_54 : decode cX6_spread 54 = .ok (.aload_n 0, 1) := by decide +kernel
theorem dX6_spread_55 : decode cX6_spread 55 = .ok (.iload 6, 2) := by decide +kernel
theorem dX6_spread_57 : decode cX6_spread 57 = .ok (.iload 10, 2) := by decide +kernel
theorem dX6_spread_59 : decode cX6_spread 59 = .ok (.invokevirtual 70, 3) := by decide +kernel
theorem dX6_spread_62 : decode cX6_spread 62 = .ok (.ifCond .eq 7, 3) := by decide +kernel
theorem dX6_spread_65 : decode cX6_spread 65 = .ok (.iconst 1, 1) := by decide +kernel
theorem dX6_spread_66 : decode cX6_spread 66 = .ok (.goto 4, 3) := by decide +kernel
theorem dX6_spread_69 : decode cX6_spread 69 = .ok (.iconst 0, 1) := by decide +kernel
theorem dX6_spread_70 : decode cX6_spread 70 = .ok (.istore 11, 2) := by decide +kernel
theorem dX6_spread_72 : decode cX6_spread 72 = .ok (.iload 11, 2) := by decide +kernel
theorem dX6_spread_74 : decode cX6_spread 74 = .ok (.ifCond .eq 28, 3) := by decide +kernel
theorem dX6_spread_77 : decode cX6_spread 77 = .ok (.aload_n 0, 1) := by decide +kernel
theorem dX6_spread_78 : decode cX6_spread 78 = .ok (.iload_n 1, 1) := by decide +kernel
theorem dX6_spread_79 : decode cX6_spread 79 = .ok (.iload_n 2, 1) := by decide +kernel
theorem dX6_spread_80 : decode cX6_spread 80 = .ok (.iload_n 3, 1) := by decide +kernel
theorem dX6_spread_81 : decode cX6_spread 81 = .ok (.iload 4, 2) := by decide +kernel
theorem dX6_spread_83 : decode cX6_spread 83 = .ok (.iload 5, 2) := by decide +kernel
theorem dX6_spread_85 : decode cX6_spread 85 = .ok (.iload 6, 2) := by decide +kernel
theorem dX6_spread_87 : decode cX6_spread 87 = .ok (.iload 7, 2) := by decide +kernel
theorem dX6_spread_89 : decode cX6_spread 89 = .ok (.iload 8, 2) := by decide +kernel
theorem dX6_spread_91 : decode cX6_spread 91 = .ok (.iconst 3, 1) := by decide +kernel
theorem dX6_spread_92 : decode cX6_spread 92 = .ok (.iload 9, 2) := by decide +kernel
theorem dX6_spread_94 : decode cX6_spread 94 = .ok (.iload 10, 2) := by decide +kernel
theorem dX6_spread_96 : decode cX6_spread 96 = .ok (.invokevirtual 93, 3) := by decide +kernel
theorem dX6_spread_99 : decode cX6_spread 99 = .ok (.goto 4, 3) := by decide +kernel
theorem dX6_spread_102 : decode cX6_spread 102 = .ok (.iconst (-1), 1) := by decide +kernel
theorem dX6_spread_103 : decode cX6_spread 103 = .ok (.ireturn, 1) := by decide +kernel
set_option maxRecDepth 100000 in
theorem ggX6_turn_X6_isSurface : GoodIn wsX6_turn wsX6_isSurface := goodIn_r _ [9, 10, 19, 20, 21, 22, 23, 24, 25, 26, 27, 28, 29, 30, 31, 32, 33, 34] rfl (by decide +kernel)
set_option maxRecDepth 20000 in
theorem gX6_turn_X6_isSurface : GoodIn wsX6_turn (wsV RX6 59 RX6 yX6_isSurface wsX6_isSurface) := goodIn_app (goodIn_of _ (by decide +kernel)) ggX6_turn_X6_isSurface
set_option maxRecDepth 100000 in
theorem ggX6_turn_X6_dot : GoodIn wsX6_turn wsX6_dot := goodIn_r _ [14, 4, 15, 16, 17, 8, 18, 2, 1, 19, 20, 21, 22, 23, 24, 25, 26, 27, 28, 29, 30, 31, 32, 33, 34] rfl (by decide +kernel)
set_option maxRecDepth 20000 in
theorem gX6_turn_X6_dot : GoodIn wsX6_turn (wsV RX6 74 RX6 yX6_dot wsX6_dot) := goodIn_app (goodIn_of _ (by decide +kernel)) ggX6_turn_X6_dot
theorem dX6_turn_0 : decode cX6_turn 0 = .ok (.aload_n 0, 1) := by decide +kernel
theorem dX6_turn_1 : decode cX6_turn 1 = .ok (.iload_n 1, 1) := by decide +kernel
theorem dX6_turn_2 : decode cX6_turn 2 = .ok (.invokevirtual 59, 3) := by decide +kernel
theorem dX6_turn_5 : decode cX6_turn 5 = .ok (.ifCond .eq 12, 3) := by decide +kernel
theorem dX6_turn_8 : decode cX6_turn 8 = .ok (.iload_n 2, 1) := by decide +kernel
theorem dX6_turn_9 : decode cX6_turn 9 = .ok (.ifCond .lt 8, 3) := by decide +kernel
theorem dX6_turn_12 : decode cX6_turn 12 = .ok (.iload_n 2, 1) := by decide +kernel
theorem dX6_turn_13 : decode cX6_turn 13 = .ok (.iconst 1, 1) := by decide +kernel
theorem dX6_turn_14 : decode cX6_turn 14 = .ok (.if_icmp .le 5, 3) := by decide +kernel
theorem dX6_turn_17 : decode cX6_turn 17 = .ok (.iconst 0, 1) := by decide +kernel
theorem dX6_turn_18 : decode cX6_turn 18 = .ok (.ireturn, 1) := by decide +kernel
theorem dX6_turn_19 : decode cX6_turn 19 = .ok (.iconst 0, 1) := by decide +kernel
theorem dX6_turn_20 : decode cX6_turn 20 = .ok (.istore_n 3, 1) := by decide +kernel
theorem dX6_turn_21 : decode cX6_turn 21 = .ok (.iload_n 3, 1) := by decide +kernel
theorem dX6_turn_22 : decode cX6_turn 22 = .ok (.aload_n 0, 1) := by decide +kernel
theorem dX6_turn_23 : decode cX6_turn 23 = .ok (.getfield 16, 3) := by decide +kernel
theorem dX6_turn_26 : decode cX6_turn 26 = .ok (.iload_n 1, 1) := by decide +kernel
theorem dX6_turn_27 : decode cX6_turn 27 = .ok (.iaload, 1) := by decide +kernel
theorem dX6_turn_28 : decode cX6_turn 28 = .ok (.if_icmp .ge 86, 3) := by decide +kernel
theorem dX6_turn_31 : decode cX6_turn 31 = .ok (.iconst 0, 1) := by decide +kernel
theorem dX6_turn_32 : decode cX6_turn 32 = .ok (.istore 4, 2) := by decide +kernel
theorem dX6_turn_34 : decode cX6_turn 34 = .ok (.iload 4, 2) := by decide +kernel
theorem dX6_turn_36 : decode cX6_turn 36 = .ok (.aload_n 0, 1) := by decide +kernel
theorem dX6_turn_37 : decode cX6_turn 37 = .ok (.getfield 13, 3) := by decide +kernel
theorem dX6_turn_40 : decode cX6_turn 40 = .ok (.iload_n 1, 1) := by decide +kernel
theorem dX6_turn_41 : decode cX6_turn 41 = .ok (.iaload, 1) := by decide +kernel
theorem dX6_turn_42 : decode cX6_turn 42 = .ok (.if_icmp .ge 66, 3) := by decide +kernel
theorem dX6_turn_45 : decode cX6_turn 45 = .ok (.aload_n 0, 1) := by decide +kernel
theorem dX6_turn_46 : decode cX6_turn 46 = .ok (.getfield 26, 3) := by decide +kernel
theorem dX6_turn_49 : decode cX6_turn 49 = .ok (.bipush 64, 2) := by decide +kernel
theorem dX6_turn_51 : decode cX6_turn 51 = .ok (.iload_n 3, 1) := by decide +kernel
theorem dX6_turn_52 : decode cX6_turn 52 = .ok (.imul, 1) := by decide +kernel
theorem dX6_turn_53 : decode cX6_turn 53 = .ok (.iload 4, 2) := by decide +kernel
theorem dX6_turn_55 : decode cX6_turn 55 = .ok (.iadd, 1) := by decide +kernel
theorem dX6_turn_56 : decode cX6_turn 56 = .ok (.iload_n 2, 1) := by decide +kernel
theorem dX6_turn_57 : decode cX6_turn 57 = .ok (.ifCond .ne 25, 3) := by decide +kernel
theorem dX6_turn_60 : decode cX6_turn 60 = .ok (.aload_n 0, 1) := by decide +kernel
theorem dX6_turn_61 : decode cX6_turn 61 = .ok (.iload_n 1, 1) := by decide +kernel
theorem dX6_turn_62 : decode cX6_turn 62 = .ok (.aload_n 0, 1) := by decide +kernel
theorem dX6_turn_63 : decode cX6_turn 63 = .ok (.getfield 13, 3) := by decide +kernel
theorem dX6_turn_66 : decode cX6_turn 66 = .ok (.iload_n 1, 1) := by decide +kernel
theorem dX6_turn_67 : decode cX6_turn 67 = .ok (.iaload, 1) := by decide +kernel
theorem dX6_turn_68 : decode cX6_turn 68 = .ok (.iconst 1, 1) := by decide +kernel
theorem dX6_turn_69 : decode cX6_turn 69 = .ok (.isub, 1) := by decide +kernel
theorem dX6_turn_70 : decode cX6_turn 70 = .ok (.iload 4, 2) := by decide +kernel
theorem dX6_turn_72 : decode cX6_turn 72 = .ok (.isub, 1) := by decide +kernel
theorem dX6_turn_73 : decode cX6_turn 73 = .ok (.i2l, 1) := by decide +kernel
theorem dX6_turn_74 : decode cX6_turn 74 = .ok (.iload_n 3, 1) := by decide +kernel
theorem dX6_turn_75 : decode cX6_turn 75 = .ok (.i2l, 1) := by decide +kernel
theorem dX6_turn_76 : decode cX6_turn 76 = .ok (.invokevirtual 74, 3) := by decide +kernel
theorem dX6_turn_79 : decode cX6_turn 79 = .ok (.goto 22, 3) := by decide +kernel
theorem dX6_turn_82 : decode cX6_turn 82 = .ok (.aload_n 0, 1) := by decide +kernel
theorem dX6_turn_83 : decode cX6_turn 83 = .ok (.iload_n 1, 1) := by decide +kernel
theorem dX6_turn_84 : decode cX6_turn 84 = .ok (.iload 4, 2) := by decide +kernel
theorem dX6_turn_86 : decode cX6_turn 86 = .ok (.i2l, 1) := by decide +kernel
theorem dX6_turn_87 : decode cX6_turn 87 = .ok (.aload_n 0, 1) := by decide +kernel
theorem dX6_turn_88 : decode cX6_turn 88 = .ok (.getfield 16, 3) := by decide +kernel
theorem dX6_turn_91 : decode cX6_turn 91 = .ok (.iload_n 1, 1) := by decide +kernel
theorem dX6_turn_92 : decode cX6_turn 92 = .ok (.iaload, 1) := by decide +kernel
theorem dX6_turn_93 : decode cX6_turn 93 = .ok (.iconst 1, 1) := by decide +kernel
theorem dX6_turn_94 : decode cX6_turn 94 = .ok (.isub, 1) := by decide +kernel
theorem dX6_turn_95 : decode cX6_turn 95 = .ok (.iload_n 3, 1) := by decide +kernel
theorem dX6_turn_96 : decode cX6_turn 96 = .ok (.isub, 1) := by decide +kernel
theorem dX6_turn_97 : decode cX6_turn 97 = .ok (.i2l, 1) := by decide +kernel
theorem dX6_turn_98 : decode cX6_turn 98 = .ok (.invokevirtual 74, 3) := by decide +kernel
theorem dX6_turn_101 : decode cX6_turn 101 = .ok (.iastore, 1) := by decide +kernel
theorem dX6_turn_102 : decode cX6_turn 102 = .ok (.iinc 4 1, 3) := by decide +kernel
theorem dX6_turn_105 : decode cX6_turn 105 = .ok (.goto (-71), 3) := by decide +kernel
theorem dX6_turn_108 : decode cX6_turn 108 = .ok (.iinc 3 1, 3) := by decide +kernel
theorem dX6_turn_111 : decode cX6_turn 111 = .ok (.goto (-90), 3) := by decide +kernel
theorem dX6_turn_114 : decode cX6_turn 114 = .ok (.iconst 0, 1) := by decide +kernel
theorem dX6_turn_115 : decode cX6_turn 115 = .ok (.istore_n 3, 1) := by decide +kernel
theorem dX6_turn_116 : decode cX6_turn 116 = .ok (.iload_n 3, 1) := by decide +kernel
theorem dX6_turn_117 : decode cX6_turn 117 = .ok (.aload_n 0, 1) := by decide +kernel
theorem dX6_turn_118 : decode cX6_turn 118 = .ok (.getfield 16, 3) := by decide +kernel
theorem dX6_turn_121 : decode cX6_turn 121 = .ok (.iload_n 1, 1) := by decide +kernel
theorem dX6_turn_122 : decode cX6_turn 122 = .ok (.iaload, 1) := by decide +kernel
theorem dX6_turn_123 : decode cX6_turn 123 = .ok (.if_icmp .ge 59, 3) := by decide +kernel
theorem dX6_turn_126 : decode cX6_turn 126 = .ok (.iconst 0, 1) := by decide +kernel
theorem dX6_turn_127 : decode cX6_turn 127 = .ok (.istore 4, 2) := by decide +kernel
theorem dX6_turn_129 : decode cX6_turn 129 = .ok (.iload 4, 2) := by decide +kernel
theorem dX6_turn_131 : decode cX6_turn 131 = .ok (.aload_n 0, 1) := by decide +kernel
theorem dX6_turn_132 : decode cX6_turn 132 = .ok (.getfield 13, 3) := by decide +kernel
theorem dX6_turn_135 : decode cX6_turn 135 = .ok (.iload_n 1, 1) := by decide +kernel
theorem dX6_turn_136 : decode cX6_turn 136 = .ok (.iaload, 1) := by decide +kernel
theorem dX6_turn_137 : decode cX6_turn 137 = .ok (.if_icmp .ge 39, 3) := by decide +kernel
theorem dX6_turn_140 : decode cX6_turn 140 = .ok (.aload_n 0, 1) := by decide +kernel
theorem dX6_turn_141 : decode cX6_turn 141 = .ok (.getfield 23, 3) := by decide +kernel
theorem dX6_turn_144 : decode cX6_turn 144 = .ok (.sipush 4096, 3) := by decide +kernel
theorem dX6_turn_147 : decode cX6_turn 147 = .ok (.iload_n 1, 1) := by decide +kernel
theorem dX6_turn_148 : decode cX6_turn 148 = .ok (.imul, 1) := by decide +kernel
theorem dX6_turn_149 : decode cX6_turn 149 = .ok (.bipush 64, 2) := by decide +kernel
theorem dX6_turn_151 : decode cX6_turn 151 = .ok (.iload_n 3, 1) := by decide +kernel
theorem dX6_turn_152 : decode cX6_turn 152 = .ok (.imul, 1) := by decide +kernel
theorem dX6_turn_153 : decode cX6_turn 153 = .ok (.iadd, 1) := by decide +kernel
theorem dX6_turn_154 : decode cX6_turn 154 = .ok (.iload 4, 2) := by decide +kernel
theorem dX6_turn_156 : decode cX6_turn 156 = .ok (.iadd, 1) := by decide +kernel
theorem dX6_turn_157 : decode cX6_turn 157 = .ok (.aload_n 0, 1) := by decide +kernel
theorem dX6_turn_158 : decode cX6_turn 158 = .ok (.getfield 26, 3) := by decide +kernel
theorem dX6_turn_161 : decode cX6_turn 161 = .ok (.bipush 64, 2) := by decide +kernel
theorem dX6_turn_163 : decode cX6_turn 163 = .ok (.iload_n 3, 1) := by decide +kernel
theorem dX6_turn_164 : decode cX6_turn 164 = .ok (.imul, 1) := by decide +kernel
theorem dX6_turn_165 : decode cX6_turn 165 = .ok (.iload 4, 2) := by decide +kernel
theorem dX6_turn_167 : decode cX6_turn 167 = .ok (.iadd, 1) := by decide +kernel
theorem dX6_turn_168 : decode cX6_turn 168 = .ok (.iaload, 1) := by decide +kernel
theorem dX6_turn_169 : decode cX6_turn 169 = .ok (.iastore, 1) := by decide +kernel
theorem dX6_turn_170 : decode cX6_turn 170 = .ok (.iinc 4 1, 3) := by decide +kernel
theorem dX6_turn_173 : decode cX6_turn 173 = .ok (.goto (-44), 3) := by decide +kernel
theorem dX6_turn_176 : decode cX6_turn 176 = .ok (.iinc 3 1, 3) := by decide +kernel
theorem dX6_turn_179 : decode cX6_turn 179 = .ok (.goto (-63), 3) := by decide +kernel
theorem dX6_turn_182 : decode cX6_turn 182 = .ok (.iconst 1, 1) := by decide +kernel
theorem dX6_turn_183 : decode cX6_turn 183 = .ok (.ireturn, 1) := by decide +kernel
set_option maxRecDepth 100000 in
theorem ggX6_count_X6_isSurface : GoodIn wsX6_count wsX6_isSurface := goodIn_r _ [7, 8, 18, 19, 20, 21, 22, 23, 24, 25, 26, 27, 28, 29, 30, 31, 32, 33] rfl (by decide +kernel)
set_option maxRecDepth 20000 in
theorem gX6_count_X6_isSurface : GoodIn wsX6_count (wsV RX6 59 RX6 yX6_isSurface wsX6_isSurface) := goodIn_app (goodIn_of _ (by decide +kernel)) ggX6_count_X6_isSurface
set_option maxRecDepth 100000 in
theorem ggX6_count_X6_dot : GoodIn wsX6_count wsX6_dot := goodIn_r _ [12, 13, 14, 15, 16, 6, 17, 2, 1, 18, 19, 20, 21, 22, 23, 24, 25, 26, 27, 28, 29, 30, 31, 32, 33] rfl (by decide +kernel)
set_option maxRecDepth 20000 in
theorem gX6_count_X6_dot : GoodIn wsX6_count (wsV RX6 74 RX6 yX6_dot wsX6_dot) := goodIn_app (goodIn_of _ (by decide +kernel)) ggX6_count_X6_dot
theorem dX6_count_0 : decode cX6_count 0 = .ok (.aload_n 0, 1) := by decide +kernel
theorem dX6_count_1 : decode cX6_count 1 = .ok (.iload_n 1, 1) := by decide +kernel
theorem dX6_count_2 : decode cX6_count 2 = .ok (.invokevirtual 59, 3) := by decide +kernel
theorem dX6_count_5 : decode cX6_count 5 = .ok (.ifCond .ne 5, 3) := by decide +kernel
theorem dX6_count_8 : decode cX6_count 8 = .ok (.iconst (-1), 1) := by decide +kernel
theorem dX6_count_9 : decode cX6_count 9 = .ok (.ireturn, 1) := by decide +kernel
theorem dX6_count_10 : decode cX6_count 10 = .ok (.iconst 0, 1) := by decide +kernel
theorem dX6_count_11 : decode cX6_count 11 = .ok (.istore_n 3, 1) := by decide +kernel
theorem dX6_count_12 : decode cX6_count 12 = .ok (.iconst 0, 1) := by decide +kernel
theorem dX6_count_13 : decode cX6_count 13 = .ok (.istore 4, 2) := by decide +kernel
theorem dX6_count_15 : decode cX6_count 15 = .ok (.iload 4, 2) := by decide +kernel
theorem dX6_count_17 : decode cX6_count 17 = .ok (.aload_n 0, 1) := by decide +kernel
theorem dX6_count_18 : decode cX6_count 18 = .ok (.getfield 16, 3) := by decide +kernel
theorem dX6_count_21 : decode cX6_count 21 = .ok (.iload_n 1, 1) := by decide +kernel
theorem dX6_count_22 : decode cX6_count 22 = .ok (.iaload, 1) := by decide +kernel
theorem dX6_count_23 : decode cX6_count 23 = .ok (.if_icmp .ge 52, 3) := by decide +kernel
theorem dX6_count_26 : decode cX6_count 26 = .ok (.iconst 0, 1) := by decide +kernel
theorem dX6_count_27 : decode cX6_count 27 = .ok (.istore 5, 2) := by decide +kernel
theorem dX6_count_29 : decode cX6_count 29 = .ok (.iload 5, 2) := by decide +kernel
theorem dX6_count_31 : decode cX6_count 31 = .ok (.aload_n 0, 1) := by decide +kernel
theorem dX6_count_32 : decode cX6_count 32 = .ok (.getfield 13, 3) := by decide +kernel
theorem dX6_count_35 : decode cX6_count 35 = .ok (.iload_n 1, 1) := by decide +kernel
theorem dX6_count_36 : decode cX6_count 36 = .ok (.iaload, 1) := by decide +kernel
theorem dX6_count_37 : decode cX6_count 37 = .ok (.if_icmp .ge 32, 3) := by decide +kernel
theorem dX6_count_40 : decode cX6_count 40 = .ok (.iload_n 3, 1) := by decide +kernel
theorem dX6_count_41 : decode cX6_count 41 = .ok (.aload_n 0, 1) := by decide +kernel
theorem dX6_count_42 : decode cX6_count 42 = .ok (.iload_n 1, 1) := by decide +kernel
theorem dX6_count_43 : decode cX6_count 43 = .ok (.iload 5, 2) := by decide +kernel
theorem dX6_count_45 : decode cX6_count 45 = .ok (.i2l, 1) := by decide +kernel
theorem dX6_count_46 : decode cX6_count 46 = .ok (.iload 4, 2) := by decide +kernel
theorem dX6_count_48 : decode cX6_count 48 = .ok (.i2l, 1) := by decide +kernel
theorem dX6_count_49 : decode cX6_count 49 = .ok (.invokevirtual 74, 3) := by decide +kernel
theorem dX6_count_52 : decode cX6_count 52 = .ok (.iload_n 2, 1) := by decide +kernel
theorem dX6_count_53 : decode cX6_count 53 = .ok (.if_icmp .ne 7, 3) := by decide +kernel
theorem dX6_count_56 : decode cX6_count 56 = .ok (.iconst 1, 1) := by decide +kernel
theorem dX6_count_57 : decode cX6_count 57 = .ok (.goto 4, 3) := by decide +kernel
theorem dX6_count_60 : decode cX6_count 60 = .ok (.iconst 0, 1) := by decide +kernel
theorem dX6_count_61 : decode cX6_count 61 = .ok (.iadd, 1) := by decide +kernel
theorem dX6_count_62 : decode cX6_count 62 = .ok (.istore_n 3, 1) := by decide +kernel
theorem dX6_count_63 : decode cX6_count 63 = .ok (.iinc 5 1, 3) := by decide +kernel
theorem dX6_count_66 : decode cX6_count 66 = .ok (.goto (-37), 3) := by decide +kernel
theorem dX6_count_69 : decode cX6_count 69 = .ok (.iinc 4 1, 3) := by decide +kernel
theorem dX6_count_72 : decode cX6_count 72 = .ok (.goto (-57), 3) := by decide +kernel
theorem dX6_count_75 : decode cX6_count 75 = .ok (.iload_n 3, 1) := by decide +kernel
theorem dX6_count_76 : decode cX6_count 76 = .ok (.ireturn, 1) := by decide +kernel
theorem dX6_isSprite_0 : decode cX6_isSprite 0 = .ok (.iload_n 1, 1) := by decide +kernel
theorem dX6_isSprite_1 : decode cX6_isSprite 1 = .ok (.ifCond .lt 12, 3) := by decide +kernel
theorem dX6_isSprite_4 : decode cX6_isSprite 4 = .ok (.iload_n 1, 1) := by decide +kernel
theorem dX6_isSprite_5 : decode cX6_isSprite 5 = .ok (.iconst 4, 1) := by decide +kernel
theorem dX6_isSprite_6 : decode cX6_isSprite 6 = .ok (.if_icmp .ge 7, 3) := by decide +kernel
theorem dX6_isSprite_9 : decode cX6_isSprite 9 = .ok (.iconst 1, 1) := by decide +kernel
theorem dX6_isSprite_10 : decode cX6_isSprite 10 = .ok (.goto 4, 3) := by decide +kernel
theorem dX6_isSprite_13 : decode cX6_isSprite 13 = .ok (.iconst 0, 1) := by decide +kernel
theorem dX6_isSprite_14 : decode cX6_isSprite 14 = .ok (.ireturn, 1) := by decide +kernel
theorem dX6_put_0 : decode cX6_put 0 = .ok (.aload_n 0, 1) := by decide +kernel
theorem dX6_put_1 : decode cX6_put 1 = .ok (.getfield 39, 3) := by decide +kernel
theorem dX6_put_4 : decode cX6_put 4 = .ok (.aload_n 0, 1) := by decide +kernel
theorem dX6_put_5 : decode cX6_put 5 = .ok (.getfield 97, 3) := by decide +kernel
theorem dX6_put_8 : decode cX6_put 8 = .ok (.iload_n 1, 1) := by decide +kernel
theorem dX6_put_9 : decode cX6_put 9 = .ok (.iastore, 1) := by decide +kernel
theorem dX6_put_10 : decode cX6_put 10 = .ok (.aload_n 0, 1) := by decide +kernel
theorem dX6_put_11 : decode cX6_put 11 = .ok (.dup, 1) := by decide +kernel
theorem dX6_put_12 : decode cX6_put 12 = .ok (.getfield 97, 3) := by decide +kernel
theorem dX6_put_15 : decode cX6_put 15 = .ok (.iconst 1, 1) := by decide +kernel
theorem dX6_put_16 : decode cX6_put 16 = .ok (.iadd, 1) := by decide +kernel
theorem dX6_put_17 : decode cX6_put 17 = .ok (.putfield 97, 3) := by decide +kernel
theorem dX6_put_20 : decode cX6_put 20 = .ok (.return_, 1) := by decide +kernel
set_option maxRecDepth 100000 in
theorem ggX6_tellStretch_X6_put : GoodIn wsX6_tellStretch wsX6_put := goodIn_r _ [5, 6, 7, 19, 20, 21, 22, 23, 24, 25, 26, 27, 28, 29, 30, 31, 32, 33, 34] rfl (by decide +kernel)
set_option maxRecDepth 20000 in
theorem gX6_tellStretch_X6_put : GoodIn wsX6_tellStretch (wsV RX6 100 RX6 yX6_put wsX6_put) := goodIn_app (goodIn_of _ (by decide +kernel)) ggX6_tellStretch_X6_put
set_option maxRecDepth 100000 in
theorem ggX6_tellStretch_X6_dot : GoodIn wsX6_tellStretch wsX6_dot := goodIn_r _ [11, 12, 13, 14, 15, 4, 16, 17, 18, 19, 20, 21, 22, 23, 24, 25, 26, 27, 28, 29, 30, 31, 32, 33, 34] rfl (by decide +kernel)
set_option maxRecDepth 20000 in
theorem gX6_tellStretch_X6_dot : GoodIn wsX6_tellStretch (wsV RX6 74 RX6 yX6_dot wsX6_dot) := goodIn_app (goodIn_of _ (by decide +kernel)) ggX6_tellStretch_X6_dot
theorem dX6_tellStretch_0 : decode cX6_tellStretch 0 = .ok (.iload_n 3, 1) := by decide +kernel
theorem dX6_tellStretch_1 : decode cX6_tellStretch 1 = .ok (.istore 6, 2) := by decide +kernel
theorem dX6_tellStretch_3 : decode cX6_tellStretch 3 = .ok (.iload 6, 2) := by decide +kernel
theorem dX6_tellStretch_5 : decode cX6_tellStretch 5 = .ok (.iload 4, 2) := by decide +kernel
theorem dX6_tellStretch_7 : decode cX6_tellStretch 7 = .ok (.if_icmp .ge 101, 3) := by decide +kernel
theorem dX6_tellStretch_10 : decode cX6_tellStretch 10 = .ok (.iload 4, 2) := by decide +kernel
theorem dX6_tellStretch_12 : decode cX6_tellStretch 12 = .ok (.iload 6, 2) := by decide +kernel
theorem dX6_tellStretch_14 : decode cX6_tellStretch 14 = .ok (.isub, 1) := by decide +kernel
theorem dX6_tellStretch_15 : decode cX6_tellStretch 15 = .ok (.bipush 63, 2) := by decide +kernel
theorem dX6_tellStretch_17 : decode cX6_tellStretch 17 = .ok (.if_icmp .ge 11, 3) := by decide +kernel
theorem dX6_tellStretch_20 : decode cX6_tellStretch 20 = .ok (.iload 4, 2) := by decide +kernel
theorem dX6_tellStretch_22 : decode cX6_tellStretch 22 = .ok (.iload 6, 2) := by decide +kernel
theorem dX6_tellStretch_24 : decode cX6_tellStretch 24 = .ok (.isub, 1) := by decide +kernel
theorem dX6_tellStretch_25 : decode cX6_tellStretch 25 = .ok (.goto 5, 3) := by decide +kernel
theorem dX6_tellStretch_28 : decode cX6_tellStretch 28 = .ok (.bipush 63, 2) := by decide +kernel
theorem dX6_tellStretch_30 : decode cX6_tellStretch 30 = .ok (.istore 7, 2) := by decide +kernel
theorem dX6_tellStretch_32 : decode cX6_tellStretch 32 = .ok (.aload_n 0, 1) := by decide +kernel
theorem dX6_tellStretch_33 : decode cX6_tellStretch 33 = .ok (.iload_n 1, 1) := by decide +kernel
theorem dX6_tellStretch_34 : decode cX6_tellStretch 34 = .ok (.iload 7, 2) := by decide +kernel
theorem dX6_tellStretch_36 : decode cX6_tellStretch 36 = .ok (.iadd, 1) := by decide +kernel
theorem dX6_tellStretch_37 : decode cX6_tellStretch 37 = .ok (.invokevirtual 100, 3) := by decide +kernel
theorem dX6_tellStretch_40 : decode cX6_tellStretch 40 = .ok (.iconst 0, 1) := by decide +kernel
theorem dX6_tellStretch_41 : decode cX6_tellStretch 41 = .ok (.istore 8, 2) := by decide +kernel
theorem dX6_tellStretch_43 : decode cX6_tellStretch 43 = .ok (.iload 8, 2) := by decide +kernel
theorem dX6_tellStretch_45 : decode cX6_tellStretch 45 = .ok (.iload 7, 2) := by decide +kernel
theorem dX6_tellStretch_47 : decode cX6_tellStretch 47 = .ok (.if_icmp .ge 33, 3) := by decide +kernel
theorem dX6_tellStretch_50 : decode cX6_tellStretch 50 = .ok (.iload_n 1, 1) := by decide +kernel
theorem dX6_tellStretch_51 : decode cX6_tellStretch 51 = .ok (.bipush 64, 2) := by decide +kernel
theorem dX6_tellStretch_53 : decode cX6_tellStretch 53 = .ok (.if_icmp .ne 27, 3) := by decide +kernel
theorem dX6_tellStretch_56 : decode cX6_tellStretch 56 = .ok (.aload_n 0, 1) := by decide +kernel
theorem dX6_tellStretch_57 : decode cX6_tellStretch 57 = .ok (.aload_n 0, 1) := by decide +kernel
theorem dX6_tellStretch_58 : decode cX6_tellStretch 58 = .ok (.iload_n 2, 1) := by decide +kernel
theorem dX6_tellStretch_59 : decode cX6_tellStretch 59 = .ok (.iload 6, 2) := by decide +kernel
theorem dX6_tellStretch_61 : decode cX6_tellStretch 61 = .ok (.iload 8, 2) := by decide +kernel
theorem dX6_tellStretch_63 : decode cX6_tellStretch 63 = .ok (.iadd, 1) := by decide +kernel
theorem dX6_tellStretch_64 : decode cX6_tellStretch 64 = .ok (.i2l, 1) := by decide +kernel
theorem dX6_tellStretch_65 : decode cX6_tellStretch 65 = .ok (.iload 5, 2) := by decide +kernel
theorem dX6_tellStretch_67 : decode cX6_tellStretch 67 = .ok (.i2l, 1) := by decide +kernel
theorem dX6_tellStretch_68 : decode cX6_tellStretch 68 = .ok (.invokevirtual 74, 3) := by decide +kernel
theorem dX6_tellStretch_71 : decode cX6_tellStretch 71 = .ok (.invokevirtual 100, 3) := by decide +kernel
theorem dX6_tellStretch_74 : decode cX6_tellStretch 74 = .ok (.iinc 8 1, 3) := by decide +kernel
theorem dX6_tellStretch_77 : decode cX6_tellStretch 77 = .ok (.goto (-34), 3) := by decide +kernel
theorem dX6_tellStretch_80 : decode cX6_tellStretch 80 = .ok (.iload_n 1, 1) := by decide +kernel
theorem dX6_tellStretch_81 : decode cX6_tellStretch 81 = .ok (.sipush 128, 3) := by decide +kernel
theorem dX6_tellStretch_84 : decode cX6_tellStretch 84 = .ok (.if_icmp .ne 18, 3) := by decide +kernel
theorem dX6_tellStretch_87 : decode cX6_tellStretch 87 = .ok (.aload_n 0, 1) := by decide +kernel
theorem dX6_tellStretch_88 : decode cX6_tellStretch 88 = .ok (.aload_n 0, 1) := by decide +kernel
theorem dX6_tellStretch_89 : decode cX6_tellStretch 89 = .ok (.iload_n 2, 1) := by decide +kernel
theorem dX6_tellStretch_90 : decode cX6_tellStretch 90 = .ok (.iload 6, 2) := by decide +kernel
theorem dX6_tellStretch_92 : decode cX6_tellStretch 92 = .ok (.i2l, 1) := by decide +kernel
theorem dX6_tellStretch_93 : decode cX6_tellStretch 93 = .ok (.iload 5, 2) := by decide +kernel
theorem dX6_tellStretch_95 : decode cX6_tellStretch 95 = .ok (.i2l, 1) := by decide +kernel
theorem dX6_tellStretch_96 : decode cX6_tellStretch 96 = .ok (.invokevirtual 74, 3) := by decide +kernel
theorem dX6_tellStretch_99 : decode cX6_tellStretch 99 = .ok (.invokevirtual 100, 3) := by decide +kernel
theorem dX6_tellStretch_102 : decode cX6_tellStretch 102 = .ok (.iinc 6 63, 3) := by decide +kernel
theorem dX6_tellStretch_105 : decode cX6_tellStretch 105 = .ok (.goto (-102), 3) := by decide +kernel
theorem dX6_tellStretch_108 : decode cX6_tellStretch 108 = .ok (.return_, 1) := by decide +kernel
set_option maxRecDepth 100000 in
theorem ggX6_alike_X6_dot : GoodIn wsX6_alike wsX6_dot := goodIn_r _ [5, 6, 7, 8, 9, 4, 10, 11, 12, 13, 14, 15, 16, 17, 18, 19, 20, 21, 22, 23, 24, 25, 26, 27, 28] rfl (by decide +kernel)
set_option maxRecDepth 20000 in
theorem gX6_alike_X6_dot : GoodIn wsX6_alike (wsV RX6 74 RX6 yX6_dot wsX6_dot) := goodIn_app (goodIn_of _ (by decide +kernel)) ggX6_alike_X6_dot
theorem dX6_alike_0 : decode cX6_alike 0 = .ok (.iconst 1, 1) := by decide +kernel
theorem dX6_alike_1 : decode cX6_alike 1 = .ok (.istore 5, 2) := by decide +kernel
theorem dX6_alike_3 : decode cX6_alike 3 = .ok (.iload_n 2, 1) := by decide +kernel
theorem dX6_alike_4 : decode cX6_alike 4 = .ok (.iload 5, 2) := by decide +kernel
theorem dX6_alike_6 : decode cX6_alike 6 = .ok (.iadd, 1) := by decide +kernel
theorem dX6_alike_7 : decode cX6_alike 7 = .ok (.iload_n 3, 1) := by decide +kernel
theorem dX6_alike_8 : decode cX6_alike 8 = .ok (.if_icmp .ge 35, 3) := by decide +kernel
theorem dX6_alike_11 : decode cX6_alike 11 = .ok (.aload_n 0, 1) := by decide +kernel
theorem dX6_alike_12 : decode cX6_alike 12 = .ok (.iload_n 1, 1) := by decide +kernel
theorem dX6_alike_13 : decode cX6_alike 13 = .ok (.iload_n 2, 1) := by decide +kernel
theorem dX6_alike_14 : decode cX6_alike 14 = .ok (.iload 5, 2) := by decide +kernel
theorem dX6_alike_16 : decode cX6_alike 16 = .ok (.iadd, 1) := by decide +kernel
theorem dX6_alike_17 : decode cX6_alike 17 = .ok (.i2l, 1) := by decide +kernel
theorem dX6_alike_18 : decode cX6_alike 18 = .ok (.iload 4, 2) := by decide +kernel
theorem dX6_alike_20 : decode cX6_alike 20 = .ok (.i2l, 1) := by decide +kernel
theorem dX6_alike_21 : decode cX6_alike 21 = .ok (.invokevirtual 74, 3) := by decide +kernel
theorem dX6_alike_24 : decode cX6_alike 24 = .ok (.aload_n 0, 1) := by decide +kernel
theorem dX6_alike_25 : decode cX6_alike 25 = .ok (.iload_n 1, 1) := by decide +kernel
theorem dX6_alike_26 : decode cX6_alike 26 = .ok (.iload_n 2, 1) := by decide +kernel
theorem dX6_alike_27 : decode cX6_alike 27 = .ok (.i2l, 1) := by decide +kernel
theorem dX6_alike_28 : decode cX6_alike 28 = .ok (.iload 4, 2) := by decide +kernel
theorem dX6_alike_30 : decode cX6_alike 30 = .ok (.i2l, 1) := by decide +kernel
theorem dX6_alike_31 : decode cX6_alike 31 = .ok (.invokevirtual 74, 3) := by decide +kernel
theorem dX6_alike_34 : decode cX6_alike 34 = .ok (.if_icmp .ne 9, 3) := by decide +kernel
theorem dX6_alike_37 : decode cX6_alike 37 = .ok (.iinc 5 1, 3) := by decide +kernel
theorem dX6_alike_40 : decode cX6_alike 40 = .ok (.goto (-37), 3) := by decide +kernel
theorem dX6_alike_43 : decode cX6_alike 43 = .ok (.iload 5, 2) := by decide +kernel
theorem dX6_alike_45 : decode cX6_alike 45 = .ok (.ireturn, 1) := by decide +kernel
set_option maxRecDepth 100000 in
theorem ggX6_tellDrawn_X6_alike : GoodIn wsX6_tellDrawn wsX6_alike := goodIn_r _ [5, 6, 7, 8, 4, 9, 10, 11, 12, 13, 14, 15, 16, 27, 28, 29, 30, 31, 32, 33, 34, 35, 36, 37, 38, 39, 40, 41, 42] rfl (by decide +kernel)
set_option maxRecDepth 20000 in
theorem gX6_tellDrawn_X6_alike : GoodIn wsX6_tellDrawn (wsV RX6 104 RX6 yX6_alike wsX6_alike) := goodIn_app (goodIn_of _ (by decide +kernel)) ggX6_tellDrawn_X6_alike
set_option maxRecDepth 100000 in
theorem ggX6_tellDrawn_X6_tellStretch : GoodIn wsX6_tellDrawn wsX6_tellStretch := goodIn_r _ [20, 21, 22, 23, 4, 24, 25, 26, 6, 7, 8, 9, 10, 11, 12, 13, 14, 15, 16, 27, 28, 29, 30, 31, 32, 33, 34, 35, 36, 37, 38, 39, 40, 41, 42] rfl (by decide +kernel)
set_option maxRecDepth 20000 in
theorem gX6_tellDrawn_X6_tellStretch : GoodIn wsX6_tellDrawn (wsV RX6 108 RX6 yX6_tellStretch wsX6_tellStretch) := goodIn_app (goodIn_of _ (by decide +kernel)) ggX6_tellDrawn_X6_tellStretch
theorem dX6_tellDrawn_0 : decode cX6_tellDrawn 0 = .ok (.iload_n 2, 1) := by decide +kernel
theorem dX6_tellDrawn_1 : decode cX6_tellDrawn 1 = .ok (.istore 5, 2) := by decide +kernel
theorem dX6_tellDrawn_3 : decode cX6_tellDrawn 3 = .ok (.iload_n 2, 1) := by decide +kernel
theorem dX6_tellDrawn_4 : decode cX6_tellDrawn 4 = .ok (.istore 6, 2) := by decide +kernel
theorem dX6_tellDrawn_6 : decode cX6_tellDrawn 6 = .ok (.iload 5, 2) := by decide +kernel
theorem dX6_tellDrawn_8 : decode cX6_tellDrawn 8 = .ok (.iload_n 3, 1) := by decide +kernel
theorem dX6_tellDrawn_9 : decode cX6_tellDrawn 9 = .ok (.if_icmp .ge 68, 3) := by decide +kernel
theorem dX6_tellDrawn_12 : decode cX6_tellDrawn 12 = .ok (.aload_n 0, 1) := by decide +kernel
theorem dX6_tellDrawn_13 : decode cX6_tellDrawn 13 = .ok (.iload_n 1, 1) := by decide +kernel
theorem dX6_tellDrawn_14 : decode cX6_tellDrawn 14 = .ok (.iload 5, 2) := by decide +kernel
theorem dX6_tellDrawn_16 : decode cX6_tellDrawn 16 = .ok (.iload_n 3, 1) := by decide +kernel
theorem dX6_tellDrawn_17 : decode cX6_tellDrawn 17 = .ok (.iload 4, 2) := by decide +kernel
theorem dX6_tellDrawn_19 : decode cX6_tellDrawn 19 = .ok (.invokevirtual 104, 3) := by decide +kernel
theorem dX6_tellDrawn_22 : decode cX6_tellDrawn 22 = .ok (.istore 7, 2) := by decide +kernel
theorem dX6_tellDrawn_24 : decode cX6_tellDrawn 24 = .ok (.iload 7, 2) := by decide +kernel
theorem dX6_tellDrawn_26 : decode cX6_tellDrawn 26 = .ok (.iconst 2, 1) := by decide +kernel
theorem dX6_tellDrawn_27 : decode cX6_tellDrawn 27 = .ok (.if_icmp .le 40, 3) := by decide +kernel
theorem dX6_tellDrawn_30 : decode cX6_tellDrawn 30 = .ok (.aload_n 0, 1) := by decide +kernel
theorem dX6_tellDrawn_31 : decode cX6_tellDrawn 31 = .ok (.bipush 64, 2) := by decide +kernel
theorem dX6_tellDrawn_33 : decode cX6_tellDrawn 33 = .ok (.iload_n 1, 1) := by decide +kernel
theorem dX6_tellDrawn_34 : decode cX6_tellDrawn 34 = .ok (.iload 6, 2) := by decide +kernel
theorem dX6_tellDrawn_36 : decode cX6_tellDrawn 36 = .ok (.iload 5, 2) := by decide +kernel
theorem dX6_tellDrawn_38 : decode cX6_tellDrawn 38 = .ok (.iload 4, 2) := by decide +kernel
theorem dX6_tellDrawn_40 : decode cX6_tellDrawn 40 = .ok (.invokevirtual 108, 3) := by decide +kernel
theorem dX6_tellDrawn_43 : decode cX6_tellDrawn 43 = .ok (.aload_n 0, 1) := by decide +kernel
theorem dX6_tellDrawn_44 : decode cX6_tellDrawn 44 = .ok (.sipush 128, 3) := by decide +kernel
theorem dX6_tellDrawn_47 : decode cX6_tellDrawn 47 = .ok (.iload_n 1, 1) := by decide +kernel
theorem dX6_tellDrawn_48 : decode cX6_tellDrawn 48 = .ok (.iload 5, 2) := by decide +kernel
theorem dX6_tellDrawn_50 : decode cX6_tellDrawn 50 = .ok (.iload 5, 2) := by decide +kernel
theorem dX6_tellDrawn_52 : decode cX6_tellDrawn 52 = .ok (.iload 7, 2) := by decide +kernel
theorem dX6_tellDrawn_54 : decode cX6_tellDrawn 54 = .ok (.iadd, 1) := by decide +kernel
theorem dX6_tellDrawn_55 : decode cX6_tellDrawn 55 = .ok (.iload 4, 2) := by decide +kernel
theorem dX6_tellDrawn_57 : decode cX6_tellDrawn 57 = .ok (.invokevirtual 108, 3) := by decide +kernel
theorem dX6_tellDrawn_60 : decode cX6_tellDrawn 60 = .ok (.iload 5, 2) := by decide +kernel
theorem dX6_tellDrawn_62 : decode cX6_tellDrawn 62 = .ok (.iload 7, 2) := by decide +kernel
theorem dX6_tellDrawn_64 : decode cX6_tellDrawn 64 = .ok (.iadd, 1) := by decide +kernel
theorem dX6_tellDrawn_65 : decode cX6_tellDrawn 65 = .ok (.istore 6, 2) := by decide +kernel
theorem dX6_tellDrawn_67 : decode cX6_tellDrawn 67 = .ok (.iload 5, 2) := by decide +kernel
theorem dX6_tellDrawn_69 : decode cX6_tellDrawn 69 = .ok (.iload 7, 2) := by decide +kernel
theorem dX6_tellDrawn_71 : decode cX6_tellDrawn 71 = .ok (.iadd, 1) := by decide +kernel
theorem dX6_tellDrawn_72 : decode cX6_tellDrawn 72 = .ok (.istore 5, 2) := by decide +kernel
theorem dX6_tellDrawn_74 : decode cX6_tellDrawn 74 = .ok (.goto (-68), 3) := by decide +kernel
theorem dX6_tellDrawn_77 : decode cX6_tellDrawn 77 = .ok (.aload_n 0, 1) := by decide +kernel
theorem dX6_tellDrawn_78 : decode cX6_tellDrawn 78 = .ok (.bipush 64, 2) := by decide +kernel
theorem dX6_tellDrawn_80 : decode cX6_tellDrawn 80 = .ok (.iload_n 1, 1) := by decide +kernel
theorem dX6_tellDrawn_81 : decode cX6_tellDrawn 81 = .ok (.iload 6, 2) := by decide +kernel
theorem dX6_tellDrawn_83 : decode cX6_tellDrawn 83 = .ok (.iload_n 3, 1) := by decide +kernel
theorem dX6_tellDrawn_84 : decode cX6_tellDrawn 84 = .ok (.iload 4, 2) := by decide +kernel
theorem dX6_tellDrawn_86 : decode cX6_tellDrawn 86 = .ok (.invokevirtual 108, 3) := by decide +kernel
theorem dX6_tellDrawn_89 : decode cX6_tellDrawn 89 = .ok (.return_, 1) := by decide +kernel
set_option maxRecDepth 100000 in
theorem ggX6_tellRow_X6_dot : GoodIn wsX6_tellRow wsX6_dot := goodIn_r _ [6, 7, 8, 9, 10, 5, 11, 1, 12, 31, 32, 33, 34, 35, 36, 37, 38, 39, 40, 41, 42, 43, 44, 45, 46] rfl (by decide +kernel)
set_option maxRecDepth 20000 in
theorem gX6_tellRow_X6_dot : GoodIn wsX6_tellRow (wsV RX6 74 RX6 yX6_dot wsX6_dot) := goodIn_app (goodIn_of _ (by decide +kernel)) ggX6_tellRow_X6_dot
set_option maxRecDepth 100000 in
theorem ggX6_tellRow_X6_tellDrawn : GoodIn wsX6_tellRow wsX6_tellDrawn := goodIn_r _ [16, 17, 18, 19, 5, 20, 2, 3, 4, 6, 7, 8, 9, 10, 11, 1, 12, 21, 22, 23, 24, 25, 26, 27, 28, 29, 30, 31, 32, 33, 34, 35, 36, 37, 38, 39, 40, 41, 42, 43, 44, 45, 46] rfl (by decide +kernel)
set_option maxRecDepth 20000 in
theorem gX6_tellRow_X6_tellDrawn : GoodIn wsX6_tellRow (wsV RX6 112 RX6 yX6_tellDrawn wsX6_tellDrawn) := goodIn_app (goodIn_of _ (by decide +kernel)) ggX6_tellRow_X6_tellDrawn
set_option maxRecDepth 100000 in
theorem ggX6_tellRow_X6_tellStretch : GoodIn wsX6_tellRow wsX6_tellStretch := goodIn_r _ [24, 25, 26, 27, 5, 28, 29, 30, 2, 3, 4, 6, 7, 8, 9, 10, 11, 1, 12, 31, 32, 33, 34, 35, 36, 37, 38, 39, 40, 41, 42, 43, 44, 45, 46] rfl (by decide +kernel)
set_option maxRecDepth 20000 in
theorem gX6_tellRow_X6_tellStretch : GoodIn wsX6_tellRow (wsV RX6 108 RX6 yX6_tellStretch wsX6_tellStretch) := goodIn_app (goodIn_of _ (by decide +kernel)) ggX6_tellRow_X6_tellStretch
set_option maxRecDepth 100000 in
theorem ggX6_tellRow_X6_put : GoodIn wsX6_tellRow wsX6_put := goodIn_r _ [28, 29, 30, 31, 32, 33, 34, 35, 36, 37, 38, 39, 40, 41, 42, 43, 44, 45, 46] rfl (by decide +kernel)
set_option maxRecDepth 20000 in
theorem gX6_tellRow_X6_put : GoodIn wsX6_tellRow (wsV RX6 100 RX6 yX6_put wsX6_put) := goodIn_app (goodIn_of _ (by decide +kernel)) ggX6_tellRow_X6_put
theorem dX6_tellRow_0 : decode cX6_tellRow 0 = .ok (.iconst 0, 1) := by decide +kernel
theorem dX6_tellRow_1 : decode cX6_tellRow 1 = .ok (.istore 4, 2) := by decide +kernel
theorem dX6_tellRow_3 : decode cX6_tellRow 3 = .ok (.iload 4, 2) := by decide +kernel
theorem dX6_tellRow_5 : decode cX6_tellRow 5 = .ok (.aload_n 0, 1) := by decide +kernel
theorem dX6_tellRow_6 : decode cX6_tellRow 6 = .ok (.getfield 13, 3) := by decide +kernel
theorem dX6_tellRow_9 : decode cX6_tellRow 9 = .ok (.iload_n 1, 1) := by decide +kernel
theorem dX6_tellRow_10 : decode cX6_tellRow 10 = .ok (.iaload, 1) := by decide +kernel
theorem dX6_tellRow_11 : decode cX6_tellRow 11 = .ok (.if_icmp .ge 116, 3) := by decide +kernel
theorem dX6_tellRow_14 : decode cX6_tellRow 14 = .ok (.iload 4, 2) := by decide +kernel
theorem dX6_tellRow_16 : decode cX6_tellRow 16 = .ok (.istore 5, 2) := by decide +kernel
theorem dX6_tellRow_18 : decode cX6_tellRow 18 = .ok (.aload_n 0, 1) := by decide +kernel
theorem dX6_tellRow_19 : decode cX6_tellRow 19 = .ok (.iload_n 1, 1) := by decide +kernel
theorem dX6_tellRow_20 : decode cX6_tellRow 20 = .ok (.iload 4, 2) := by decide +kernel
theorem dX6_tellRow_22 : decode cX6_tellRow 22 = .ok (.i2l, 1) := by decide +kernel
theorem dX6_tellRow_23 : decode cX6_tellRow 23 = .ok (.iload_n 3, 1) := by decide +kernel
theorem dX6_tellRow_24 : decode cX6_tellRow 24 = .ok (.i2l, 1) := by decide +kernel
theorem dX6_tellRow_25 : decode cX6_tellRow 25 = .ok (.invokevirtual 74, 3) := by decide +kernel
theorem dX6_tellRow_28 : decode cX6_tellRow 28 = .ok (.iload_n 2, 1) := by decide +kernel
theorem dX6_tellRow_29 : decode cX6_tellRow 29 = .ok (.if_icmp .eq 7, 3) := by decide +kernel
theorem dX6_tellRow_32 : decode cX6_tellRow 32 = .ok (.iconst 1, 1) := by decide +kernel
theorem dX6_tellRow_33 : decode cX6_tellRow 33 = .ok (.goto 4, 3) := by decide +kernel
theorem dX6_tellRow_36 : decode cX6_tellRow 36 = .ok (.iconst 0, 1) := by decide +kernel
theorem dX6_tellRow_37 : decode cX6_tellRow 37 = .ok (.istore 6, 2) := by decide +kernel
theorem dX6_tellRow_39 : decode cX6_tellRow 39 = .ok (.iload 5, 2) := by decide +kernel
theorem dX6_tellRow_41 : decode cX6_tellRow 41 = .ok (.aload_n 0, 1) := by decide +kernel
theorem dX6_tellRow_42 : decode cX6_tellRow 42 = .ok (.getfield 13, 3) := by decide +kernel
theorem dX6_tellRow_45 : decode cX6_tellRow 45 = .ok (.iload_n 1, 1) := by decide +kernel
theorem dX6_tellRow_46 : decode cX6_tellRow 46 = .ok (.iaload, 1) := by decide +kernel
theorem dX6_tellRow_47 : decode cX6_tellRow 47 = .ok (.if_icmp .ge 33, 3) := by decide +kernel
theorem dX6_tellRow_50 : decode cX6_tellRow 50 = .ok (.aload_n 0, 1) := by decide +kernel
theorem dX6_tellRow_51 : decode cX6_tellRow 51 = .ok (.iload_n 1, 1) := by decide +kernel
theorem dX6_tellRow_52 : decode cX6_tellRow 52 = .ok (.iload 5, 2) := by decide +kernel
theorem dX6_tellRow_54 : decode cX6_tellRow 54 = .ok (.i2l, 1) := by decide +kernel
theorem dX6_tellRow_55 : decode cX6_tellRow 55 = .ok (.iload_n 3, 1) := by decide +kernel
theorem dX6_tellRow_56 : decode cX6_tellRow 56 = .ok (.i2l, 1) := by decide +kernel
theorem dX6_tellRow_57 : decode cX6_tellRow 57 = .ok (.invokevirtual 74, 3) := by decide +kernel
theorem dX6_tellRow_60 : decode cX6_tellRow 60 = .ok (.iload_n 2, 1) := by decide +kernel
theorem dX6_tellRow_61 : decode cX6_tellRow 61 = .ok (.if_icmp .eq 7, 3) := by decide +kernel
theorem dX6_tellRow_64 : decode cX6_tellRow 64 = .ok (.iconst 1, 1) := by decide +kernel
theorem dX6_tellRow_65 : decode cX6_tellRow 65 = .ok (.goto 4, 3) := by decide +kernel
theorem dX6_tellRow_68 : decode cX6_tellRow 68 = .ok (.iconst 0, 1) := by decide +kernel
theorem dX6_tellRow_69 : decode cX6_tellRow 69 = .ok (.iload 6, 2) := by decide +kernel
theorem dX6_tellRow_71 : decode cX6_tellRow 71 = .ok (.if_icmp .ne 9, 3) := by decide +kernel
theorem dX6_tellRow_74 : decode cX6_tellRow 74 = .ok (.iinc 5 1, 3) := by decide +kernel
theorem dX6_tellRow_77 : decode cX6_tellRow 77 = .ok (.goto (-38), 3) := by decide +kernel
theorem dX6_tellRow_80 : decode cX6_tellRow 80 = .ok (.iload 6, 2) := by decide +kernel
theorem dX6_tellRow_82 : decode cX6_tellRow 82 = .ok (.ifCond .eq 16, 3) := by decide +kernel
theorem dX6_tellRow_85 : decode cX6_tellRow 85 = .ok (.aload_n 0, 1) := by decide +kernel
theorem dX6_tellRow_86 : decode cX6_tellRow 86 = .ok (.iload_n 1, 1) := by decide +kernel
theorem dX6_tellRow_87 : decode cX6_tellRow 87 = .ok (.iload 4, 2) := by decide +kernel
theorem dX6_tellRow_89 : decode cX6_tellRow 89 = .ok (.iload 5, 2) := by decide +kernel
theorem dX6_tellRow_91 : decode cX6_tellRow 91 = .ok (.iload_n 3, 1) := by decide +kernel
theorem dX6_tellRow_92 : decode cX6_tellRow 92 = .ok (.invokevirtual 112, 3) := by decide +kernel
theorem dX6_tellRow_95 : decode cX6_tellRow 95 = .ok (.goto 25, 3) := by decide +kernel
theorem dX6_tellRow_98 : decode cX6_tellRow 98 = .ok (.iload 5, 2) := by decide +kernel
theorem dX6_tellRow_100 : decode cX6_tellRow 100 = .ok (.aload_n 0, 1) := by decide +kernel
theorem dX6_tellRow_101 : decode cX6_tellRow 101 = .ok (.getfield 13, 3) := by decide +kernel
theorem dX6_tellRow_104 : decode cX6_tellRow 104 = .ok (.iload_n 1, 1) := by decide +kernel
theorem dX6_tellRow_105 : decode cX6_tellRow 105 = .ok (.iaload, 1) := by decide +kernel
theorem dX6_tellRow_106 : decode cX6_tellRow 106 = .ok (.if_icmp .ge 14, 3) := by decide +kernel
theorem dX6_tellRow_109 : decode cX6_tellRow 109 = .ok (.aload_n 0, 1) := by decide +kernel
theorem dX6_tellRow_110 : decode cX6_tellRow 110 = .ok (.iconst 0, 1) := by decide +kernel
theorem dX6_tellRow_111 : decode cX6_tellRow 111 = .ok (.iload_n 1, 1) := by decide +kernel
theorem dX6_tellRow_112 : decode cX6_tellRow 112 = .ok (.iload 4, 2) := by decide +kernel
theorem dX6_tellRow_114 : decode cX6_tellRow 114 = .ok (.iload 5, 2) := by decide +kernel
theorem dX6_tellRow_116 : decode cX6_tellRow 116 = .ok (.iload_n 3, 1) := by decide +kernel
theorem dX6_tellRow_117 : decode cX6_tellRow 117 = .ok (.invokevirtual 108, 3) := by decide +kernel
theorem dX6_tellRow_120 : decode cX6_tellRow 120 = .ok (.iload 5, 2) := by decide +kernel
theorem dX6_tellRow_122 : decode cX6_tellRow 122 = .ok (.istore 4, 2) := by decide +kernel
theorem dX6_tellRow_124 : decode cX6_tellRow 124 = .ok (.goto (-121), 3) := by decide +kernel
theorem dX6_tellRow_127 : decode cX6_tellRow 127 = .ok (.aload_n 0, 1) := by decide +kernel
theorem dX6_tellRow_128 : decode cX6_tellRow 128 = .ok (.iconst 0, 1) := by decide +kernel
theorem dX6_tellRow_129 : decode cX6_tellRow 129 = .ok (.invokevirtual 100, 3) := by decide +kernel
theorem dX6_tellRow_132 : decode cX6_tellRow 132 = .ok (.return_, 1) := by decide +kernel
set_option maxRecDepth 100000 in
theorem ggX6_tell_X6_isSprite : GoodIn wsX6_tell wsX6_isSprite := goodIn_r _ [10] rfl (by decide +kernel)
set_option maxRecDepth 20000 in
theorem gX6_tell_X6_isSprite : GoodIn wsX6_tell (wsV RX6 116 RX6 yX6_isSprite wsX6_isSprite) := goodIn_app (goodIn_of _ (by decide +kernel)) ggX6_tell_X6_isSprite
set_option maxRecDepth 100000 in
theorem ggX6_tell_X6_isSurface : GoodIn wsX6_tell wsX6_isSurface := goodIn_r _ [14, 15, 46, 47, 48, 49, 50, 51, 52, 53, 54, 55, 56, 57, 58, 59, 60, 61] rfl (by decide +kernel)
set_option maxRecDepth 20000 in
theorem gX6_tell_X6_isSurface : GoodIn wsX6_tell (wsV RX6 59 RX6 yX6_isSurface wsX6_isSurface) := goodIn_app (goodIn_of _ (by decide +kernel)) ggX6_tell_X6_isSurface
set_option maxRecDepth 100000 in
theorem ggX6_tell_X6_tellRow : GoodIn wsX6_tell wsX6_tellRow := goodIn_r _ [19, 20, 21, 22, 23, 9, 24, 25, 26, 27, 28, 29, 2, 30, 31, 32, 33, 34, 35, 36, 37, 38, 39, 40, 41, 42, 43, 44, 45, 5, 1, 46, 47, 48, 49, 50, 51, 52, 53, 54, 55, 56, 57, 58, 59, 60, 61] rfl (by decide +kernel)
set_option maxRecDepth 20000 in
theorem gX6_tell_X6_tellRow : GoodIn wsX6_tell (wsV RX6 119 RX6 yX6_tellRow wsX6_tellRow) := goodIn_app (goodIn_of _ (by decide +kernel)) ggX6_tell_X6_tellRow
theorem dX6_tell_0 : decode cX6_tell 0 = .ok (.aload_n 0, 1) := by decide +kernel
theorem dX6_tell_1 : decode cX6_tell 1 = .ok (.iload_n 1, 1) := by decide +kernel
theorem dX6_tell_2 : decode cX6_tell 2 = .ok (.invokevirtual 116, 3) := by decide +kernel
theorem dX6_tell_5 : decode cX6_tell 5 = .ok (.ifCond .eq 11, 3) := by decide +kernel
theorem dX6_tell_8 : decode cX6_tell 8 = .ok (.aload_n 0, 1) := by decide +kernel
theorem dX6_tell_9 : decode cX6_tell 9 = .ok (.iload_n 2, 1) := by decide +kernel
theorem dX6_tell_10 : decode cX6_tell 10 = .ok (.invokevirtual 59, 3) := by decide +kernel
theorem dX6_tell_13 : decode cX6_tell 13 = .ok (.ifCond .ne 5, 3) := by decide +kernel
theorem dX6_tell_16 : decode cX6_tell 16 = .ok (.iconst (-1), 1) := by decide +kernel
theorem dX6_tell_17 : decode cX6_tell 17 = .ok (.ireturn, 1) := by decide +kernel
theorem dX6_tell_18 : decode cX6_tell 18 = .ok (.aload_n 0, 1) := by decide +kernel
theorem dX6_tell_19 : decode cX6_tell 19 = .ok (.iconst 0, 1) := by decide +kernel
theorem dX6_tell_20 : decode cX6_tell 20 = .ok (.putfield 97, 3) := by decide +kernel
theorem dX6_tell_23 : decode cX6_tell 23 = .ok (.iconst 0, 1) := by decide +kernel
theorem dX6_tell_24 : decode cX6_tell 24 = .ok (.istore 4, 2) := by decide +kernel
theorem dX6_tell_26 : decode cX6_tell 26 = .ok (.iload 4, 2) := by decide +kernel
theorem dX6_tell_28 : decode cX6_tell 28 = .ok (.aload_n 0, 1) := by decide +kernel
theorem dX6_tell_29 : decode cX6_tell 29 = .ok (.getfield 16, 3) := by decide +kernel
theorem dX6_tell_32 : decode cX6_tell 32 = .ok (.iload_n 2, 1) := by decide +kernel
theorem dX6_tell_33 : decode cX6_tell 33 = .ok (.iaload, 1) := by decide +kernel
theorem dX6_tell_34 : decode cX6_tell 34 = .ok (.if_icmp .ge 17, 3) := by decide +kernel
theorem dX6_tell_37 : decode cX6_tell 37 = .ok (.aload_n 0, 1) := by decide +kernel
theorem dX6_tell_38 : decode cX6_tell 38 = .ok (.iload_n 2, 1) := by decide +kernel
theorem dX6_tell_39 : decode cX6_tell 39 = .ok (.iload_n 3, 1) := by decide +kernel
theorem dX6_tell_40 : decode cX6_tell 40 = .ok (.iload 4, 2) := by decide +kernel
theorem dX6_tell_42 : decode cX6_tell 42 = .ok (.invokevirtual 119, 3) := by decide +kernel
theorem dX6_tell_45 : decode cX6_tell 45 = .ok (.iinc 4 1, 3) := by decide +kernel
theorem dX6_tell_48 : decode cX6_tell 48 = .ok (.goto (-22), 3) := by decide +kernel
theorem dX6_tell_51 : decode cX6_tell 51 = .ok (.aload_n 0, 1) := by decide +kernel
theorem dX6_tell_52 : decode cX6_tell 52 = .ok (.getfield 97, 3) := by decide +kernel
theorem dX6_tell_55 : decode cX6_tell 55 = .ok (.sipush 5000, 3) := by decide +kernel
theorem dX6_tell_58 : decode cX6_tell 58 = .ok (.if_icmp .le 5, 3) := by decide +kernel
theorem dX6_tell_61 : decode cX6_tell 61 = .ok (.iconst (-1), 1) := by decide +kernel
theorem dX6_tell_62 : decode cX6_tell 62 = .ok (.ireturn, 1) := by decide +kernel
theorem dX6_tell_63 : decode cX6_tell 63 = .ok (.aload_n 0, 1) := by decide +kernel
theorem dX6_tell_64 : decode cX6_tell 64 = .ok (.getfield 33, 3) := by decide +kernel
theorem dX6_tell_67 : decode cX6_tell 67 = .ok (.iload_n 1, 1) := by decide +kernel
theorem dX6_tell_68 : decode cX6_tell 68 = .ok (.aload_n 0, 1) := by decide +kernel
theorem dX6_tell_69 : decode cX6_tell 69 = .ok (.getfield 97, 3) := by decide +kernel
theorem dX6_tell_72 : decode cX6_tell 72 = .ok (.iastore, 1) := by decide +kernel
theorem dX6_tell_73 : decode cX6_tell 73 = .ok (.iconst 0, 1) := by decide +kernel
theorem dX6_tell_74 : decode cX6_tell 74 = .ok (.istore 4, 2) := by decide +kernel
theorem dX6_tell_76 : decode cX6_tell 76 = .ok (.iload 4, 2) := by decide +kernel
theorem dX6_tell_78 : decode cX6_tell 78 = .ok (.aload_n 0, 1) := by decide +kernel
theorem dX6_tell_79 : decode cX6_tell 79 = .ok (.getfield 97, 3) := by decide +kernel
theorem dX6_tell_82 : decode cX6_tell 82 = .ok (.if_icmp .ge 29, 3) := by decide +kernel
theorem dX6_tell_85 : decode cX6_tell 85 = .ok (.aload_n 0, 1) := by decide +kernel
theorem dX6_tell_86 : decode cX6_tell 86 = .ok (.getfield 36, 3) := by decide +kernel
theorem dX6_tell_89 : decode cX6_tell 89 = .ok (.sipush 5000, 3) := by decide +kernel
theorem dX6_tell_92 : decode cX6_tell 92 = .ok (.iload_n 1, 1) := by decide +kernel
theorem dX6_tell_93 : decode cX6_tell 93 = .ok (.imul, 1) := by decide +kernel
theorem dX6_tell_94 : decode cX6_tell 94 = .ok (.iload 4, 2) := by decide +kernel
theorem dX6_tell_96 : decode cX6_tell 96 = .ok (.iadd, 1) := by decide +kernel
theorem dX6_tell_97 : decode cX6_tell 97 = .ok (.aload_n 0, 1) := by decide +kernel
theorem dX6_tell_98 : decode cX6_tell 98 = .ok (.getfield 39, 3) := by decide +kernel
theorem dX6_tell_101 : decode cX6_tell 101 = .ok (.iload 4, 2) := by decide +kernel
theorem dX6_tell_103 : decode cX6_tell 103 = .ok (.iaload, 1) := by decide +kernel
theorem dX6_tell_104 : decode cX6_tell 104 = .ok (.iastore, 1) := by decide +kernel
theorem dX6_tell_105 : decode cX6_tell 105 = .ok (.iinc 4 1, 3) := by decide +kernel
theorem dX6_tell_108 : decode cX6_tell 108 = .ok (.goto (-32), 3) := by decide +kernel
theorem dX6_tell_111 : decode cX6_tell 111 = .ok (.aload_n 0, 1) := by decide +kernel
theorem dX6_tell_112 : decode cX6_tell 112 = .ok (.getfield 97, 3) := by decide +kernel
theorem dX6_tell_115 : decode cX6_tell 115 = .ok (.ireturn, 1) := by decide +kernel
set_option maxRecDepth 100000 in
theorem ggX6_load_X6_isSprite : GoodIn wsX6_load wsX6_isSprite := goodIn_r _ [7] rfl (by decide +kernel)
set_option maxRecDepth 20000 in
theorem gX6_load_X6_isSprite : GoodIn wsX6_load (wsV RX6 116 RX6 yX6_isSprite wsX6_isSprite) := goodIn_app (goodIn_of _ (by decide +kernel)) ggX6_load_X6_isSprite
theorem dX6_load_0 : decode cX6_load 0 = .ok (.aload_n 0, 1) := by decide +kernel
theorem dX6_load_1 : decode cX6_load 1 = .ok (.iload_n 1, 1) := by decide +kernel
theorem dX6_load_2 : decode cX6_load 2 = .ok (.invokevirtual 116, 3) := by decide +kernel
theorem dX6_load_5 : decode cX6_load 5 = .ok (.ifCond .eq 31, 3) := by decide +kernel
theorem dX6_load_8 : decode cX6_load 8 = .ok (.iload 4, 2) := by decide +kernel
theorem dX6_load_10 : decode cX6_load 10 = .ok (.iconst 1, 1) := by decide +kernel
theorem dX6_load_11 : decode cX6_load 11 = .ok (.if_icmp .lt 25, 3) := by decide +kernel
theorem dX6_load_14 : decode cX6_load 14 = .ok (.iload 4, 2) := by decide +kernel
theorem dX6_load_16 : decode cX6_load 16 = .ok (.bipush 8, 2) := by decide +kernel
theorem dX6_load_18 : decode cX6_load 18 = .ok (.if_icmp .gt 18, 3) := by decide +kernel
theorem dX6_load_21 : decode cX6_load 21 = .ok (.aload_n 0, 1) := by decide +kernel
theorem dX6_load_22 : decode cX6_load 22 = .ok (.getfield 33, 3) := by decide +kernel
theorem dX6_load_25 : decode cX6_load 25 = .ok (.iload_n 1, 1) := by decide +kernel
theorem dX6_load_26 : decode cX6_load 26 = .ok (.iaload, 1) := by decide +kernel
theorem dX6_load_27 : decode cX6_load 27 = .ok (.iload 4, 2) := by decide +kernel
theorem dX6_load_29 : decode cX6_load 29 = .ok (.iadd, 1) := by decide +kernel
theorem dX6_load_30 : decode cX6_load 30 = .ok (.sipush 5000, 3) := by decide +kernel
theorem dX6_load_33 : decode cX6_load 33 = .ok (.if_icmp .le 5, 3) := by decide +kernel
theorem dX6_load_36 : decode cX6_load 36 = .ok (.iconst (-1), 1) := by decide +kernel
theorem dX6_load_37 : decode cX6_load 37 = .ok (.ireturn, 1) := by decide +kernel
theorem dX6_load_38 : decode cX6_load 38 = .ok (.iload 4, 2) := by decide +kernel
theorem dX6_load_40 : decode cX6_load 40 = .ok (.iconst 1, 1) := by decide +kernel
theorem dX6_load_41 : decode cX6_load 41 = .ok (.isub, 1) := by decide +kernel
theorem dX6_load_42 : decode cX6_load 42 = .ok (.istore 5, 2) := by decide +kernel
theorem dX6_load_44 : decode cX6_load 44 = .ok (.iload 5, 2) := by decide +kernel
theorem dX6_load_46 : decode cX6_load 46 = .ok (.ifCond .lt 48, 3) := by decide +kernel
theorem dX6_load_49 : decode cX6_load 49 = .ok (.aload_n 0, 1) := by decide +kernel
theorem dX6_load_50 : decode cX6_load 50 = .ok (.getfield 36, 3) := by decide +kernel
theorem dX6_load_53 : decode cX6_load 53 = .ok (.sipush 5000, 3) := by decide +kernel
theorem dX6_load_56 : decode cX6_load 56 = .ok (.iload_n 1, 1) := by decide +kernel
theorem dX6_load_57 : decode cX6_load 57 = .ok (.imul, 1) := by decide +kernel
theorem dX6_load_58 : decode cX6_load 58 = .ok (.aload_n 0, 1) := by decide +kernel
theorem dX6_load_59 : decode cX6_load 59 = .ok (.getfield 33, 3) := by decide +kernel
theorem dX6_load_62 : decode cX6_load 62 = .ok (.iload_n 1, 1) := by decide +kernel
theorem dX6_load_63 : decode cX6_load 63 = .ok (.iaload, 1) := by decide +kernel
theorem dX6_load_64 : decode cX6_load 64 = .ok (.iadd, 1) := by decide +kernel
theorem dX6_load_65 : decode cX6_load 65 = .ok (.lload_n 2, 1) := by decide +kernel
theorem dX6_load_66 : decode cX6_load 66 = .ok (.bipush 8, 2) := by decide +kernel
theorem dX6_load_68 : decode cX6_load 68 = .ok (.iload 5, 2) := by decide +kernel
theorem dX6_load_70 : decode cX6_load 70 = .ok (.imul, 1) := by decide +kernel
theorem dX6_load_71 : decode cX6_load 71 = .ok (.lshr, 1) := by decide +kernel
theorem dX6_load_72 : decode cX6_load 72 = .ok (.l2i, 1) := by decide +kernel
theorem dX6_load_73 : decode cX6_load 73 = .ok (.sipush 255, 3) := by decide +kernel
theorem dX6_load_76 : decode cX6_load 76 = .ok (.iand, 1) := by decide +kernel
theorem dX6_load_77 : decode cX6_load 77 = .ok (.iastore, 1) := by decide +kernel
theorem dX6_load_78 : decode cX6_load 78 = .ok (.aload_n 0, 1) := by decide +kernel
theorem dX6_load_79 : decode cX6_load 79 = .ok (.getfield 33, 3) := by decide +kernel
theorem dX6_load_82 : decode cX6_load 82 = .ok (.iload_n 1, 1) := by decide +kernel
theorem dX6_load_83 : decode cX6_load 83 = .ok (.dup2, 1) := by decide +kernel
theorem dX6_load_84 : decode cX6_load 84 = .ok (.iaload, 1) := by decide +kernel
theorem dX6_load_85 : decode cX6_load 85 = .ok (.iconst 1, 1) := by decide +kernel
theorem dX6_load_86 : decode cX6_load 86 = .ok (.iadd, 1) := by decide +kernel
theorem dX6_load_87 : decode cX6_load 87 = .ok (.iastore, 1) := by decide +kernel
theorem dX6_load_88 : decode cX6_load 88 = .ok (.iinc 5 (-1), 3) := by decide +kernel
theorem dX6_load_91 : decode cX6_load 91 = .ok (.goto (-47), 3) := by decide +kernel
theorem dX6_load_94 : decode cX6_load 94 = .ok (.aload_n 0, 1) := by decide +kernel
theorem dX6_load_95 : decode cX6_load 95 = .ok (.getfield 33, 3) := by decide +kernel
theorem dX6_load_98 : decode cX6_load 98 = .ok (.iload_n 1, 1) := by decide +kernel
theorem dX6_load_99 : decode cX6_load 99 = .ok (.iaload, 1) := by decide +kernel
theorem dX6_load_100 : decode cX6_load 100 = .ok (.ireturn, 1) := by decide +kernel
set_option maxRecDepth 100000 in
theorem ggX6_forget_X6_isSprite : GoodIn wsX6_forget wsX6_isSprite := goodIn_r _ [6] rfl (by decide +kernel)
set_option maxRecDepth 20000 in
theorem gX6_forget_X6_isSprite : GoodIn wsX6_forget (wsV RX6 116 RX6 yX6_isSprite wsX6_isSprite) := goodIn_app (goodIn_of _ (by decide +kernel)) ggX6_forget_X6_isSprite
theorem dX6_forget_0 : decode cX6_forget 0 = .ok (.aload_n 0, 1) := by decide +kernel
theorem dX6_forget_1 : decode cX6_forget 1 = .ok (.iload_n 1, 1) := by decide +kernel
theorem dX6_forget_2 : decode cX6_forget 2 = .ok (.invokevirtual 116, 3) := by decide +kernel
theorem dX6_forget_5 : decode cX6_forget 5 = .ok (.ifCond .ne 5, 3) := by decide +kernel
theorem dX6_forget_8 : decode cX6_forget 8 = .ok (.iconst (-1), 1) := by decide +kernel
theorem dX6_forget_9 : decode cX6_forget 9 = .ok (.ireturn, 1) := by decide +kernel
theorem dX6_forget_10 : decode cX6_forget 10 = .ok (.aload_n 0, 1) := by decide +kernel
theorem dX6_forget_11 : decode cX6_forget 11 = .ok (.getfield 33, 3) := by decide +kernel
theorem dX6_forget_14 : decode cX6_forget 14 = .ok (.iload_n 1, 1) := by decide +kernel
theorem dX6_forget_15 : decode cX6_forget 15 = .ok (.iaload, 1) := by decide +kernel
theorem dX6_forget_16 : decode cX6_forget 16 = .ok (.istore_n 2, 1) := by decide +kernel
theorem dX6_forget_17 : decode cX6_forget 17 = .ok (.aload_n 0, 1) := by decide +kernel
theorem dX6_forget_18 : decode cX6_forget 18 = .ok (.getfield 33, 3) := by decide +kernel
theorem dX6_forget_21 : decode cX6_forget 21 = .ok (.iload_n 1, 1) := by decide +kernel
theorem dX6_forget_22 : decode cX6_forget 22 = .ok (.iconst 0, 1) := by decide +kernel
theorem dX6_forget_23 : decode cX6_forget 23 = .ok (.iastore, 1) := by decide +kernel
theorem dX6_forget_24 : decode cX6_forget 24 = .ok (.iload_n 2, 1) := by decide +kernel
theorem dX6_forget_25 : decode cX6_forget 25 = .ok (.ireturn, 1) := by decide +kernel
set_option maxRecDepth 100000 in
theorem ggX6_part_X6_isSprite : GoodIn wsX6_part wsX6_isSprite := goodIn_r _ [7] rfl (by decide +kernel)
set_option maxRecDepth 20000 in
theorem gX6_part_X6_isSprite : GoodIn wsX6_part (wsV RX6 116 RX6 yX6_isSprite wsX6_isSprite) := goodIn_app (goodIn_of _ (by decide +kernel)) ggX6_part_X6_isSprite
theorem dX6_part_0 : decode cX6_part 0 = .ok (.aload_n 0, 1) := by decide +kernel
theorem dX6_part_1 : decode cX6_part 1 = .ok (.iload_n 1, 1) := by decide +kernel
theorem dX6_part_2 : decode cX6_part 2 = .ok (.invokevirtual 116, 3) := by decide +kernel
theorem dX6_part_5 : decode cX6_part 5 = .ok (.ifCond .eq 32, 3) := by decide +kernel
theorem dX6_part_8 : decode cX6_part 8 = .ok (.iload_n 2, 1) := by decide +kernel
theorem dX6_part_9 : decode cX6_part 9 = .ok (.ifCond .lt 28, 3) := by decide +kernel
theorem dX6_part_12 : decode cX6_part 12 = .ok (.iload_n 2, 1) := by decide +kernel
theorem dX6_part_13 : decode cX6_part 13 = .ok (.aload_n 0, 1) := by decide +kernel
theorem dX6_part_14 : decode cX6_part 14 = .ok (.getfield 33, 3) := by decide +kernel
theorem dX6_part_17 : decode cX6_part 17 = .ok (.iload_n 1, 1) := by decide +kernel
theorem dX6_part_18 : decode cX6_part 18 = .ok (.iaload, 1) := by decide +kernel
theorem dX6_part_19 : decode cX6_part 19 = .ok (.if_icmp .ge 18, 3) := by decide +kernel
theorem dX6_part_22 : decode cX6_part 22 = .ok (.aload_n 0, 1) := by decide +kernel
theorem dX6_part_23 : decode cX6_part 23 = .ok (.getfield 36, 3) := by decide +kernel
theorem dX6_part_26 : decode cX6_part 26 = .ok (.sipush 5000, 3) := by decide +kernel
theorem dX6_part_29 : decode cX6_part 29 = .ok (.iload_n 1, 1) := by decide +kernel
theorem dX6_part_30 : decode cX6_part 30 = .ok (.imul, 1) := by decide +kernel
theorem dX6_part_31 : decode cX6_part 31 = .ok (.iload_n 2, 1) := by decide +kernel
theorem dX6_part_32 : decode cX6_part 32 = .ok (.iadd, 1) := by decide +kernel
theorem dX6_part_33 : decode cX6_part 33 = .ok (.iaload, 1) := by decide +kernel
theorem dX6_part_34 : decode cX6_part 34 = .ok (.goto 4, 3) := by decide +kernel
theorem dX6_part_37 : decode cX6_part 37 = .ok (.iconst (-1), 1) := by decide +kernel
theorem dX6_part_38 : decode cX6_part 38 = .ok (.ireturn, 1) := by decide +kernel
theorem dX6_add_0 : decode cX6_add 0 = .ok (.aload_n 0, 1) := by decide +kernel
theorem dX6_add_1 : decode cX6_add 1 = .ok (.getfield 42, 3) := by decide +kernel
theorem dX6_add_4 : decode cX6_add 4 = .ok (.aload_n 0, 1) := by decide +kernel
theorem dX6_add_5 : decode cX6_add 5 = .ok (.getfield 123, 3) := by decide +kernel
theorem dX6_add_8 : decode cX6_add 8 = .ok (.iload_n 1, 1) := by decide +kernel
theorem dX6_add_9 : decode cX6_add 9 = .ok (.iastore, 1) := by decide +kernel
theorem dX6_add_10 : decode cX6_add 10 = .ok (.aload_n 0, 1) := by decide +kernel
theorem dX6_add_11 : decode cX6_add 11 = .ok (.getfield 45, 3) := by decide +kernel
theorem dX6_add_14 : decode cX6_add 14 = .ok (.aload_n 0, 1) := by decide +kernel
theorem dX6_add_15 : decode cX6_add 15 = .ok (.getfield 123, 3) := by decide +kernel
theorem dX6_add_18 : decode cX6_add 18 = .ok (.iload_n 2, 1) := by decide +kernel
theorem dX6_add_19 : decode cX6_add 19 = .ok (.iastore, 1) := by decide +kernel
theorem dX6_add_20 : decode cX6_add 20 = .ok (.aload_n 0, 1) := by decide +kernel
theorem dX6_add_21 : decode cX6_add 21 = .ok (.getfield 48, 3) := by decide +kernel
theorem dX6_add_24 : decode cX6_add 24 = .ok (.aload_n 0, 1) := by decide +kernel
theorem dX6_add_25 : decode cX6_add 25 = .ok (.getfield 123, 3) := by decide +kernel
theorem dX6_add_28 : decode cX6_add 28 = .ok (.iload_n 3, 1) := by decide +kernel
theorem dX6_add_29 : decode cX6_add 29 = .ok (.iastore, 1) := by decide +kernel
theorem dX6_add_30 : decode cX6_add 30 = .ok (.aload_n 0, 1) := by decide +kernel
theorem dX6_add_31 : decode cX6_add 31 = .ok (.dup, 1) := by decide +kernel
theorem dX6_add_32 : decode cX6_add 32 = .ok (.getfield 123, 3) := by decide +kernel
theorem dX6_add_35 : decode cX6_add 35 = .ok (.iconst 1, 1) := by decide +kernel
theorem dX6_add_36 : decode cX6_add 36 = .ok (.iadd, 1) := by decide +kernel
theorem dX6_add_37 : decode cX6_add 37 = .ok (.putfield 123, 3) := by decide +kernel
theorem dX6_add_40 : decode cX6_add 40 = .ok (.return_, 1) := by decide +kernel
set_option maxRecDepth 100000 in
theorem ggX6_readSprite_X6_fits : GoodIn wsX6_readSprite wsX6_fits := goodIn_r _ [8, 9, 17, 18, 19, 20, 21, 22, 23, 24, 25, 26, 27, 28, 29, 30, 31, 32] rfl (by decide +kernel)
set_option maxRecDepth 20000 in
theorem gX6_readSprite_X6_fits : GoodIn wsX6_readSprite (wsV RX6 70 RX6 yX6_fits wsX6_fits) := goodIn_app (goodIn_of _ (by decide +kernel)) ggX6_readSprite_X6_fits
set_option maxRecDepth 100000 in
theorem ggX6_readSprite_X6_add : GoodIn wsX6_readSprite wsX6_add := goodIn_r _ [13, 14, 1, 15, 16, 17, 18, 19, 20, 21, 22, 23, 24, 25, 26, 27, 28, 29, 30, 31, 32] rfl (by decide +kernel)
set_option maxRecDepth 20000 in
theorem gX6_readSprite_X6_add : GoodIn wsX6_readSprite (wsV RX6 126 RX6 yX6_add wsX6_add) := goodIn_app (goodIn_of _ (by decide +kernel)) ggX6_readSprite_X6_add
theorem dX6_readSprite_0 : decode cX6_readSprite 0 = .ok (.aload_n 0, 1) := by decide +kernel
theorem dX6_readSprite_1 : decode cX6_readSprite 1 = .ok (.iconst 0, 1) := by decide +kernel
theorem dX6_readSprite_2 : decode cX6_readSprite 2 = .ok (.putfield 123, 3) := by decide +kernel
theorem dX6_readSprite_5 : decode cX6_readSprite 5 = .ok (.aload_n 0, 1) := by decide +kernel
theorem dX6_readSprite_6 : decode cX6_readSprite 6 = .ok (.getfield 33, 3) := by decide +kernel
theorem dX6_readSprite_9 : decode cX6_readSprite 9 = .ok (.iload_n 1, 1) := by decide +kernel
theorem dX6_readSprite_10 : decode cX6_readSprite 10 = .ok (.iaload, 1) := by decide +kernel
theorem dX6_readSprite_11 : decode cX6_readSprite 11 = .ok (.istore_n 3, 1) := by decide +kernel
theorem dX6_readSprite_12 : decode cX6_readSprite 12 = .ok (.iconst 0, 1) := by decide +kernel
theorem dX6_readSprite_13 : decode cX6_readSprite 13 = .ok (.istore 4, 2) := by decide +kernel
theorem dX6_readSprite_15 : decode cX6_readSprite 15 = .ok (.iconst 0, 1) := by decide +kernel
theorem dX6_readSprite_16 : decode cX6_readSprite 16 = .ok (.istore 5, 2) := by decide +kernel
theorem dX6_readSprite_18 : decode cX6_readSprite 18 = .ok (.iconst 0, 1) := by decide +kernel
theorem dX6_readSprite_19 : decode cX6_readSprite 19 = .ok (.istore 6, 2) := by decide +kernel
theorem dX6_readSprite_21 : decode cX6_readSprite 21 = .ok (.iconst 0, 1) := by decide +kernel
theorem dX6_readSprite_22 : decode cX6_readSprite 22 = .ok (.istore 7, 2) := by decide +kernel
theorem dX6_readSprite_24 : decode cX6_readSprite 24 = .ok (.iload 7, 2) := by decide +kernel
theorem dX6_readSprite_26 : decode cX6_readSprite 26 = .ok (.iload_n 3, 1) := by decide +kernel
theorem dX6_readSprite_27 : decode cX6_readSprite 27 = .ok (.if_icmp .ge 227, 3) := by decide +kernel
theorem dX6_readSprite_30 : decode cX6_readSprite 30 = .ok (.aload_n 0, 1) := by decide +kernel
theorem dX6_readSprite_31 : decode cX6_readSprite 31 = .ok (.getfield 36, 3) := by decide +kernel
theorem dX6_readSprite_34 : decode cX6_readSprite 34 = .ok (.sipush 5000, 3) := by decide +kernel
theorem dX6_readSprite_37 : decode cX6_readSprite 37 = .ok (.iload_n 1, 1) := by decide +kernel
theorem dX6_readSprite_38 : decode cX6_readSprite 38 = .ok (.imul, 1) := by decide +kernel
theorem dX6_readSprite_39 : decode cX6_readSprite 39 = .ok (.iload 7, 2) := by decide +kernel
theorem dX6_readSprite_41 : decode cX6_readSprite 41 = .ok (.iadd, 1) := by decide +kernel
theorem dX6_readSprite_42 : decode cX6_readSprite 42 = .ok (.iaload, 1) := by decide +kernel
theorem dX6_readSprite_43 : decode cX6_readSprite 43 = .ok (.istore 8, 2) := by decide +kernel
theorem dX6_readSprite_45 : decode cX6_readSprite 45 = .ok (.iload 8, 2) := by decide +kernel
theorem dX6_readSprite_47 : decode cX6_readSprite 47 = .ok (.bipush 63, 2) := by decide +kernel
theorem dX6_readSprite_49 : decode cX6_readSprite 49 = .ok (.iand, 1) := by decide +kernel
theorem dX6_readSprite_50 : decode cX6_readSprite 50 = .ok (.istore 9, 2) := by decide +kernel
theorem dX6_readSprite_52 : decode cX6_readSprite 52 = .ok (.iload 8, 2) := by decide +kernel
theorem dX6_readSprite_54 : decode cX6_readSprite 54 = .ok (.bipush 6, 2) := by decide +kernel
theorem dX6_readSprite_56 : decode cX6_readSprite 56 = .ok (.ishr, 1) := by decide +kernel
theorem dX6_readSprite_57 : decode cX6_readSprite 57 = .ok (.istore 10, 2) := by decide +kernel
theorem dX6_readSprite_59 : decode cX6_readSprite 59 = .ok (.iload 4, 2) := by decide +kernel
theorem dX6_readSprite_61 : decode cX6_readSprite 61 = .ok (.bipush 64, 2) := by decide +kernel
theorem dX6_readSprite_63 : decode cX6_readSprite 63 = .ok (.if_icmp .eq 29, 3) := by decide +kernel
theorem dX6_readSprite_66 : decode cX6_readSprite 66 = .ok (.iload 8, 2) := by decide +kernel
theorem dX6_readSprite_68 : decode cX6_readSprite 68 = .ok (.ifCond .le 29, 3) := by decide +kernel
theorem dX6_readSprite_71 : decode cX6_readSprite 71 = .ok (.iload 10, 2) := by decide +kernel
theorem dX6_readSprite_73 : decode cX6_readSprite 73 = .ok (.iconst 3, 1) := by decide +kernel
theorem dX6_readSprite_74 : decode cX6_readSprite 74 = .ok (.if_icmp .eq 18, 3) := by decide +kernel
theorem dX6_readSprite_77 : decode cX6_readSprite 77 = .ok (.iload 9, 2) := by decide +kernel
theorem dX6_readSprite_79 : decode cX6_readSprite 79 = .ok (.ifCond .eq 13, 3) := by decide +kernel
theorem dX6_readSprite_82 : decode cX6_readSprite 82 = .ok (.iload 5, 2) := by decide +kernel
theorem dX6_readSprite_84 : decode cX6_readSprite 84 = .ok (.iload 9, 2) := by decide +kernel
theorem dX6_readSprite_86 : decode cX6_readSprite 86 = .ok (.iadd, 1) := by decide +kernel
theorem dX6_readSprite_87 : decode cX6_readSprite 87 = .ok (.bipush 64, 2) := by decide +kernel
theorem dX6_readSprite_89 : decode cX6_readSprite 89 = .ok (.if_icmp .le 8, 3) := by decide +kernel
theorem dX6_readSprite_92 : decode cX6_readSprite 92 = .ok (.iload 7, 2) := by decide +kernel
theorem dX6_readSprite_94 : decode cX6_readSprite 94 = .ok (.iconst 1, 1) := by decide +kernel
theorem dX6_readSprite_95 : decode cX6_readSprite 95 = .ok (.iadd, 1) := by decide +kernel
theorem dX6_readSprite_96 : decode cX6_readSprite 96 = .ok (.ireturn, 1) := by decide +kernel
theorem dX6_readSprite_97 : decode cX6_readSprite 97 = .ok (.iinc 7 1, 3) := by decide +kernel
theorem dX6_readSprite_100 : decode cX6_readSprite 100 = .ok (.iload 8, 2) := by decide +kernel
theorem dX6_readSprite_102 : decode cX6_readSprite 102 = .ok (.ifCond .ne 15, 3) := by decide +kernel
theorem dX6_readSprite_105 : decode cX6_readSprite 105 = .ok (.iinc 4 1, 3) := by decide +kernel
theorem dX6_readSprite_108 : decode cX6_readSprite 108 = .ok (.iconst 0, 1) := by decide +kernel
theorem dX6_readSprite_109 : decode cX6_readSprite 109 = .ok (.istore 5, 2) := by decide +kernel
theorem dX6_readSprite_111 : decode cX6_readSprite 111 = .ok (.iconst 0, 1) := by decide +kernel
theorem dX6_readSprite_112 : decode cX6_readSprite 112 = .ok (.istore 6, 2) := by decide +kernel
theorem dX6_readSprite_114 : decode cX6_readSprite 114 = .ok (.goto (-90), 3) := by decide +kernel
theorem dX6_readSprite_117 : decode cX6_readSprite 117 = .ok (.iconst 1, 1) := by decide +kernel
theorem dX6_readSprite_118 : decode cX6_readSprite 118 = .ok (.istore 6, 2) := by decide +kernel
theorem dX6_readSprite_120 : decode cX6_readSprite 120 = .ok (.iload 10, 2) := by decide +kernel
theorem dX6_readSprite_122 : decode cX6_readSprite 122 = .ok (.ifCond .ne 7, 3) := by decide +kernel
theorem dX6_readSprite_125 : decode cX6_readSprite 125 = .ok (.iconst 0, 1) := by decide +kernel
theorem dX6_readSprite_126 : decode cX6_readSprite 126 = .ok (.goto 15, 3) := by decide +kernel
theorem dX6_readSprite_129 : decode cX6_readSprite 129 = .ok (.iload 10, 2) := by decide +kernel
theorem dX6_readSprite_131 : decode cX6_readSprite 131 = .ok (.iconst 1, 1) := by decide +kernel
theorem dX6_readSprite_132 : decode cX6_readSprite 132 = .ok (.if_icmp .ne 8, 3) := by decide +kernel
theorem dX6_readSprite_135 : decode cX6_readSprite 135 = .ok (.iload 9, 2) := by decide +kernel
theorem dX6_readSprite_137 : decode cX6_readSprite 137 = .ok (.goto 4, 3) := by decide +kernel
theorem dX6_readSprite_140 : decode cX6_readSprite 140 = .ok (.iconst 1, 1) := by decide +kernel
theorem dX6_readSprite_141 : decode cX6_readSprite 141 = .ok (.istore 11, 2) := by decide +kernel
theorem dX6_readSprite_143 : decode cX6_readSprite 143 = .ok (.iconst 0, 1) := by decide +kernel
theorem dX6_readSprite_144 : decode cX6_readSprite 144 = .ok (.istore 12, 2) := by decide +kernel
theorem dX6_readSprite_146 : decode cX6_readSprite 146 = .ok (.iload 12, 2) := by decide +kernel
theorem dX6_readSprite_148 : decode cX6_readSprite 148 = .ok (.iload 11, 2) := by decide +kernel
theorem dX6_readSprite_150 : decode cX6_readSprite 150 = .ok (.if_icmp .ge 94, 3) := by decide +kernel
theorem dX6_readSprite_153 : decode cX6_readSprite 153 = .ok (.iload 7, 2) := by decide +kernel
theorem dX6_readSprite_155 : decode cX6_readSprite 155 = .ok (.iload_n 3, 1) := by decide +kernel
theorem dX6_readSprite_156 : decode cX6_readSprite 156 = .ok (.if_icmp .ne 7, 3) := by decide +kernel
theorem dX6_readSprite_159 : decode cX6_readSprite 159 = .ok (.iload_n 3, 1) := by decide +kernel
theorem dX6_readSprite_160 : decode cX6_readSprite 160 = .ok (.iconst 1, 1) := by decide +kernel
theorem dX6_readSprite_161 : decode cX6_readSprite 161 = .ok (.iadd, 1) := by decide +kernel
theorem dX6_readSprite_162 : decode cX6_readSprite 162 = .ok (.ireturn, 1) := by decide +kernel
theorem dX6_readSprite_163 : decode cX6_readSprite 163 = .ok (.aload_n 0, 1) := by decide +kernel
theorem dX6_readSprite_164 : decode cX6_readSprite 164 = .ok (.getfield 36, 3) := by decide +kernel
theorem dX6_readSprite_167 : decode cX6_readSprite 167 = .ok (.sipush 5000, 3) := by decide +kernel
theorem dX6_readSprite_170 : decode cX6_readSprite 170 = .ok (.iload_n 1, 1) := by decide +kernel
theorem dX6_readSprite_171 : decode cX6_readSprite 171 = .ok (.imul, 1) := by decide +kernel
theorem dX6_readSprite_172 : decode cX6_readSprite 172 = .ok (.iload 7, 2) := by decide +kernel
theorem dX6_readSprite_174 : decode cX6_readSprite 174 = .ok (.iadd, 1) := by decide +kernel
theorem dX6_readSprite_175 : decode cX6_readSprite 175 = .ok (.iaload, 1) := by decide +kernel
theorem dX6_readSprite_176 : decode cX6_readSprite 176 = .ok (.istore 13, 2) := by decide +kernel
theorem dX6_readSprite_178 : decode cX6_readSprite 178 = .ok (.aload_n 0, 1) := by decide +kernel
theorem dX6_readSprite_179 : decode cX6_readSprite 179 = .ok (.iload_n 2, 1) := by decide +kernel
theorem dX6_readSprite_180 : decode cX6_readSprite 180 = .ok (.iload 13, 2) := by decide +kernel
theorem dX6_readSprite_182 : decode cX6_readSprite 182 = .ok (.invokevirtual 70, 3) := by decide +kernel
theorem dX6_readSprite_185 : decode cX6_readSprite 185 = .ok (.ifCond .ne 8, 3) := by decide +kernel
theorem dX6_readSprite_188 : decode cX6_readSprite 188 = .ok (.iload 7, 2) := by decide +kernel
theorem dX6_readSprite_190 : decode cX6_readSprite 190 = .ok (.iconst 1, 1) := by decide +kernel
theorem dX6_readSprite_191 : decode cX6_readSprite 191 = .ok (.iadd, 1) := by decide +kernel
theorem dX6_readSprite_192 : decode cX6_readSprite 192 = .ok (.ireturn, 1) := by decide +kernel
theorem dX6_readSprite_193 : decode cX6_readSprite 193 = .ok (.iconst 0, 1) := by decide +kernel
theorem dX6_readSprite_194 : decode cX6_readSprite 194 = .ok (.istore 14, 2) := by decide +kernel
theorem dX6_readSprite_196 : decode cX6_readSprite 196 = .ok (.iload 14, 2) := by decide +kernel
theorem dX6_readSprite_198 : decode cX6_readSprite 198 = .ok (.iload 10, 2) := by decide +kernel
theorem dX6_readSprite_200 : decode cX6_readSprite 200 = .ok (.iconst 2, 1) := by decide +kernel
theorem dX6_readSprite_201 : decode cX6_readSprite 201 = .ok (.if_icmp .ne 8, 3) := by decide +kernel
theorem dX6_readSprite_204 : decode cX6_readSprite 204 = .ok (.iload 9, 2) := by decide +kernel
theorem dX6_readSprite_206 : decode cX6_readSprite 206 = .ok (.goto 4, 3) := by decide +kernel
theorem dX6_readSprite_209 : decode cX6_readSprite 209 = .ok (.iconst 1, 1) := by decide +kernel
theorem dX6_readSprite_210 : decode cX6_readSprite 210 = .ok (.if_icmp .ge 25, 3) := by decide +kernel
theorem dX6_readSprite_213 : decode cX6_readSprite 213 = .ok (.aload_n 0, 1) := by decide +kernel
theorem dX6_readSprite_214 : decode cX6_readSprite 214 = .ok (.iload 5, 2) := by decide +kernel
theorem dX6_readSprite_216 : decode cX6_readSprite 216 = .ok (.iload 12, 2) := by decide +kernel
theorem dX6_readSprite_218 : decode cX6_readSprite 218 = .ok (.iadd, 1) := by decide +kernel
theorem dX6_readSprite_219 : decode cX6_readSprite 219 = .ok (.iload 14, 2) := by decide +kernel
theorem dX6_readSprite_221 : decode cX6_readSprite 221 = .ok (.iadd, 1) := by decide +kernel
theorem dX6_readSprite_222 : decode cX6_readSprite 222 = .ok (.iload 4, 2) := by decide +kernel
theorem dX6_readSprite_224 : decode cX6_readSprite 224 = .ok (.iload 13, 2) := by decide +kernel
theorem dX6_readSprite_226 : decode cX6_readSprite 226 = .ok (.invokevirtual 126, 3) := by decide +kernel
theorem dX6_readSprite_229 : decode cX6_readSprite 229 = .ok (.iinc 14 1, 3) := by decide +kernel
theorem dX6_readSprite_232 : decode cX6_readSprite 232 = .ok (.goto (-36), 3) := by decide +kernel
theorem dX6_readSprite_235 : decode cX6_readSprite 235 = .ok (.iinc 7 1, 3) := by decide +kernel
theorem dX6_readSprite_238 : decode cX6_readSprite 238 = .ok (.iinc 12 1, 3) := by decide +kernel
theorem dX6_readSprite_241 : decode cX6_readSprite 241 = .ok (.goto (-95), 3) := by decide +kernel
theorem dX6_readSprite_244 : decode cX6_readSprite 244 = .ok (.iload 5, 2) := by decide +kernel
theorem dX6_readSprite_246 : decode cX6_readSprite 246 = .ok (.iload 9, 2) := by decide +kernel
theorem dX6_readSprite_248 : decode cX6_readSprite 248 = .ok (.iadd, 1) := by decide +kernel
theorem dX6_readSprite_249 : decode cX6_readSprite 249 = .ok (.istore 5, 2) := by decide +kernel
theorem dX6_readSprite_251 : decode cX6_readSprite 251 = .ok (.goto (-227), 3) := by decide +kernel
theorem dX6_readSprite_254 : decode cX6_readSprite 254 = .ok (.iload 6, 2) := by decide +kernel
theorem dX6_readSprite_256 : decode cX6_readSprite 256 = .ok (.ifCond .eq 9, 3) := by decide +kernel
theorem dX6_readSprite_259 : decode cX6_readSprite 259 = .ok (.iload_n 3, 1) := by decide +kernel
theorem dX6_readSprite_260 : decode cX6_readSprite 260 = .ok (.iconst 1, 1) := by decide +kernel
theorem dX6_readSprite_261 : decode cX6_readSprite 261 = .ok (.iadd, 1) := by decide +kernel
theorem dX6_readSprite_262 : decode cX6_readSprite 262 = .ok (.goto 4, 3) := by decide +kernel
theorem dX6_readSprite_265 : decode cX6_readSprite 265 = .ok (.iconst 0, 1) := by decide +kernel
theorem dX6_readSprite_266 : decode cX6_readSprite 266 = .ok (.ireturn, 1) := by decide +kernel
set_option maxRecDepth 100000 in
theorem ggX6_draw_X6_isSprite : GoodIn wsX6_draw wsX6_isSprite := goodIn_r _ [10] rfl (by decide +kernel)
set_option maxRecDepth 20000 in
theorem gX6_draw_X6_isSprite : GoodIn wsX6_draw (wsV RX6 116 RX6 yX6_isSprite wsX6_isSprite) := goodIn_app (goodIn_of _ (by decide +kernel)) ggX6_draw_X6_isSprite
set_option maxRecDepth 100000 in
theorem ggX6_draw_X6_isSurface : GoodIn wsX6_draw wsX6_isSurface := goodIn_r _ [14, 15, 36, 37, 38, 39, 40, 41, 42, 43, 44, 45, 46, 47, 48, 49, 50, 51] rfl (by decide +kernel)
set_option maxRecDepth 20000 in
theorem gX6_draw_X6_isSurface : GoodIn wsX6_draw (wsV RX6 59 RX6 yX6_isSurface wsX6_isSurface) := goodIn_app (goodIn_of _ (by decide +kernel)) ggX6_draw_X6_isSurface
set_option maxRecDepth 100000 in
theorem ggX6_draw_X6_readSprite : GoodIn wsX6_draw wsX6_readSprite := goodIn_r _ [19, 1, 20, 21, 22, 23, 24, 9, 25, 26, 27, 28, 29, 30, 2, 3, 5, 36, 37, 38, 39, 40, 41, 42, 43, 44, 45, 46, 47, 48, 49, 50, 51] rfl (by decide +kernel)
set_option maxRecDepth 20000 in
theorem gX6_draw_X6_readSprite : GoodIn wsX6_draw (wsV RX6 129 RX6 yX6_readSprite wsX6_readSprite) := goodIn_app (goodIn_of _ (by decide +kernel)) ggX6_draw_X6_readSprite
set_option maxRecDepth 100000 in
theorem ggX6_draw_X6_isInClip : GoodIn wsX6_draw wsX6_isInClip := goodIn_r _ [34, 35, 36, 37, 38, 39, 40, 41, 42, 43, 44, 45, 46, 47, 48, 49, 50, 51] rfl (by decide +kernel)
set_option maxRecDepth 20000 in
theorem gX6_draw_X6_isInClip : GoodIn wsX6_draw (wsV RX6 78 RX6 yX6_isInClip wsX6_isInClip) := goodIn_app (goodIn_of _ (by decide +kernel)) ggX6_draw_X6_isInClip
theorem dX6_draw_0 : decode cX6_draw 0 = .ok (.aload_n 0, 1) := by decide +kernel
theorem dX6_draw_1 : decode cX6_draw 1 = .ok (.iload_n 1, 1) := by decide +kernel
theorem dX6_draw_2 : decode cX6_draw 2 = .ok (.invokevirtual 116, 3) := by decide +kernel
theorem dX6_draw_5 : decode cX6_draw 5 = .ok (.ifCond .eq 11, 3) := by decide +kernel
theorem dX6_draw_8 : decode cX6_draw 8 = .ok (.aload_n 0, 1) := by decide +kernel
theorem dX6_draw_9 : decode cX6_draw 9 = .ok (.iload_n 2, 1) := by decide +kernel
theorem dX6_draw_10 : decode cX6_draw 10 = .ok (.invokevirtual 59, 3) := by decide +kernel
theorem dX6_draw_13 : decode cX6_draw 13 = .ok (.ifCond .ne 5, 3) := by decide +kernel
theorem dX6_draw_16 : decode cX6_draw 16 = .ok (.iconst (-1), 1) := by decide +kernel
theorem dX6_draw_17 : decode cX6_draw 17 = .ok (.ireturn, 1) := by decide +kernel
theorem dX6_draw_18 : decode cX6_draw 18 = .ok (.aload_n 0, 1) := by decide +kernel
theorem dX6_draw_19 : decode cX6_draw 19 = .ok (.iload_n 1, 1) := by decide +kernel
theorem dX6_draw_20 : decode cX6_draw 20 = .ok (.iload_n 2, 1) := by decide +kernel
theorem dX6_draw_21 : decode cX6_draw 21 = .ok (.invokevirtual 129, 3) := by decide +kernel
theorem dX6_draw_24 : decode cX6_draw 24 = .ok (.istore 5, 2) := by decide +kernel
theorem dX6_draw_26 : decode cX6_draw 26 = .ok (.iconst 0, 1) := by decide +kernel
theorem dX6_draw_27 : decode cX6_draw 27 = .ok (.istore 6, 2) := by decide +kernel
theorem dX6_draw_29 : decode cX6_draw 29 = .ok (.iload 6, 2) := by decide +kernel
theorem dX6_draw_31 : decode cX6_draw 31 = .ok (.aload_n 0, 1) := by decide +kernel
theorem dX6_draw_32 : decode cX6_draw 32 = .ok (.getfield 123, 3) := by decide +kernel
theorem dX6_draw_35 : decode cX6_draw 35 = .ok (.if_icmp .ge 81, 3) := by decide +kernel
theorem dX6_draw_38 : decode cX6_draw 38 = .ok (.iload 5, 2) := by decide +kernel
