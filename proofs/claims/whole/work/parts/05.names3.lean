theorem dX5_dropKey_7 : decode cX5_dropKey 7 = .ok (.aload_n 0, 1) := by decide +kernel
theorem dX5_dropKey_8 : decode cX5_dropKey 8 = .ok (.getfield 30, 3) := by decide +kernel
theorem dX5_dropKey_11 : decode cX5_dropKey 11 = .ok (.iload_n 3, 1) := by decide +kernel
theorem dX5_dropKey_12 : decode cX5_dropKey 12 = .ok (.iaload, 1) := by decide +kernel
theorem dX5_dropKey_13 : decode cX5_dropKey 13 = .ok (.iload_n 2, 1) := by decide +kernel
theorem dX5_dropKey_14 : decode cX5_dropKey 14 = .ok (.if_icmp .ne 10, 3) := by decide +kernel
theorem dX5_dropKey_17 : decode cX5_dropKey 17 = .ok (.aload_n 0, 1) := by decide +kernel
theorem dX5_dropKey_18 : decode cX5_dropKey 18 = .ok (.getfield 30, 3) := by decide +kernel
theorem dX5_dropKey_21 : decode cX5_dropKey 21 = .ok (.iload_n 3, 1) := by decide +kernel
theorem dX5_dropKey_22 : decode cX5_dropKey 22 = .ok (.iconst (-1), 1) := by decide +kernel
theorem dX5_dropKey_23 : decode cX5_dropKey 23 = .ok (.iastore, 1) := by decide +kernel
theorem dX5_dropKey_24 : decode cX5_dropKey 24 = .ok (.iinc 3 1, 3) := by decide +kernel
theorem dX5_dropKey_27 : decode cX5_dropKey 27 = .ok (.goto (-25), 3) := by decide +kernel
theorem dX5_dropKey_30 : decode cX5_dropKey 30 = .ok (.return_, 1) := by decide +kernel
set_option maxRecDepth 100000 in
theorem ggX5_dropMasked_X3_isOne : GoodIn wsX5_dropMasked wsX3_isOne := goodIn_r _ [10, 11, 12, 13, 14, 15, 16, 17, 18, 19, 20, 21, 22, 23, 24, 9, 25, 26, 36, 37, 38, 39, 40, 27, 28, 29, 30] rfl (by decide +kernel)
set_option maxRecDepth 20000 in
theorem gX5_dropMasked_X3_isOne : GoodIn wsX5_dropMasked (wsV RX5 200 RX3 yX3_isOne wsX3_isOne) := goodIn_app (goodIn_of _ (by decide +kernel)) ggX5_dropMasked_X3_isOne
theorem dX5_dropMasked_0 : decode cX5_dropMasked 0 = .ok (.iconst 0, 1) := by decide +kernel
theorem dX5_dropMasked_1 : decode cX5_dropMasked 1 = .ok (.istore_n 3, 1) := by decide +kernel
theorem dX5_dropMasked_2 : decode cX5_dropMasked 2 = .ok (.iload_n 3, 1) := by decide +kernel
theorem dX5_dropMasked_3 : decode cX5_dropMasked 3 = .ok (.aload_n 1, 1) := by decide +kernel
theorem dX5_dropMasked_4 : decode cX5_dropMasked 4 = .ok (.getfield 85, 3) := by decide +kernel
theorem dX5_dropMasked_7 : decode cX5_dropMasked 7 = .ok (.if_icmp .ge 64, 3) := by decide +kernel
theorem dX5_dropMasked_10 : decode cX5_dropMasked 10 = .ok (.iconst 0, 1) := by decide +kernel
theorem dX5_dropMasked_11 : decode cX5_dropMasked 11 = .ok (.istore 4, 2) := by decide +kernel
theorem dX5_dropMasked_13 : decode cX5_dropMasked 13 = .ok (.iload 4, 2) := by decide +kernel
theorem dX5_dropMasked_15 : decode cX5_dropMasked 15 = .ok (.aload_n 1, 1) := by decide +kernel
theorem dX5_dropMasked_16 : decode cX5_dropMasked 16 = .ok (.getfield 82, 3) := by decide +kernel
theorem dX5_dropMasked_19 : decode cX5_dropMasked 19 = .ok (.if_icmp .ge 46, 3) := by decide +kernel
theorem dX5_dropMasked_22 : decode cX5_dropMasked 22 = .ok (.aload_n 2, 1) := by decide +kernel
theorem dX5_dropMasked_23 : decode cX5_dropMasked 23 = .ok (.aload_n 1, 1) := by decide +kernel
theorem dX5_dropMasked_24 : decode cX5_dropMasked 24 = .ok (.getfield 88, 3) := by decide +kernel
theorem dX5_dropMasked_27 : decode cX5_dropMasked 27 = .ok (.iload 4, 2) := by decide +kernel
theorem dX5_dropMasked_29 : decode cX5_dropMasked 29 = .ok (.i2l, 1) := by decide +kernel
theorem dX5_dropMasked_30 : decode cX5_dropMasked 30 = .ok (.ladd, 1) := by decide +kernel
theorem dX5_dropMasked_31 : decode cX5_dropMasked 31 = .ok (.aload_n 1, 1) := by decide +kernel
theorem dX5_dropMasked_32 : decode cX5_dropMasked 32 = .ok (.getfield 92, 3) := by decide +kernel
theorem dX5_dropMasked_35 : decode cX5_dropMasked 35 = .ok (.iload_n 3, 1) := by decide +kernel
theorem dX5_dropMasked_36 : decode cX5_dropMasked 36 = .ok (.i2l, 1) := by decide +kernel
theorem dX5_dropMasked_37 : decode cX5_dropMasked 37 = .ok (.ladd, 1) := by decide +kernel
theorem dX5_dropMasked_38 : decode cX5_dropMasked 38 = .ok (.invokevirtual 200, 3) := by decide +kernel
theorem dX5_dropMasked_41 : decode cX5_dropMasked 41 = .ok (.ifCond .ne 18, 3) := by decide +kernel
theorem dX5_dropMasked_44 : decode cX5_dropMasked 44 = .ok (.aload_n 0, 1) := by decide +kernel
theorem dX5_dropMasked_45 : decode cX5_dropMasked 45 = .ok (.getfield 30, 3) := by decide +kernel
theorem dX5_dropMasked_48 : decode cX5_dropMasked 48 = .ok (.iload_n 3, 1) := by decide +kernel
theorem dX5_dropMasked_49 : decode cX5_dropMasked 49 = .ok (.aload_n 1, 1) := by decide +kernel
theorem dX5_dropMasked_50 : decode cX5_dropMasked 50 = .ok (.getfield 82, 3) := by decide +kernel
theorem dX5_dropMasked_53 : decode cX5_dropMasked 53 = .ok (.imul, 1) := by decide +kernel
theorem dX5_dropMasked_54 : decode cX5_dropMasked 54 = .ok (.iload 4, 2) := by decide +kernel
theorem dX5_dropMasked_56 : decode cX5_dropMasked 56 = .ok (.iadd, 1) := by decide +kernel
theorem dX5_dropMasked_57 : decode cX5_dropMasked 57 = .ok (.iconst (-1), 1) := by decide +kernel
theorem dX5_dropMasked_58 : decode cX5_dropMasked 58 = .ok (.iastore, 1) := by decide +kernel
theorem dX5_dropMasked_59 : decode cX5_dropMasked 59 = .ok (.iinc 4 1, 3) := by decide +kernel
theorem dX5_dropMasked_62 : decode cX5_dropMasked 62 = .ok (.goto (-49), 3) := by decide +kernel
theorem dX5_dropMasked_65 : decode cX5_dropMasked 65 = .ok (.iinc 3 1, 3) := by decide +kernel
theorem dX5_dropMasked_68 : decode cX5_dropMasked 68 = .ok (.goto (-66), 3) := by decide +kernel
theorem dX5_dropMasked_71 : decode cX5_dropMasked 71 = .ok (.return_, 1) := by decide +kernel
set_option maxRecDepth 100000 in
theorem ggX5_putDots_X3_indexOf : GoodIn wsX5_putDots wsX3_indexOf := goodIn_r _ [12, 13, 14, 28, 29, 30, 31, 32, 19, 20, 21, 22] rfl (by decide +kernel)
set_option maxRecDepth 20000 in
theorem gX5_putDots_X3_indexOf : GoodIn wsX5_putDots (wsV RX5 75 RX3 yX3_indexOf wsX3_indexOf) := goodIn_app (goodIn_of _ (by decide +kernel)) ggX5_putDots_X3_indexOf
set_option maxRecDepth 100000 in
theorem ggX5_putDots_X5_combined : GoodIn wsX5_putDots wsX5_combined := goodIn_r _ [18] rfl (by decide +kernel)
set_option maxRecDepth 20000 in
theorem gX5_putDots_X5_combined : GoodIn wsX5_putDots (va_wsS RX5 203 yX5_combined wsX5_combined) := goodIn_app (goodIn_of _ (by decide +kernel)) ggX5_putDots_X5_combined
theorem dX5_putDots_0 : decode cX5_putDots 0 = .ok (.iconst 0, 1) := by decide +kernel
theorem dX5_putDots_1 : decode cX5_putDots 1 = .ok (.istore 4, 2) := by decide +kernel
theorem dX5_putDots_3 : decode cX5_putDots 3 = .ok (.iload 4, 2) := by decide +kernel
theorem dX5_putDots_5 : decode cX5_putDots 5 = .ok (.aload_n 2, 1) := by decide +kernel
theorem dX5_putDots_6 : decode cX5_putDots 6 = .ok (.getfield 85, 3) := by decide +kernel
theorem dX5_putDots_9 : decode cX5_putDots 9 = .ok (.if_icmp .ge 103, 3) := by decide +kernel
theorem dX5_putDots_12 : decode cX5_putDots 12 = .ok (.aload_n 1, 1) := by decide +kernel
theorem dX5_putDots_13 : decode cX5_putDots 13 = .ok (.aload_n 2, 1) := by decide +kernel
theorem dX5_putDots_14 : decode cX5_putDots 14 = .ok (.getfield 88, 3) := by decide +kernel
theorem dX5_putDots_17 : decode cX5_putDots 17 = .ok (.aload_n 2, 1) := by decide +kernel
theorem dX5_putDots_18 : decode cX5_putDots 18 = .ok (.getfield 92, 3) := by decide +kernel
theorem dX5_putDots_21 : decode cX5_putDots 21 = .ok (.iload 4, 2) := by decide +kernel
theorem dX5_putDots_23 : decode cX5_putDots 23 = .ok (.i2l, 1) := by decide +kernel
theorem dX5_putDots_24 : decode cX5_putDots 24 = .ok (.ladd, 1) := by decide +kernel
theorem dX5_putDots_25 : decode cX5_putDots 25 = .ok (.invokevirtual 75, 3) := by decide +kernel
theorem dX5_putDots_28 : decode cX5_putDots 28 = .ok (.istore 5, 2) := by decide +kernel
theorem dX5_putDots_30 : decode cX5_putDots 30 = .ok (.iconst 0, 1) := by decide +kernel
theorem dX5_putDots_31 : decode cX5_putDots 31 = .ok (.istore 6, 2) := by decide +kernel
theorem dX5_putDots_33 : decode cX5_putDots 33 = .ok (.iload 6, 2) := by decide +kernel
theorem dX5_putDots_35 : decode cX5_putDots 35 = .ok (.aload_n 2, 1) := by decide +kernel
theorem dX5_putDots_36 : decode cX5_putDots 36 = .ok (.getfield 82, 3) := by decide +kernel
theorem dX5_putDots_39 : decode cX5_putDots 39 = .ok (.if_icmp .ge 67, 3) := by decide +kernel
theorem dX5_putDots_42 : decode cX5_putDots 42 = .ok (.aload_n 0, 1) := by decide +kernel
theorem dX5_putDots_43 : decode cX5_putDots 43 = .ok (.getfield 30, 3) := by decide +kernel
theorem dX5_putDots_46 : decode cX5_putDots 46 = .ok (.iload 4, 2) := by decide +kernel
theorem dX5_putDots_48 : decode cX5_putDots 48 = .ok (.aload_n 2, 1) := by decide +kernel
theorem dX5_putDots_49 : decode cX5_putDots 49 = .ok (.getfield 82, 3) := by decide +kernel
theorem dX5_putDots_52 : decode cX5_putDots 52 = .ok (.imul, 1) := by decide +kernel
theorem dX5_putDots_53 : decode cX5_putDots 53 = .ok (.iload 6, 2) := by decide +kernel
theorem dX5_putDots_55 : decode cX5_putDots 55 = .ok (.iadd, 1) := by decide +kernel
theorem dX5_putDots_56 : decode cX5_putDots 56 = .ok (.iaload, 1) := by decide +kernel
theorem dX5_putDots_57 : decode cX5_putDots 57 = .ok (.istore 7, 2) := by decide +kernel
theorem dX5_putDots_59 : decode cX5_putDots 59 = .ok (.iload 7, 2) := by decide +kernel
theorem dX5_putDots_61 : decode cX5_putDots 61 = .ok (.iconst (-1), 1) := by decide +kernel
theorem dX5_putDots_62 : decode cX5_putDots 62 = .ok (.if_icmp .eq 38, 3) := by decide +kernel
theorem dX5_putDots_65 : decode cX5_putDots 65 = .ok (.aload_n 1, 1) := by decide +kernel
theorem dX5_putDots_66 : decode cX5_putDots 66 = .ok (.getfield 72, 3) := by decide +kernel
theorem dX5_putDots_69 : decode cX5_putDots 69 = .ok (.iload 5, 2) := by decide +kernel
theorem dX5_putDots_71 : decode cX5_putDots 71 = .ok (.iload 6, 2) := by decide +kernel
theorem dX5_putDots_73 : decode cX5_putDots 73 = .ok (.iadd, 1) := by decide +kernel
theorem dX5_putDots_74 : decode cX5_putDots 74 = .ok (.iaload, 1) := by decide +kernel
theorem dX5_putDots_75 : decode cX5_putDots 75 = .ok (.istore 8, 2) := by decide +kernel
theorem dX5_putDots_77 : decode cX5_putDots 77 = .ok (.aload_n 1, 1) := by decide +kernel
theorem dX5_putDots_78 : decode cX5_putDots 78 = .ok (.getfield 72, 3) := by decide +kernel
theorem dX5_putDots_81 : decode cX5_putDots 81 = .ok (.iload 5, 2) := by decide +kernel
theorem dX5_putDots_83 : decode cX5_putDots 83 = .ok (.iload 6, 2) := by decide +kernel
theorem dX5_putDots_85 : decode cX5_putDots 85 = .ok (.iadd, 1) := by decide +kernel
theorem dX5_putDots_86 : decode cX5_putDots 86 = .ok (.iload_n 3, 1) := by decide +kernel
theorem dX5_putDots_87 : decode cX5_putDots 87 = .ok (.iload 7, 2) := by decide +kernel
theorem dX5_putDots_89 : decode cX5_putDots 89 = .ok (.iload 8, 2) := by decide +kernel
theorem dX5_putDots_91 : decode cX5_putDots 91 = .ok (.invokestatic 203, 3) := by decide +kernel
theorem dX5_putDots_94 : decode cX5_putDots 94 = .ok (.aload_n 1, 1) := by decide +kernel
theorem dX5_putDots_95 : decode cX5_putDots 95 = .ok (.getfield 177, 3) := by decide +kernel
theorem dX5_putDots_98 : decode cX5_putDots 98 = .ok (.iand, 1) := by decide +kernel
theorem dX5_putDots_99 : decode cX5_putDots 99 = .ok (.iastore, 1) := by decide +kernel
theorem dX5_putDots_100 : decode cX5_putDots 100 = .ok (.iinc 6 1, 3) := by decide +kernel
theorem dX5_putDots_103 : decode cX5_putDots 103 = .ok (.goto (-70), 3) := by decide +kernel
theorem dX5_putDots_106 : decode cX5_putDots 106 = .ok (.iinc 4 1, 3) := by decide +kernel
theorem dX5_putDots_109 : decode cX5_putDots 109 = .ok (.goto (-106), 3) := by decide +kernel
theorem dX5_putDots_112 : decode cX5_putDots 112 = .ok (.return_, 1) := by decide +kernel
theorem dX5_combined_0 : decode cX5_combined 0 = .ok (.iconst 0, 1) := by decide +kernel
theorem dX5_combined_1 : decode cX5_combined 1 = .ok (.istore_n 3, 1) := by decide +kernel
theorem dX5_combined_2 : decode cX5_combined 2 = .ok (.iload_n 0, 1) := by decide +kernel
theorem dX5_combined_3 : decode cX5_combined 3 = .ok (.iconst 1, 1) := by decide +kernel
theorem dX5_combined_4 : decode cX5_combined 4 = .ok (.iand, 1) := by decide +kernel
theorem dX5_combined_5 : decode cX5_combined 5 = .ok (.ifCond .eq 13, 3) := by decide +kernel
theorem dX5_combined_8 : decode cX5_combined 8 = .ok (.iload_n 3, 1) := by decide +kernel
theorem dX5_combined_9 : decode cX5_combined 9 = .ok (.iload_n 1, 1) := by decide +kernel
theorem dX5_combined_10 : decode cX5_combined 10 = .ok (.iconst (-1), 1) := by decide +kernel
theorem dX5_combined_11 : decode cX5_combined 11 = .ok (.ixor, 1) := by decide +kernel
theorem dX5_combined_12 : decode cX5_combined 12 = .ok (.iload_n 2, 1) := by decide +kernel
theorem dX5_combined_13 : decode cX5_combined 13 = .ok (.iconst (-1), 1) := by decide +kernel
theorem dX5_combined_14 : decode cX5_combined 14 = .ok (.ixor, 1) := by decide +kernel
theorem dX5_combined_15 : decode cX5_combined 15 = .ok (.iand, 1) := by decide +kernel
theorem dX5_combined_16 : decode cX5_combined 16 = .ok (.ior, 1) := by decide +kernel
theorem dX5_combined_17 : decode cX5_combined 17 = .ok (.istore_n 3, 1) := by decide +kernel
theorem dX5_combined_18 : decode cX5_combined 18 = .ok (.iload_n 0, 1) := by decide +kernel
theorem dX5_combined_19 : decode cX5_combined 19 = .ok (.iconst 2, 1) := by decide +kernel
theorem dX5_combined_20 : decode cX5_combined 20 = .ok (.iand, 1) := by decide +kernel
theorem dX5_combined_21 : decode cX5_combined 21 = .ok (.ifCond .eq 11, 3) := by decide +kernel
theorem dX5_combined_24 : decode cX5_combined 24 = .ok (.iload_n 3, 1) := by decide +kernel
theorem dX5_combined_25 : decode cX5_combined 25 = .ok (.iload_n 1, 1) := by decide +kernel
theorem dX5_combined_26 : decode cX5_combined 26 = .ok (.iconst (-1), 1) := by decide +kernel
theorem dX5_combined_27 : decode cX5_combined 27 = .ok (.ixor, 1) := by decide +kernel
theorem dX5_combined_28 : decode cX5_combined 28 = .ok (.iload_n 2, 1) := by decide +kernel
theorem dX5_combined_29 : decode cX5_combined 29 = .ok (.iand, 1) := by decide +kernel
theorem dX5_combined_30 : decode cX5_combined 30 = .ok (.ior, 1) := by decide +kernel
theorem dX5_combined_31 : decode cX5_combined 31 = .ok (.istore_n 3, 1) := by decide +kernel
theorem dX5_combined_32 : decode cX5_combined 32 = .ok (.iload_n 0, 1) := by decide +kernel
theorem dX5_combined_33 : decode cX5_combined 33 = .ok (.iconst 4, 1) := by decide +kernel
theorem dX5_combined_34 : decode cX5_combined 34 = .ok (.iand, 1) := by decide +kernel
theorem dX5_combined_35 : decode cX5_combined 35 = .ok (.ifCond .eq 11, 3) := by decide +kernel
theorem dX5_combined_38 : decode cX5_combined 38 = .ok (.iload_n 3, 1) := by decide +kernel
theorem dX5_combined_39 : decode cX5_combined 39 = .ok (.iload_n 1, 1) := by decide +kernel
theorem dX5_combined_40 : decode cX5_combined 40 = .ok (.iload_n 2, 1) := by decide +kernel
theorem dX5_combined_41 : decode cX5_combined 41 = .ok (.iconst (-1), 1) := by decide +kernel
theorem dX5_combined_42 : decode cX5_combined 42 = .ok (.ixor, 1) := by decide +kernel
theorem dX5_combined_43 : decode cX5_combined 43 = .ok (.iand, 1) := by decide +kernel
theorem dX5_combined_44 : decode cX5_combined 44 = .ok (.ior, 1) := by decide +kernel
theorem dX5_combined_45 : decode cX5_combined 45 = .ok (.istore_n 3, 1) := by decide +kernel
theorem dX5_combined_46 : decode cX5_combined 46 = .ok (.iload_n 0, 1) := by decide +kernel
theorem dX5_combined_47 : decode cX5_combined 47 = .ok (.bipush 8, 2) := by decide +kernel
theorem dX5_combined_49 : decode cX5_combined 49 = .ok (.iand, 1) := by decide +kernel
theorem dX5_combined_50 : decode cX5_combined 50 = .ok (.ifCond .eq 9, 3) := by decide +kernel
theorem dX5_combined_53 : decode cX5_combined 53 = .ok (.iload_n 3, 1) := by decide +kernel
theorem dX5_combined_54 : decode cX5_combined 54 = .ok (.iload_n 1, 1) := by decide +kernel
theorem dX5_combined_55 : decode cX5_combined 55 = .ok (.iload_n 2, 1) := by decide +kernel
theorem dX5_combined_56 : decode cX5_combined 56 = .ok (.iand, 1) := by decide +kernel
theorem dX5_combined_57 : decode cX5_combined 57 = .ok (.ior, 1) := by decide +kernel
theorem dX5_combined_58 : decode cX5_combined 58 = .ok (.istore_n 3, 1) := by decide +kernel
theorem dX5_combined_59 : decode cX5_combined 59 = .ok (.iload_n 3, 1) := by decide +kernel
theorem dX5_combined_60 : decode cX5_combined 60 = .ok (.ireturn, 1) := by decide +kernel
theorem dX6_init_0 : decode cX6_init 0 = .ok (.aload_n 0, 1) := by decide +kernel
theorem dX6_init_1 : decode cX6_init 1 = .ok (.invokespecial 1, 3) := by decide +kernel
theorem dX6_init_4 : decode cX6_init 4 = .ok (.aload_n 0, 1) := by decide +kernel
theorem dX6_init_5 : decode cX6_init 5 = .ok (.bipush 8, 2) := by decide +kernel
theorem dX6_init_7 : decode cX6_init 7 = .ok (.newarray .int, 2) := by decide +kernel
theorem dX6_init_9 : decode cX6_init 9 = .ok (.putfield 7, 3) := by decide +kernel
theorem dX6_init_12 : decode cX6_init 12 = .ok (.aload_n 0, 1) := by decide +kernel
theorem dX6_init_13 : decode cX6_init 13 = .ok (.bipush 8, 2) := by decide +kernel
theorem dX6_init_15 : decode cX6_init 15 = .ok (.newarray .int, 2) := by decide +kernel
theorem dX6_init_17 : decode cX6_init 17 = .ok (.putfield 13, 3) := by decide +kernel
theorem dX6_init_20 : decode cX6_init 20 = .ok (.aload_n 0, 1) := by decide +kernel
theorem dX6_init_21 : decode cX6_init 21 = .ok (.bipush 8, 2) := by decide +kernel
theorem dX6_init_23 : decode cX6_init 23 = .ok (.newarray .int, 2) := by decide +kernel
theorem dX6_init_25 : decode cX6_init 25 = .ok (.putfield 16, 3) := by decide +kernel
theorem dX6_init_28 : decode cX6_init 28 = .ok (.aload_n 0, 1) := by decide +kernel
theorem dX6_init_29 : decode cX6_init 29 = .ok (.bipush 32, 2) := by decide +kernel
theorem dX6_init_31 : decode cX6_init 31 = .ok (.newarray .int, 2) := by decide +kernel
theorem dX6_init_33 : decode cX6_init 33 = .ok (.putfield 19, 3) := by decide +kernel
theorem dX6_init_36 : decode cX6_init 36 = .ok (.aload_n 0, 1) := by decide +kernel
theorem dX6_init_37 : decode cX6_init 37 = .ok (.ldc 22, 2) := by decide +kernel
theorem dX6_init_39 : decode cX6_init 39 = .ok (.newarray .int, 2) := by decide +kernel
theorem dX6_init_41 : decode cX6_init 41 = .ok (.putfield 23, 3) := by decide +kernel
theorem dX6_init_44 : decode cX6_init 44 = .ok (.aload_n 0, 1) := by decide +kernel
theorem dX6_init_45 : decode cX6_init 45 = .ok (.sipush 4096, 3) := by decide +kernel
theorem dX6_init_48 : decode cX6_init 48 = .ok (.newarray .int, 2) := by decide +kernel
theorem dX6_init_50 : decode cX6_init 50 = .ok (.putfield 26, 3) := by decide +kernel
theorem dX6_init_53 : decode cX6_init 53 = .ok (.aload_n 0, 1) := by decide +kernel
theorem dX6_init_54 : decode cX6_init 54 = .ok (.sipush 4096, 3) := by decide +kernel
theorem dX6_init_57 : decode cX6_init 57 = .ok (.newarray .boolean, 2) := by decide +kernel
theorem dX6_init_59 : decode cX6_init 59 = .ok (.putfield 29, 3) := by decide +kernel
theorem dX6_init_62 : decode cX6_init 62 = .ok (.aload_n 0, 1) := by decide +kernel
theorem dX6_init_63 : decode cX6_init 63 = .ok (.iconst 4, 1) := by decide +kernel
theorem dX6_init_64 : decode cX6_init 64 = .ok (.newarray .int, 2) := by decide +kernel
theorem dX6_init_66 : decode cX6_init 66 = .ok (.putfield 33, 3) := by decide +kernel
theorem dX6_init_69 : decode cX6_init 69 = .ok (.aload_n 0, 1) := by decide +kernel
theorem dX6_init_70 : decode cX6_init 70 = .ok (.sipush 20000, 3) := by decide +kernel
theorem dX6_init_73 : decode cX6_init 73 = .ok (.newarray .int, 2) := by decide +kernel
theorem dX6_init_75 : decode cX6_init 75 = .ok (.putfield 36, 3) := by decide +kernel
theorem dX6_init_78 : decode cX6_init 78 = .ok (.aload_n 0, 1) := by decide +kernel
theorem dX6_init_79 : decode cX6_init 79 = .ok (.sipush 7000, 3) := by decide +kernel
theorem dX6_init_82 : decode cX6_init 82 = .ok (.newarray .int, 2) := by decide +kernel
theorem dX6_init_84 : decode cX6_init 84 = .ok (.putfield 39, 3) := by decide +kernel
theorem dX6_init_87 : decode cX6_init 87 = .ok (.aload_n 0, 1) := by decide +kernel
theorem dX6_init_88 : decode cX6_init 88 = .ok (.sipush 4096, 3) := by decide +kernel
theorem dX6_init_91 : decode cX6_init 91 = .ok (.newarray .int, 2) := by decide +kernel
theorem dX6_init_93 : decode cX6_init 93 = .ok (.putfield 42, 3) := by decide +kernel
theorem dX6_init_96 : decode cX6_init 96 = .ok (.aload_n 0, 1) := by decide +kernel
theorem dX6_init_97 : decode cX6_init 97 = .ok (.sipush 4096, 3) := by decide +kernel
theorem dX6_init_100 : decode cX6_init 100 = .ok (.newarray .int, 2) := by decide +kernel
theorem dX6_init_102 : decode cX6_init 102 = .ok (.putfield 45, 3) := by decide +kernel
theorem dX6_init_105 : decode cX6_init 105 = .ok (.aload_n 0, 1) := by decide +kernel
theorem dX6_init_106 : decode cX6_init 106 = .ok (.sipush 4096, 3) := by decide +kernel
theorem dX6_init_109 : decode cX6_init 109 = .ok (.newarray .int, 2) := by decide +kernel
theorem dX6_init_111 : decode cX6_init 111 = .ok (.putfield 48, 3) := by decide +kernel
theorem dX6_init_114 : decode cX6_init 114 = .ok (.return_, 1) := by decide +kernel
theorem dX6_isSurface_0 : decode cX6_isSurface 0 = .ok (.iload_n 1, 1) := by decide +kernel
theorem dX6_isSurface_1 : decode cX6_isSurface 1 = .ok (.ifCond .lt 15, 3) := by decide +kernel
theorem dX6_isSurface_4 : decode cX6_isSurface 4 = .ok (.iload_n 1, 1) := by decide +kernel
theorem dX6_isSurface_5 : decode cX6_isSurface 5 = .ok (.aload_n 0, 1) := by decide +kernel
theorem dX6_isSurface_6 : decode cX6_isSurface 6 = .ok (.getfield 51, 3) := by decide +kernel
theorem dX6_isSurface_9 : decode cX6_isSurface 9 = .ok (.if_icmp .ge 7, 3) := by decide +kernel
theorem dX6_isSurface_12 : decode cX6_isSurface 12 = .ok (.iconst 1, 1) := by decide +kernel
theorem dX6_isSurface_13 : decode cX6_isSurface 13 = .ok (.goto 4, 3) := by decide +kernel
theorem dX6_isSurface_16 : decode cX6_isSurface 16 = .ok (.iconst 0, 1) := by decide +kernel
theorem dX6_isSurface_17 : decode cX6_isSurface 17 = .ok (.ireturn, 1) := by decide +kernel
theorem dX6_isSpan_0 : decode cX6_isSpan 0 = .ok (.iload_n 0, 1) := by decide +kernel
theorem dX6_isSpan_1 : decode cX6_isSpan 1 = .ok (.ifCond .lt 13, 3) := by decide +kernel
theorem dX6_isSpan_4 : decode cX6_isSpan 4 = .ok (.iload_n 0, 1) := by decide +kernel
theorem dX6_isSpan_5 : decode cX6_isSpan 5 = .ok (.bipush 64, 2) := by decide +kernel
theorem dX6_isSpan_7 : decode cX6_isSpan 7 = .ok (.if_icmp .gt 7, 3) := by decide +kernel
theorem dX6_isSpan_10 : decode cX6_isSpan 10 = .ok (.iconst 1, 1) := by decide +kernel
theorem dX6_isSpan_11 : decode cX6_isSpan 11 = .ok (.goto 4, 3) := by decide +kernel
theorem dX6_isSpan_14 : decode cX6_isSpan 14 = .ok (.iconst 0, 1) := by decide +kernel
theorem dX6_isSpan_15 : decode cX6_isSpan 15 = .ok (.ireturn, 1) := by decide +kernel
theorem dX6_isPlace_0 : decode cX6_isPlace 0 = .ok (.lload_n 2, 1) := by decide +kernel
theorem dX6_isPlace_1 : decode cX6_isPlace 1 = .ok (.lconst 0, 1) := by decide +kernel
theorem dX6_isPlace_2 : decode cX6_isPlace 2 = .ok (.lcmp, 1) := by decide +kernel
theorem dX6_isPlace_3 : decode cX6_isPlace 3 = .ok (.ifCond .lt 39, 3) := by decide +kernel
theorem dX6_isPlace_6 : decode cX6_isPlace 6 = .ok (.lload_n 2, 1) := by decide +kernel
theorem dX6_isPlace_7 : decode cX6_isPlace 7 = .ok (.aload_n 0, 1) := by decide +kernel
theorem dX6_isPlace_8 : decode cX6_isPlace 8 = .ok (.getfield 13, 3) := by decide +kernel
theorem dX6_isPlace_11 : decode cX6_isPlace 11 = .ok (.iload_n 1, 1) := by decide +kernel
theorem dX6_isPlace_12 : decode cX6_isPlace 12 = .ok (.iaload, 1) := by decide +kernel
theorem dX6_isPlace_13 : decode cX6_isPlace 13 = .ok (.i2l, 1) := by decide +kernel
theorem dX6_isPlace_14 : decode cX6_isPlace 14 = .ok (.lcmp, 1) := by decide +kernel
theorem dX6_isPlace_15 : decode cX6_isPlace 15 = .ok (.ifCond .ge 27, 3) := by decide +kernel
theorem dX6_isPlace_18 : decode cX6_isPlace 18 = .ok (.lload 4, 2) := by decide +kernel
theorem dX6_isPlace_20 : decode cX6_isPlace 20 = .ok (.lconst 0, 1) := by decide +kernel
theorem dX6_isPlace_21 : decode cX6_isPlace 21 = .ok (.lcmp, 1) := by decide +kernel
theorem dX6_isPlace_22 : decode cX6_isPlace 22 = .ok (.ifCond .lt 20, 3) := by decide +kernel
theorem dX6_isPlace_25 : decode cX6_isPlace 25 = .ok (.lload 4, 2) := by decide +kernel
theorem dX6_isPlace_27 : decode cX6_isPlace 27 = .ok (.aload_n 0, 1) := by decide +kernel
theorem dX6_isPlace_28 : decode cX6_isPlace 28 = .ok (.getfield 16, 3) := by decide +kernel
theorem dX6_isPlace_31 : decode cX6_isPlace 31 = .ok (.iload_n 1, 1) := by decide +kernel
theorem dX6_isPlace_32 : decode cX6_isPlace 32 = .ok (.iaload, 1) := by decide +kernel
theorem dX6_isPlace_33 : decode cX6_isPlace 33 = .ok (.i2l, 1) := by decide +kernel
theorem dX6_isPlace_34 : decode cX6_isPlace 34 = .ok (.lcmp, 1) := by decide +kernel
theorem dX6_isPlace_35 : decode cX6_isPlace 35 = .ok (.ifCond .ge 7, 3) := by decide +kernel
theorem dX6_isPlace_38 : decode cX6_isPlace 38 = .ok (.iconst 1, 1) := by decide +kernel
theorem dX6_isPlace_39 : decode cX6_isPlace 39 = .ok (.goto 4, 3) := by decide +kernel
theorem dX6_isPlace_42 : decode cX6_isPlace 42 = .ok (.iconst 0, 1) := by decide +kernel
theorem dX6_isPlace_43 : decode cX6_isPlace 43 = .ok (.ireturn, 1) := by decide +kernel
theorem dX6_isInClip_0 : decode cX6_isInClip 0 = .ok (.iconst 4, 1) := by decide +kernel
theorem dX6_isInClip_1 : decode cX6_isInClip 1 = .ok (.iload_n 1, 1) := by decide +kernel
theorem dX6_isInClip_2 : decode cX6_isInClip 2 = .ok (.imul, 1) := by decide +kernel
theorem dX6_isInClip_3 : decode cX6_isInClip 3 = .ok (.istore 6, 2) := by decide +kernel
theorem dX6_isInClip_5 : decode cX6_isInClip 5 = .ok (.lload_n 2, 1) := by decide +kernel
theorem dX6_isInClip_6 : decode cX6_isInClip 6 = .ok (.aload_n 0, 1) := by decide +kernel
theorem dX6_isInClip_7 : decode cX6_isInClip 7 = .ok (.getfield 19, 3) := by decide +kernel
theorem dX6_isInClip_10 : decode cX6_isInClip 10 = .ok (.iload 6, 2) := by decide +kernel
theorem dX6_isInClip_12 : decode cX6_isInClip 12 = .ok (.iaload, 1) := by decide +kernel
theorem dX6_isInClip_13 : decode cX6_isInClip 13 = .ok (.i2l, 1) := by decide +kernel
theorem dX6_isInClip_14 : decode cX6_isInClip 14 = .ok (.lcmp, 1) := by decide +kernel
theorem dX6_isInClip_15 : decode cX6_isInClip 15 = .ok (.ifCond .lt 72, 3) := by decide +kernel
theorem dX6_isInClip_18 : decode cX6_isInClip 18 = .ok (.lload_n 2, 1) := by decide +kernel
theorem dX6_isInClip_19 : decode cX6_isInClip 19 = .ok (.aload_n 0, 1) := by decide +kernel
theorem dX6_isInClip_20 : decode cX6_isInClip 20 = .ok (.getfield 19, 3) := by decide +kernel
theorem dX6_isInClip_23 : decode cX6_isInClip 23 = .ok (.iload 6, 2) := by decide +kernel
theorem dX6_isInClip_25 : decode cX6_isInClip 25 = .ok (.iaload, 1) := by decide +kernel
theorem dX6_isInClip_26 : decode cX6_isInClip 26 = .ok (.aload_n 0, 1) := by decide +kernel
theorem dX6_isInClip_27 : decode cX6_isInClip 27 = .ok (.getfield 19, 3) := by decide +kernel
theorem dX6_isInClip_30 : decode cX6_isInClip 30 = .ok (.iload 6, 2) := by decide +kernel
theorem dX6_isInClip_32 : decode cX6_isInClip 32 = .ok (.iconst 2, 1) := by decide +kernel
theorem dX6_isInClip_33 : decode cX6_isInClip 33 = .ok (.iadd, 1) := by decide +kernel
theorem dX6_isInClip_34 : decode cX6_isInClip 34 = .ok (.iaload, 1) := by decide +kernel
theorem dX6_isInClip_35 : decode cX6_isInClip 35 = .ok (.iadd, 1) := by decide +kernel
theorem dX6_isInClip_36 : decode cX6_isInClip 36 = .ok (.i2l, 1) := by decide +kernel
theorem dX6_isInClip_37 : decode cX6_isInClip 37 = .ok (.lcmp, 1) := by decide +kernel
theorem dX6_isInClip_38 : decode cX6_isInClip 38 = .ok (.ifCond .ge 49, 3) := by decide +kernel
theorem dX6_isInClip_41 : decode cX6_isInClip 41 = .ok (.lload 4, 2) := by decide +kernel
theorem dX6_isInClip_43 : decode cX6_isInClip 43 = .ok (.aload_n 0, 1) := by decide +kernel
theorem dX6_isInClip_44 : decode cX6_isInClip 44 = .ok (.getfield 19, 3) := by decide +kernel
theorem dX6_isInClip_47 : decode cX6_isInClip 47 = .ok (.iload 6, 2) := by decide +kernel
theorem dX6_isInClip_49 : decode cX6_isInClip 49 = .ok (.iconst 1, 1) := by decide +kernel
theorem dX6_isInClip_50 : decode cX6_isInClip 50 = .ok (.iadd, 1) := by decide +kernel
theorem dX6_isInClip_51 : decode cX6_isInClip 51 = .ok (.iaload, 1) := by decide +kernel
theorem dX6_isInClip_52 : decode cX6_isInClip 52 = .ok (.i2l, 1) := by decide +kernel
theorem dX6_isInClip_53 : decode cX6_isInClip 53 = .ok (.lcmp, 1) := by decide +kernel
theorem dX6_isInClip_54 : decode cX6_isInClip 54 = .ok (.ifCond .lt 33, 3) := by decide +kernel
theorem dX6_isInClip_57 : decode cX6_isInClip 57 = .ok (.lload 4, 2) := by decide +kernel
theorem dX6_isInClip_59 : decode cX6_isInClip 59 = .ok (.aload_n 0, 1) := by decide +kernel
theorem dX6_isInClip_60 : decode cX6_isInClip 60 = .ok (.getfield 19, 3) := by decide +kernel
theorem dX6_isInClip_63 : decode cX6_isInClip 63 = .ok (.iload 6, 2) := by decide +kernel
theorem dX6_isInClip_65 : decode cX6_isInClip 65 = .ok (.iconst 1, 1) := by decide +kernel
theorem dX6_isInClip_66 : decode cX6_isInClip 66 = .ok (.iadd, 1) := by decide +kernel
theorem dX6_isInClip_67 : decode cX6_isInClip 67 = .ok (.iaload, 1) := by decide +kernel
theorem dX6_isInClip_68 : decode cX6_isInClip 68 = .ok (.aload_n 0, 1) := by decide +kernel
theorem dX6_isInClip_69 : decode cX6_isInClip 69 = .ok (.getfield 19, 3) := by decide +kernel
theorem dX6_isInClip_72 : decode cX6_isInClip 72 = .ok (.iload 6, 2) := by decide +kernel
theorem dX6_isInClip_74 : decode cX6_isInClip 74 = .ok (.iconst 3, 1) := by decide +kernel
theorem dX6_isInClip_75 : decode cX6_isInClip 75 = .ok (.iadd, 1) := by decide +kernel
theorem dX6_isInClip_76 : decode cX6_isInClip 76 = .ok (.iaload, 1) := by decide +kernel
theorem dX6_isInClip_77 : decode cX6_isInClip 77 = .ok (.iadd, 1) := by decide +kernel
theorem dX6_isInClip_78 : decode cX6_isInClip 78 = .ok (.i2l, 1) := by decide +kernel
theorem dX6_isInClip_79 : decode cX6_isInClip 79 = .ok (.lcmp, 1) := by decide +kernel
theorem dX6_isInClip_80 : decode cX6_isInClip 80 = .ok (.ifCond .ge 7, 3) := by decide +kernel
theorem dX6_isInClip_83 : decode cX6_isInClip 83 = .ok (.iconst 1, 1) := by decide +kernel
theorem dX6_isInClip_84 : decode cX6_isInClip 84 = .ok (.goto 4, 3) := by decide +kernel
theorem dX6_isInClip_87 : decode cX6_isInClip 87 = .ok (.iconst 0, 1) := by decide +kernel
theorem dX6_isInClip_88 : decode cX6_isInClip 88 = .ok (.ireturn, 1) := by decide +kernel
theorem dX6_fits_0 : decode cX6_fits 0 = .ok (.iload_n 2, 1) := by decide +kernel
theorem dX6_fits_1 : decode cX6_fits 1 = .ok (.ifCond .lt 19, 3) := by decide +kernel
theorem dX6_fits_4 : decode cX6_fits 4 = .ok (.iload_n 2, 1) := by decide +kernel
theorem dX6_fits_5 : decode cX6_fits 5 = .ok (.iconst 1, 1) := by decide +kernel
theorem dX6_fits_6 : decode cX6_fits 6 = .ok (.aload_n 0, 1) := by decide +kernel
theorem dX6_fits_7 : decode cX6_fits 7 = .ok (.getfield 7, 3) := by decide +kernel
theorem dX6_fits_10 : decode cX6_fits 10 = .ok (.iload_n 1, 1) := by decide +kernel
theorem dX6_fits_11 : decode cX6_fits 11 = .ok (.iaload, 1) := by decide +kernel
theorem dX6_fits_12 : decode cX6_fits 12 = .ok (.ishl, 1) := by decide +kernel
theorem dX6_fits_13 : decode cX6_fits 13 = .ok (.if_icmp .ge 7, 3) := by decide +kernel
theorem dX6_fits_16 : decode cX6_fits 16 = .ok (.iconst 1, 1) := by decide +kernel
theorem dX6_fits_17 : decode cX6_fits 17 = .ok (.goto 4, 3) := by decide +kernel
theorem dX6_fits_20 : decode cX6_fits 20 = .ok (.iconst 0, 1) := by decide +kernel
theorem dX6_fits_21 : decode cX6_fits 21 = .ok (.ireturn, 1) := by decide +kernel
set_option maxRecDepth 100000 in
theorem ggX6_dot_X6_isPlace : GoodIn wsX6_dot wsX6_isPlace := goodIn_r _ [6, 7, 8, 9, 10, 11, 12, 13, 14, 15, 16, 17, 18, 19, 20, 21, 22, 23, 24] rfl (by decide +kernel)
set_option maxRecDepth 20000 in
theorem gX6_dot_X6_isPlace : GoodIn wsX6_dot (wsV RX6 55 RX6 yX6_isPlace wsX6_isPlace) := goodIn_app (goodIn_of _ (by decide +kernel)) ggX6_dot_X6_isPlace
theorem dX6_dot_0 : decode cX6_dot 0 = .ok (.aload_n 0, 1) := by decide +kernel
theorem dX6_dot_1 : decode cX6_dot 1 = .ok (.iload_n 1, 1) := by decide +kernel
theorem dX6_dot_2 : decode cX6_dot 2 = .ok (.lload_n 2, 1) := by decide +kernel
theorem dX6_dot_3 : decode cX6_dot 3 = .ok (.lload 4, 2) := by decide +kernel
theorem dX6_dot_5 : decode cX6_dot 5 = .ok (.invokevirtual 55, 3) := by decide +kernel
theorem dX6_dot_8 : decode cX6_dot 8 = .ok (.ifCond .eq 26, 3) := by decide +kernel
theorem dX6_dot_11 : decode cX6_dot 11 = .ok (.aload_n 0, 1) := by decide +kernel
theorem dX6_dot_12 : decode cX6_dot 12 = .ok (.getfield 23, 3) := by decide +kernel
theorem dX6_dot_15 : decode cX6_dot 15 = .ok (.sipush 4096, 3) := by decide +kernel
theorem dX6_dot_18 : decode cX6_dot 18 = .ok (.iload_n 1, 1) := by decide +kernel
theorem dX6_dot_19 : decode cX6_dot 19 = .ok (.imul, 1) := by decide +kernel
theorem dX6_dot_20 : decode cX6_dot 20 = .ok (.bipush 64, 2) := by decide +kernel
theorem dX6_dot_22 : decode cX6_dot 22 = .ok (.lload 4, 2) := by decide +kernel
theorem dX6_dot_24 : decode cX6_dot 24 = .ok (.l2i, 1) := by decide +kernel
theorem dX6_dot_25 : decode cX6_dot 25 = .ok (.imul, 1) := by decide +kernel
theorem dX6_dot_26 : decode cX6_dot 26 = .ok (.iadd, 1) := by decide +kernel
theorem dX6_dot_27 : decode cX6_dot 27 = .ok (.lload_n 2, 1) := by decide +kernel
theorem dX6_dot_28 : decode cX6_dot 28 = .ok (.l2i, 1) := by decide +kernel
theorem dX6_dot_29 : decode cX6_dot 29 = .ok (.iadd, 1) := by decide +kernel
theorem dX6_dot_30 : decode cX6_dot 30 = .ok (.iaload, 1) := by decide +kernel
theorem dX6_dot_31 : decode cX6_dot 31 = .ok (.goto 4, 3) := by decide +kernel
theorem dX6_dot_34 : decode cX6_dot 34 = .ok (.iconst 0, 1) := by decide +kernel
theorem dX6_dot_35 : decode cX6_dot 35 = .ok (.ireturn, 1) := by decide +kernel
theorem dX6_make_0 : decode cX6_make 0 = .ok (.iload_n 1, 1) := by decide +kernel
theorem dX6_make_1 : decode cX6_make 1 = .ok (.iconst 1, 1) := by decide +kernel
theorem dX6_make_2 : decode cX6_make 2 = .ok (.if_icmp .eq 14, 3) := by decide +kernel
theorem dX6_make_5 : decode cX6_make 5 = .ok (.iload_n 1, 1) := by decide +kernel
theorem dX6_make_6 : decode cX6_make 6 = .ok (.iconst 4, 1) := by decide +kernel
theorem dX6_make_7 : decode cX6_make 7 = .ok (.if_icmp .eq 9, 3) := by decide +kernel
theorem dX6_make_10 : decode cX6_make 10 = .ok (.iload_n 1, 1) := by decide +kernel
theorem dX6_make_11 : decode cX6_make 11 = .ok (.bipush 8, 2) := by decide +kernel
theorem dX6_make_13 : decode cX6_make 13 = .ok (.if_icmp .ne 7, 3) := by decide +kernel
theorem dX6_make_16 : decode cX6_make 16 = .ok (.iconst 1, 1) := by decide +kernel
theorem dX6_make_17 : decode cX6_make 17 = .ok (.goto 4, 3) := by decide +kernel
theorem dX6_make_20 : decode cX6_make 20 = .ok (.iconst 0, 1) := by decide +kernel
theorem dX6_make_21 : decode cX6_make 21 = .ok (.istore 4, 2) := by decide +kernel
theorem dX6_make_23 : decode cX6_make 23 = .ok (.iload 4, 2) := by decide +kernel
theorem dX6_make_25 : decode cX6_make 25 = .ok (.ifCond .eq 34, 3) := by decide +kernel
theorem dX6_make_28 : decode cX6_make 28 = .ok (.iload_n 2, 1) := by decide +kernel
theorem dX6_make_29 : decode cX6_make 29 = .ok (.iconst 1, 1) := by decide +kernel
theorem dX6_make_30 : decode cX6_make 30 = .ok (.if_icmp .lt 29, 3) := by decide +kernel
theorem dX6_make_33 : decode cX6_make 33 = .ok (.iload_n 2, 1) := by decide +kernel
theorem dX6_make_34 : decode cX6_make 34 = .ok (.bipush 64, 2) := by decide +kernel
theorem dX6_make_36 : decode cX6_make 36 = .ok (.if_icmp .gt 23, 3) := by decide +kernel
theorem dX6_make_39 : decode cX6_make 39 = .ok (.iload_n 3, 1) := by decide +kernel
theorem dX6_make_40 : decode cX6_make 40 = .ok (.iconst 1, 1) := by decide +kernel
theorem dX6_make_41 : decode cX6_make 41 = .ok (.if_icmp .lt 18, 3) := by decide +kernel
theorem dX6_make_44 : decode cX6_make 44 = .ok (.iload_n 3, 1) := by decide +kernel
theorem dX6_make_45 : decode cX6_make 45 = .ok (.bipush 64, 2) := by decide +kernel
theorem dX6_make_47 : decode cX6_make 47 = .ok (.if_icmp .gt 12, 3) := by decide +kernel
theorem dX6_make_50 : decode cX6_make 50 = .ok (.aload_n 0, 1) := by decide +kernel
theorem dX6_make_51 : decode cX6_make 51 = .ok (.getfield 51, 3) := by decide +kernel
theorem dX6_make_54 : decode cX6_make 54 = .ok (.bipush 8, 2) := by decide +kernel
theorem dX6_make_56 : decode cX6_make 56 = .ok (.if_icmp .ne 5, 3) := by decide +kernel
theorem dX6_make_59 : decode cX6_make 59 = .ok (.iconst (-1), 1) := by decide +kernel
theorem dX6_make_60 : decode cX6_make 60 = .ok (.ireturn, 1) := by decide +kernel
theorem dX6_make_61 : decode cX6_make 61 = .ok (.aload_n 0, 1) := by decide +kernel
theorem dX6_make_62 : decode cX6_make 62 = .ok (.getfield 7, 3) := by decide +kernel
theorem dX6_make_65 : decode cX6_make 65 = .ok (.aload_n 0, 1) := by decide +kernel
theorem dX6_make_66 : decode cX6_make 66 = .ok (.getfield 51, 3) := by decide +kernel
theorem dX6_make_69 : decode cX6_make 69 = .ok (.iload_n 1, 1) := by decide +kernel
theorem dX6_make_70 : decode cX6_make 70 = .ok (.iastore, 1) := by decide +kernel
theorem dX6_make_71 : decode cX6_make 71 = .ok (.aload_n 0, 1) := by decide +kernel
theorem dX6_make_72 : decode cX6_make 72 = .ok (.getfield 13, 3) := by decide +kernel
theorem dX6_make_75 : decode cX6_make 75 = .ok (.aload_n 0, 1) := by decide +kernel
theorem dX6_make_76 : decode cX6_make 76 = .ok (.getfield 51, 3) := by decide +kernel
theorem dX6_make_79 : decode cX6_make 79 = .ok (.iload_n 2, 1) := by decide +kernel
theorem dX6_make_80 : decode cX6_make 80 = .ok (.iastore, 1) := by decide +kernel
theorem dX6_make_81 : decode cX6_make 81 = .ok (.aload_n 0, 1) := by decide +kernel
theorem dX6_make_82 : decode cX6_make 82 = .ok (.getfield 16, 3) := by decide +kernel
theorem dX6_make_85 : decode cX6_make 85 = .ok (.aload_n 0, 1) := by decide +kernel
theorem dX6_make_86 : decode cX6_make 86 = .ok (.getfield 51, 3) := by decide +kernel
theorem dX6_make_89 : decode cX6_make 89 = .ok (.iload_n 3, 1) := by decide +kernel
theorem dX6_make_90 : decode cX6_make 90 = .ok (.iastore, 1) := by decide +kernel
theorem dX6_make_91 : decode cX6_make 91 = .ok (.aload_n 0, 1) := by decide +kernel
theorem dX6_make_92 : decode cX6_make 92 = .ok (.getfield 19, 3) := by decide +kernel
theorem dX6_make_95 : decode cX6_make 95 = .ok (.iconst 4, 1) := by decide +kernel
theorem dX6_make_96 : decode cX6_make 96 = .ok (.aload_n 0, 1) := by decide +kernel
theorem dX6_make_97 : decode cX6_make 97 = .ok (.getfield 51, 3) := by decide +kernel
theorem dX6_make_100 : decode cX6_make 100 = .ok (.imul, 1) := by decide +kernel
theorem dX6_make_101 : decode cX6_make 101 = .ok (.iconst 0, 1) := by decide +kernel
theorem dX6_make_102 : decode cX6_make 102 = .ok (.iastore, 1) := by decide +kernel
theorem dX6_make_103 : decode cX6_make 103 = .ok (.aload_n 0, 1) := by decide +kernel
theorem dX6_make_104 : decode cX6_make 104 = .ok (.getfield 19, 3) := by decide +kernel
theorem dX6_make_107 : decode cX6_make 107 = .ok (.iconst 4, 1) := by decide +kernel
theorem dX6_make_108 : decode cX6_make 108 = .ok (.aload_n 0, 1) := by decide +kernel
theorem dX6_make_109 : decode cX6_make 109 = .ok (.getfield 51, 3) := by decide +kernel
theorem dX6_make_112 : decode cX6_make 112 = .ok (.imul, 1) := by decide +kernel
theorem dX6_make_113 : decode cX6_make 113 = .ok (.iconst 1, 1) := by decide +kernel
theorem dX6_make_114 : decode cX6_make 114 = .ok (.iadd, 1) := by decide +kernel
theorem dX6_make_115 : decode cX6_make 115 = .ok (.iconst 0, 1) := by decide +kernel
theorem dX6_make_116 : decode cX6_make 116 = .ok (.iastore, 1) := by decide +kernel
theorem dX6_make_117 : decode cX6_make 117 = .ok (.aload_n 0, 1) := by decide +kernel
theorem dX6_make_118 : decode cX6_make 118 = .ok (.getfield 19, 3) := by decide +kernel
theorem dX6_make_121 : decode cX6_make 121 = .ok (.iconst 4, 1) := by decide +kernel
theorem dX6_make_122 : decode cX6_make 122 = .ok (.aload_n 0, 1) := by decide +kernel
theorem dX6_make_123 : decode cX6_make 123 = .ok (.getfield 51, 3) := by decide +kernel
theorem dX6_make_126 : decode cX6_make 126 = .ok (.imul, 1) := by decide +kernel
theorem dX6_make_127 : decode cX6_make 127 = .ok (.iconst 2, 1) := by decide +kernel
theorem dX6_make_128 : decode cX6_make 128 = .ok (.iadd, 1) := by decide +kernel
theorem dX6_make_129 : decode cX6_make 129 = .ok (.iload_n 2, 1) := by decide +kernel
theorem dX6_make_130 : decode cX6_make 130 = .ok (.iastore, 1) := by decide +kernel
theorem dX6_make_131 : decode cX6_make 131 = .ok (.aload_n 0, 1) := by decide +kernel
theorem dX6_make_132 : decode cX6_make 132 = .ok (.getfield 19, 3) := by decide +kernel
theorem dX6_make_135 : decode cX6_make 135 = .ok (.iconst 4, 1) := by decide +kernel
theorem dX6_make_136 : decode cX6_make 136 = .ok (.aload_n 0, 1) := by decide +kernel
theorem dX6_make_137 : decode cX6_make 137 = .ok (.getfield 51, 3) := by decide +kernel
theorem dX6_make_140 : decode cX6_make 140 = .ok (.imul, 1) := by decide +kernel
theorem dX6_make_141 : decode cX6_make 141 = .ok (.iconst 3, 1) := by decide +kernel
theorem dX6_make_142 : decode cX6_make 142 = .ok (.iadd, 1) := by decide +kernel
theorem dX6_make_143 : decode cX6_make 143 = .ok (.iload_n 3, 1) := by decide +kernel
theorem dX6_make_144 : decode cX6_make 144 = .ok (.iastore, 1) := by decide +kernel
theorem dX6_make_145 : decode cX6_make 145 = .ok (.aload_n 0, 1) := by decide +kernel
theorem dX6_make_146 : decode cX6_make 146 = .ok (.dup, 1) := by decide +kernel
theorem dX6_make_147 : decode cX6_make 147 = .ok (.getfield 51, 3) := by decide +kernel
theorem dX6_make_150 : decode cX6_make 150 = .ok (.iconst 1, 1) := by decide +kernel
theorem dX6_make_151 : decode cX6_make 151 = .ok (.iadd, 1) := by decide +kernel
theorem dX6_make_152 : decode cX6_make 152 = .ok (.putfield 51, 3) := by decide +kernel
theorem dX6_make_155 : decode cX6_make 155 = .ok (.aload_n 0, 1) := by decide +kernel
theorem dX6_make_156 : decode cX6_make 156 = .ok (.getfield 51, 3) := by decide +kernel
theorem dX6_make_159 : decode cX6_make 159 = .ok (.iconst 1, 1) := by decide +kernel
theorem dX6_make_160 : decode cX6_make 160 = .ok (.isub, 1) := by decide +kernel
theorem dX6_make_161 : decode cX6_make 161 = .ok (.ireturn, 1) := by decide +kernel
theorem dX6_lesser_0 : decode cX6_lesser 0 = .ok (.lload_n 0, 1) := by decide +kernel
theorem dX6_lesser_1 : decode cX6_lesser 1 = .ok (.lload_n 2, 1) := by decide +kernel
theorem dX6_lesser_2 : decode cX6_lesser 2 = .ok (.lcmp, 1) := by decide +kernel
theorem dX6_lesser_3 : decode cX6_lesser 3 = .ok (.ifCond .ge 7, 3) := by decide +kernel
theorem dX6_lesser_6 : decode cX6_lesser 6 = .ok (.lload_n 0, 1) := by decide +kernel
theorem dX6_lesser_7 : decode cX6_lesser 7 = .ok (.goto 4, 3) := by decide +kernel
theorem dX6_lesser_10 : decode cX6_lesser 10 = .ok (.lload_n 2, 1) := by decide +kernel
theorem dX6_lesser_11 : decode cX6_lesser 11 = .ok (.lreturn, 1) := by decide +kernel
set_option maxRecDepth 100000 in
theorem ggX6_clip_X6_isSurface : GoodIn wsX6_clip wsX6_isSurface := goodIn_r _ [8, 9, 16, 17, 18, 19, 20, 21, 22, 23, 24, 25, 26, 27, 28, 29, 30, 31] rfl (by decide +kernel)
set_option maxRecDepth 20000 in
theorem gX6_clip_X6_isSurface : GoodIn wsX6_clip (wsV RX6 59 RX6 yX6_isSurface wsX6_isSurface) := goodIn_app (goodIn_of _ (by decide +kernel)) ggX6_clip_X6_isSurface
set_option maxRecDepth 100000 in
theorem ggX6_clip_X6_isSpan : GoodIn wsX6_clip wsX6_isSpan := goodIn_r _ [12] rfl (by decide +kernel)
set_option maxRecDepth 20000 in
theorem gX6_clip_X6_isSpan : GoodIn wsX6_clip (va_wsS RX6 63 yX6_isSpan wsX6_isSpan) := goodIn_app (goodIn_of _ (by decide +kernel)) ggX6_clip_X6_isSpan
set_option maxRecDepth 100000 in
theorem ggX6_clip_X6_lesser : GoodIn wsX6_clip wsX6_lesser := goodIn_r _ [15] rfl (by decide +kernel)
set_option maxRecDepth 20000 in
theorem gX6_clip_X6_lesser : GoodIn wsX6_clip (va_wsS RX6 66 yX6_lesser wsX6_lesser) := goodIn_app (goodIn_of _ (by decide +kernel)) ggX6_clip_X6_lesser
theorem dX6_clip_0 : decode cX6_clip 0 = .ok (.aload_n 0, 1) := by decide +kernel
theorem dX6_clip_1 : decode cX6_clip 1 = .ok (.iload_n 1, 1) := by decide +kernel
theorem dX6_clip_2 : decode cX6_clip 2 = .ok (.invokevirtual 59, 3) := by decide +kernel
theorem dX6_clip_5 : decode cX6_clip 5 = .ok (.ifCond .eq 19, 3) := by decide +kernel
theorem dX6_clip_8 : decode cX6_clip 8 = .ok (.iload 4, 2) := by decide +kernel
theorem dX6_clip_10 : decode cX6_clip 10 = .ok (.invokestatic 63, 3) := by decide +kernel
theorem dX6_clip_13 : decode cX6_clip 13 = .ok (.ifCond .eq 11, 3) := by decide +kernel
theorem dX6_clip_16 : decode cX6_clip 16 = .ok (.iload 5, 2) := by decide +kernel
theorem dX6_clip_18 : decode cX6_clip 18 = .ok (.invokestatic 63, 3) := by decide +kernel
theorem dX6_clip_21 : decode cX6_clip 21 = .ok (.ifCond .ne 5, 3) := by decide +kernel
theorem dX6_clip_24 : decode cX6_clip 24 = .ok (.iconst (-1), 1) := by decide +kernel
theorem dX6_clip_25 : decode cX6_clip 25 = .ok (.ireturn, 1) := by decide +kernel
theorem dX6_clip_26 : decode cX6_clip 26 = .ok (.iload_n 2, 1) := by decide +kernel
theorem dX6_clip_27 : decode cX6_clip 27 = .ok (.ifCond .ge 7, 3) := by decide +kernel
theorem dX6_clip_30 : decode cX6_clip 30 = .ok (.lconst 0, 1) := by decide +kernel
theorem dX6_clip_31 : decode cX6_clip 31 = .ok (.goto 5, 3) := by decide +kernel
theorem dX6_clip_34 : decode cX6_clip 34 = .ok (.iload_n 2, 1) := by decide +kernel
theorem dX6_clip_35 : decode cX6_clip 35 = .ok (.i2l, 1) := by decide +kernel
theorem dX6_clip_36 : decode cX6_clip 36 = .ok (.lstore 6, 2) := by decide +kernel
theorem dX6_clip_38 : decode cX6_clip 38 = .ok (.iload_n 3, 1) := by decide +kernel
theorem dX6_clip_39 : decode cX6_clip 39 = .ok (.ifCond .ge 7, 3) := by decide +kernel
theorem dX6_clip_42 : decode cX6_clip 42 = .ok (.lconst 0, 1) := by decide +kernel
theorem dX6_clip_43 : decode cX6_clip 43 = .ok (.goto 5, 3) := by decide +kernel
theorem dX6_clip_46 : decode cX6_clip 46 = .ok (.iload_n 3, 1) := by decide +kernel
theorem dX6_clip_47 : decode cX6_clip 47 = .ok (.i2l, 1) := by decide +kernel
theorem dX6_clip_48 : decode cX6_clip 48 = .ok (.lstore 8, 2) := by decide +kernel
theorem dX6_clip_50 : decode cX6_clip 50 = .ok (.iload_n 2, 1) := by decide +kernel
theorem dX6_clip_51 : decode cX6_clip 51 = .ok (.i2l, 1) := by decide +kernel
theorem dX6_clip_52 : decode cX6_clip 52 = .ok (.iload 4, 2) := by decide +kernel
theorem dX6_clip_54 : decode cX6_clip 54 = .ok (.i2l, 1) := by decide +kernel
theorem dX6_clip_55 : decode cX6_clip 55 = .ok (.ladd, 1) := by decide +kernel
theorem dX6_clip_56 : decode cX6_clip 56 = .ok (.aload_n 0, 1) := by decide +kernel
theorem dX6_clip_57 : decode cX6_clip 57 = .ok (.getfield 13, 3) := by decide +kernel
theorem dX6_clip_60 : decode cX6_clip 60 = .ok (.iload_n 1, 1) := by decide +kernel
theorem dX6_clip_61 : decode cX6_clip 61 = .ok (.iaload, 1) := by decide +kernel
theorem dX6_clip_62 : decode cX6_clip 62 = .ok (.i2l, 1) := by decide +kernel
theorem dX6_clip_63 : decode cX6_clip 63 = .ok (.invokestatic 66, 3) := by decide +kernel
theorem dX6_clip_66 : decode cX6_clip 66 = .ok (.lload 6, 2) := by decide +kernel
theorem dX6_clip_68 : decode cX6_clip 68 = .ok (.lsub, 1) := by decide +kernel
theorem dX6_clip_69 : decode cX6_clip 69 = .ok (.lstore 10, 2) := by decide +kernel
theorem dX6_clip_71 : decode cX6_clip 71 = .ok (.iload_n 3, 1) := by decide +kernel
theorem dX6_clip_72 : decode cX6_clip 72 = .ok (.i2l, 1) := by decide +kernel
theorem dX6_clip_73 : decode cX6_clip 73 = .ok (.iload 5, 2) := by decide +kernel
theorem dX6_clip_75 : decode cX6_clip 75 = .ok (.i2l, 1) := by decide +kernel
theorem dX6_clip_76 : decode cX6_clip 76 = .ok (.ladd, 1) := by decide +kernel
theorem dX6_clip_77 : decode cX6_clip 77 = .ok (.aload_n 0, 1) := by decide +kernel
theorem dX6_clip_78 : decode cX6_clip 78 = .ok (.getfield 16, 3) := by decide +kernel
theorem dX6_clip_81 : decode cX6_clip 81 = .ok (.iload_n 1, 1) := by decide +kernel
theorem dX6_clip_82 : decode cX6_clip 82 = .ok (.iaload, 1) := by decide +kernel
theorem dX6_clip_83 : decode cX6_clip 83 = .ok (.i2l, 1) := by decide +kernel
theorem dX6_clip_84 : decode cX6_clip 84 = .ok (.invokestatic 66, 3) := by decide +kernel
theorem dX6_clip_87 : decode cX6_clip 87 = .ok (.lload 8, 2) := by decide +kernel
theorem dX6_clip_89 : decode cX6_clip 89 = .ok (.lsub, 1) := by decide +kernel
theorem dX6_clip_90 : decode cX6_clip 90 = .ok (.lstore 12, 2) := by decide +kernel
theorem dX6_clip_92 : decode cX6_clip 92 = .ok (.lload 10, 2) := by decide +kernel
theorem dX6_clip_94 : decode cX6_clip 94 = .ok (.lconst 0, 1) := by decide +kernel
theorem dX6_clip_95 : decode cX6_clip 95 = .ok (.lcmp, 1) := by decide +kernel
theorem dX6_clip_96 : decode cX6_clip 96 = .ok (.ifCond .le 14, 3) := by decide +kernel
theorem dX6_clip_99 : decode cX6_clip 99 = .ok (.lload 12, 2) := by decide +kernel
theorem dX6_clip_101 : decode cX6_clip 101 = .ok (.lconst 0, 1) := by decide +kernel
theorem dX6_clip_102 : decode cX6_clip 102 = .ok (.lcmp, 1) := by decide +kernel
theorem dX6_clip_103 : decode cX6_clip 103 = .ok (.ifCond .le 7, 3) := by decide +kernel
theorem dX6_clip_106 : decode cX6_clip 106 = .ok (.iconst 1, 1) := by decide +kernel
theorem dX6_clip_107 : decode cX6_clip 107 = .ok (.goto 4, 3) := by decide +kernel
theorem dX6_clip_110 : decode cX6_clip 110 = .ok (.iconst 0, 1) := by decide +kernel
theorem dX6_clip_111 : decode cX6_clip 111 = .ok (.istore 14, 2) := by decide +kernel
theorem dX6_clip_113 : decode cX6_clip 113 = .ok (.aload_n 0, 1) := by decide +kernel
theorem dX6_clip_114 : decode cX6_clip 114 = .ok (.getfield 19, 3) := by decide +kernel
theorem dX6_clip_117 : decode cX6_clip 117 = .ok (.iconst 4, 1) := by decide +kernel
theorem dX6_clip_118 : decode cX6_clip 118 = .ok (.iload_n 1, 1) := by decide +kernel
theorem dX6_clip_119 : decode cX6_clip 119 = .ok (.imul, 1) := by decide +kernel
theorem dX6_clip_120 : decode cX6_clip 120 = .ok (.iload 14, 2) := by decide +kernel
theorem dX6_clip_122 : decode cX6_clip 122 = .ok (.ifCond .eq 9, 3) := by decide +kernel
theorem dX6_clip_125 : decode cX6_clip 125 = .ok (.lload 6, 2) := by decide +kernel
theorem dX6_clip_127 : decode cX6_clip 127 = .ok (.l2i, 1) := by decide +kernel
theorem dX6_clip_128 : decode cX6_clip 128 = .ok (.goto 4, 3) := by decide +kernel
theorem dX6_clip_131 : decode cX6_clip 131 = .ok (.iconst 0, 1) := by decide +kernel
theorem dX6_clip_132 : decode cX6_clip 132 = .ok (.iastore, 1) := by decide +kernel
theorem dX6_clip_133 : decode cX6_clip 133 = .ok (.aload_n 0, 1) := by decide +kernel
theorem dX6_clip_134 : decode cX6_clip 134 = .ok (.getfield 19, 3) := by decide +kernel
theorem dX6_clip_137 : decode cX6_clip 137 = .ok (.iconst 4, 1) := by decide +kernel
theorem dX6_clip_138 : decode cX6_clip 138 = .ok (.iload_n 1, 1) := by decide +kernel
theorem dX6_clip_139 : decode cX6_clip 139 = .ok (.imul, 1) := by decide +kernel
theorem dX6_clip_140 : decode cX6_clip 140 = .ok (.iconst 1, 1) := by decide +kernel
theorem dX6_clip_141 : decode cX6_clip 141 = .ok (.iadd, 1) := by decide +kernel
theorem dX6_clip_142 : decode cX6_clip 142 = .ok (.iload 14, 2) := by decide +kernel
theorem dX6_clip_144 : decode cX6_clip 144 = .ok (.ifCond .eq 9, 3) := by decide +kernel
theorem dX6_clip_147 : decode cX6_clip 147 = .ok (.lload 8, 2) := by decide +kernel
theorem dX6_clip_149 : decode cX6_clip 149 = .ok (.l2i, 1) := by decide +kernel
theorem dX6_clip_150 : decode cX6_clip 150 = .ok (.goto 4, 3) := by decide +kernel
theorem dX6_clip_153 : decode cX6_clip 153 = .ok (.iconst 0, 1) := by decide +kernel
theorem dX6_clip_154 : decode cX6_clip 154 = .ok (.iastore, 1) := by decide +kernel
theorem dX6_clip_155 : decode cX6_clip 155 = .ok (.aload_n 0, 1) := by decide +kernel
theorem dX6_clip_156 : decode cX6_clip 156 = .ok (.getfield 19, 3) := by decide +kernel
theorem dX6_clip_159 : decode cX6_clip 159 = .ok (.iconst 4, 1) := by decide +kernel
theorem dX6_clip_160 : decode cX6_clip 160 = .ok (.iload_n 1, 1) := by decide +kernel
theorem dX6_clip_161 : decode cX6_clip 161 = .ok (.imul, 1) := by decide +kernel
theorem dX6_clip_162 : decode cX6_clip 162 = .ok (.iconst 2, 1) := by decide +kernel
theorem dX6_clip_163 : decode cX6_clip 163 = .ok (.iadd, 1) := by decide +kernel
theorem dX6_clip_164 : decode cX6_clip 164 = .ok (.iload 14, 2) := by decide +kernel
theorem dX6_clip_166 : decode cX6_clip 166 = .ok (.ifCond .eq 9, 3) := by decide +kernel
theorem dX6_clip_169 : decode cX6_clip 169 = .ok (.lload 10, 2) := by decide +kernel
theorem dX6_clip_171 : decode cX6_clip 171 = .ok (.l2i, 1) := by decide +kernel
theorem dX6_clip_172 : decode cX6_clip 172 = .ok (.goto 4, 3) := by decide +kernel
theorem dX6_clip_175 : decode cX6_clip 175 = .ok (.iconst 0, 1) := by decide +kernel
theorem dX6_clip_176 : decode cX6_clip 176 = .ok (.iastore, 1) := by decide +kernel
theorem dX6_clip_177 : decode cX6_clip 177 = .ok (.aload_n 0, 1) := by decide +kernel
theorem dX6_clip_178 : decode cX6_clip 178 = .ok (.getfield 19, 3) := by decide +kernel
theorem dX6_clip_181 : decode cX6_clip 181 = .ok (.iconst 4, 1) := by decide +kernel
theorem dX6_clip_182 : decode cX6_clip 182 = .ok (.iload_n 1, 1) := by decide +kernel
theorem dX6_clip_183 : decode cX6_clip 183 = .ok (.imul, 1) := by decide +kernel
theorem dX6_clip_184 : decode cX6_clip 184 = .ok (.iconst 3, 1) := by decide +kernel
theorem dX6_clip_185 : decode cX6_clip 185 = .ok (.iadd, 1) := by decide +kernel
theorem dX6_clip_186 : decode cX6_clip 186 = .ok (.iload 14, 2) := by decide +kernel
theorem dX6_clip_188 : decode cX6_clip 188 = .ok (.ifCond .eq 9, 3) := by decide +kernel
theorem dX6_clip_191 : decode cX6_clip 191 = .ok (.lload 12, 2) := by decide +kernel
theorem dX6_clip_193 : decode cX6_clip 193 = .ok (.l2i, 1) := by decide +kernel
theorem dX6_clip_194 : decode cX6_clip 194 = .ok (.goto 4, 3) := by decide +kernel
theorem dX6_clip_197 : decode cX6_clip 197 = .ok (.iconst 0, 1) := by decide +kernel
theorem dX6_clip_198 : decode cX6_clip 198 = .ok (.iastore, 1) := by decide +kernel
theorem dX6_clip_199 : decode cX6_clip 199 = .ok (.aload_n 0, 1) := by decide +kernel
theorem dX6_clip_200 : decode cX6_clip 200 = .ok (.getfield 19, 3) := by decide +kernel
theorem dX6_clip_203 : decode cX6_clip 203 = .ok (.iconst 4, 1) := by decide +kernel
theorem dX6_clip_204 : decode cX6_clip 204 = .ok (.iload_n 1, 1) := by decide +kernel
theorem dX6_clip_205 : decode cX6_clip 205 = .ok (.imul, 1) := by decide +kernel
theorem dX6_clip_206 : decode cX6_clip 206 = .ok (.iconst 2, 1) := by decide +kernel
theorem dX6_clip_207 : decode cX6_clip 207 = .ok (.iadd, 1) := by decide +kernel
theorem dX6_clip_208 : decode cX6_clip 208 = .ok (.iaload, 1) := by decide +kernel
theorem dX6_clip_209 : decode cX6_clip 209 = .ok (.aload_n 0, 1) := by decide +kernel
theorem dX6_clip_210 : decode cX6_clip 210 = .ok (.getfield 19, 3) := by decide +kernel
theorem dX6_clip_213 : decode cX6_clip 213 = .ok (.iconst 4, 1) := by decide +kernel
theorem dX6_clip_214 : decode cX6_clip 214 = .ok (.iload_n 1, 1) := by decide +kernel
theorem dX6_clip_215 : decode cX6_clip 215 = .ok (.imul, 1) := by decide +kernel
theorem dX6_clip_216 : decode cX6_clip 216 = .ok (.iconst 3, 1) := by decide +kernel
theorem dX6_clip_217 : decode cX6_clip 217 = .ok (.iadd, 1) := by decide +kernel
theorem dX6_clip_218 : decode cX6_clip 218 = .ok (.iaload, 1) := by decide +kernel
theorem dX6_clip_219 : decode cX6_clip 219 = .ok (.imul, 1) := by decide +kernel
theorem dX6_clip_220 : decode cX6_clip 220 = .ok (.ireturn, 1) := by decide +kernel
set_option maxRecDepth 100000 in
theorem ggX6_set_X6_isSurface : GoodIn wsX6_set wsX6_isSurface := goodIn_r _ [6, 7, 19, 20, 21, 22, 23, 24, 25, 26, 27, 28, 29, 30, 31, 32, 33, 34] rfl (by decide +kernel)
set_option maxRecDepth 20000 in
theorem gX6_set_X6_isSurface : GoodIn wsX6_set (wsV RX6 59 RX6 yX6_isSurface wsX6_isSurface) := goodIn_app (goodIn_of _ (by decide +kernel)) ggX6_set_X6_isSurface
set_option maxRecDepth 100000 in
theorem ggX6_set_X6_isPlace : GoodIn wsX6_set wsX6_isPlace := goodIn_r _ [11, 12, 13, 19, 20, 21, 22, 23, 24, 25, 26, 27, 28, 29, 30, 31, 32, 33, 34] rfl (by decide +kernel)
set_option maxRecDepth 20000 in
theorem gX6_set_X6_isPlace : GoodIn wsX6_set (wsV RX6 55 RX6 yX6_isPlace wsX6_isPlace) := goodIn_app (goodIn_of _ (by decide +kernel)) ggX6_set_X6_isPlace
set_option maxRecDepth 100000 in
theorem ggX6_set_X6_fits : GoodIn wsX6_set wsX6_fits := goodIn_r _ [17, 18, 19, 20, 21, 22, 23, 24, 25, 26, 27, 28, 29, 30, 31, 32, 33, 34] rfl (by decide +kernel)
set_option maxRecDepth 20000 in
theorem gX6_set_X6_fits : GoodIn wsX6_set (wsV RX6 70 RX6 yX6_fits wsX6_fits) := goodIn_app (goodIn_of _ (by decide +kernel)) ggX6_set_X6_fits
theorem dX6_set_0 : decode cX6_set 0 = .ok (.aload_n 0, 1) := by decide +kernel
theorem dX6_set_1 : decode cX6_set 1 = .ok (.iload_n 1, 1) := by decide +kernel
theorem dX6_set_2 : decode cX6_set 2 = .ok (.invokevirtual 59, 3) := by decide +kernel
theorem dX6_set_5 : decode cX6_set 5 = .ok (.ifCond .eq 25, 3) := by decide +kernel
theorem dX6_set_8 : decode cX6_set 8 = .ok (.aload_n 0, 1) := by decide +kernel
theorem dX6_set_9 : decode cX6_set 9 = .ok (.iload_n 1, 1) := by decide +kernel
theorem dX6_set_10 : decode cX6_set 10 = .ok (.iload_n 2, 1) := by decide +kernel
theorem dX6_set_11 : decode cX6_set 11 = .ok (.i2l, 1) := by decide +kernel
theorem dX6_set_12 : decode cX6_set 12 = .ok (.iload_n 3, 1) := by decide +kernel
theorem dX6_set_13 : decode cX6_set 13 = .ok (.i2l, 1) := by decide +kernel
theorem dX6_set_14 : decode cX6_set 14 = .ok (.invokevirtual 55, 3) := by decide +kernel
theorem dX6_set_17 : decode cX6_set 17 = .ok (.ifCond .eq 13, 3) := by decide +kernel
theorem dX6_set_20 : decode cX6_set 20 = .ok (.aload_n 0, 1) := by decide +kernel
theorem dX6_set_21 : decode cX6_set 21 = .ok (.iload_n 1, 1) := by decide +kernel
theorem dX6_set_22 : decode cX6_set 22 = .ok (.iload 4, 2) := by decide +kernel
theorem dX6_set_24 : decode cX6_set 24 = .ok (.invokevirtual 70, 3) := by decide +kernel
theorem dX6_set_27 : decode cX6_set 27 = .ok (.ifCond .ne 5, 3) := by decide +kernel
theorem dX6_set_30 : decode cX6_set 30 = .ok (.iconst 0, 1) := by decide +kernel
theorem dX6_set_31 : decode cX6_set 31 = .ok (.ireturn, 1) := by decide +kernel
theorem dX6_set_32 : decode cX6_set 32 = .ok (.aload_n 0, 1) := by decide +kernel
theorem dX6_set_33 : decode cX6_set 33 = .ok (.getfield 23, 3) := by decide +kernel
theorem dX6_set_36 : decode cX6_set 36 = .ok (.sipush 4096, 3) := by decide +kernel
theorem dX6_set_39 : decode cX6_set 39 = .ok (.iload_n 1, 1) := by decide +kernel
theorem dX6_set_40 : decode cX6_set 40 = .ok (.imul, 1) := by decide +kernel
theorem dX6_set_41 : decode cX6_set 41 = .ok (.bipush 64, 2) := by decide +kernel
theorem dX6_set_43 : decode cX6_set 43 = .ok (.iload_n 3, 1) := by decide +kernel
theorem dX6_set_44 : decode cX6_set 44 = .ok (.imul, 1) := by decide +kernel
theorem dX6_set_45 : decode cX6_set 45 = .ok (.iadd, 1) := by decide +kernel
theorem dX6_set_46 : decode cX6_set 46 = .ok (.iload_n 2, 1) := by decide +kernel
theorem dX6_set_47 : decode cX6_set 47 = .ok (.iadd, 1) := by decide +kernel
theorem dX6_set_48 : decode cX6_set 48 = .ok (.iload 4, 2) := by decide +kernel
theorem dX6_set_50 : decode cX6_set 50 = .ok (.iastore, 1) := by decide +kernel
theorem dX6_set_51 : decode cX6_set 51 = .ok (.iconst 1, 1) := by decide +kernel
theorem dX6_set_52 : decode cX6_set 52 = .ok (.ireturn, 1) := by decide +kernel
set_option maxRecDepth 100000 in
theorem ggX6_get_X6_isSurface : GoodIn wsX6_get wsX6_isSurface := goodIn_r _ [5, 6, 18, 19, 20, 21, 22, 23, 24, 25, 26, 27, 28, 29, 30, 31, 32, 33] rfl (by decide +kernel)
set_option maxRecDepth 20000 in
theorem gX6_get_X6_isSurface : GoodIn wsX6_get (wsV RX6 59 RX6 yX6_isSurface wsX6_isSurface) := goodIn_app (goodIn_of _ (by decide +kernel)) ggX6_get_X6_isSurface
set_option maxRecDepth 100000 in
theorem ggX6_get_X6_isPlace : GoodIn wsX6_get wsX6_isPlace := goodIn_r _ [10, 11, 12, 18, 19, 20, 21, 22, 23, 24, 25, 26, 27, 28, 29, 30, 31, 32, 33] rfl (by decide +kernel)
set_option maxRecDepth 20000 in
theorem gX6_get_X6_isPlace : GoodIn wsX6_get (wsV RX6 55 RX6 yX6_isPlace wsX6_isPlace) := goodIn_app (goodIn_of _ (by decide +kernel)) ggX6_get_X6_isPlace
set_option maxRecDepth 100000 in
theorem ggX6_get_X6_dot : GoodIn wsX6_get wsX6_dot := goodIn_r _ [16, 17, 7, 8, 9, 4, 10, 11, 12, 18, 19, 20, 21, 22, 23, 24, 25, 26, 27, 28, 29, 30, 31, 32, 33] rfl (by decide +kernel)
set_option maxRecDepth 20000 in
theorem gX6_get_X6_dot : GoodIn wsX6_get (wsV RX6 74 RX6 yX6_dot wsX6_dot) := goodIn_app (goodIn_of _ (by decide +kernel)) ggX6_get_X6_dot
theorem dX6_get_0 : decode cX6_get 0 = .ok (.aload_n 0, 1) := by decide +kernel
theorem dX6_get_1 : decode cX6_get 1 = .ok (.iload_n 1, 1) := by decide +kernel
theorem dX6_get_2 : decode cX6_get 2 = .ok (.invokevirtual 59, 3) := by decide +kernel
theorem dX6_get_5 : decode cX6_get 5 = .ok (.ifCond .eq 27, 3) := by decide +kernel
theorem dX6_get_8 : decode cX6_get 8 = .ok (.aload_n 0, 1) := by decide +kernel
theorem dX6_get_9 : decode cX6_get 9 = .ok (.iload_n 1, 1) := by decide +kernel
theorem dX6_get_10 : decode cX6_get 10 = .ok (.iload_n 2, 1) := by decide +kernel
theorem dX6_get_11 : decode cX6_get 11 = .ok (.i2l, 1) := by decide +kernel
theorem dX6_get_12 : decode cX6_get 12 = .ok (.iload_n 3, 1) := by decide +kernel
theorem dX6_get_13 : decode cX6_get 13 = .ok (.i2l, 1) := by decide +kernel
theorem dX6_get_14 : decode cX6_get 14 = .ok (.invokevirtual 55, 3) := by decide +kernel
theorem dX6_get_17 : decode cX6_get 17 = .ok (.ifCond .eq 15, 3) := by decide +kernel
theorem dX6_get_20 : decode cX6_get 20 = .ok (.aload_n 0, 1) := by decide +kernel
theorem dX6_get_21 : decode cX6_get 21 = .ok (.iload_n 1, 1) := by decide +kernel
theorem dX6_get_22 : decode cX6_get 22 = .ok (.iload_n 2, 1) := by decide +kernel
theorem dX6_get_23 : decode cX6_get 23 = .ok (.i2l, 1) := by decide +kernel
theorem dX6_get_24 : decode cX6_get 24 = .ok (.iload_n 3, 1) := by decide +kernel
theorem dX6_get_25 : decode cX6_get 25 = .ok (.i2l, 1) := by decide +kernel
theorem dX6_get_26 : decode cX6_get 26 = .ok (.invokevirtual 74, 3) := by decide +kernel
theorem dX6_get_29 : decode cX6_get 29 = .ok (.goto 4, 3) := by decide +kernel
theorem dX6_get_32 : decode cX6_get 32 = .ok (.iconst (-1), 1) := by decide +kernel
theorem dX6_get_33 : decode cX6_get 33 = .ok (.ireturn, 1) := by decide +kernel
set_option maxRecDepth 100000 in
theorem ggX6_told_X6_isSurface : GoodIn wsX6_told wsX6_isSurface := goodIn_r _ [9, 10, 11, 12, 13, 14, 15, 16, 17, 18, 19, 20, 21, 22, 23, 24, 25, 26] rfl (by decide +kernel)
set_option maxRecDepth 20000 in
theorem gX6_told_X6_isSurface : GoodIn wsX6_told (wsV RX6 59 RX6 yX6_isSurface wsX6_isSurface) := goodIn_app (goodIn_of _ (by decide +kernel)) ggX6_told_X6_isSurface
theorem dX6_told_0 : decode cX6_told 0 = .ok (.aload_n 0, 1) := by decide +kernel
theorem dX6_told_1 : decode cX6_told 1 = .ok (.iload_n 1, 1) := by decide +kernel
theorem dX6_told_2 : decode cX6_told 2 = .ok (.invokevirtual 59, 3) := by decide +kernel
theorem dX6_told_5 : decode cX6_told 5 = .ok (.ifCond .eq 13, 3) := by decide +kernel
theorem dX6_told_8 : decode cX6_told 8 = .ok (.iload_n 2, 1) := by decide +kernel
theorem dX6_told_9 : decode cX6_told 9 = .ok (.ifCond .lt 9, 3) := by decide +kernel
theorem dX6_told_12 : decode cX6_told 12 = .ok (.iload_n 2, 1) := by decide +kernel
theorem dX6_told_13 : decode cX6_told 13 = .ok (.bipush 6, 2) := by decide +kernel
theorem dX6_told_15 : decode cX6_told 15 = .ok (.if_icmp .le 5, 3) := by decide +kernel
theorem dX6_told_18 : decode cX6_told 18 = .ok (.iconst (-1), 1) := by decide +kernel
theorem dX6_told_19 : decode cX6_told 19 = .ok (.ireturn, 1) := by decide +kernel
theorem dX6_told_20 : decode cX6_told 20 = .ok (.iload_n 2, 1) := by decide +kernel
theorem dX6_told_21 : decode cX6_told 21 = .ok (.ifCond .ne 12, 3) := by decide +kernel
theorem dX6_told_24 : decode cX6_told 24 = .ok (.aload_n 0, 1) := by decide +kernel
theorem dX6_told_25 : decode cX6_told 25 = .ok (.getfield 7, 3) := by decide +kernel
theorem dX6_told_28 : decode cX6_told 28 = .ok (.iload_n 1, 1) := by decide +kernel
theorem dX6_told_29 : decode cX6_told 29 = .ok (.iaload, 1) := by decide +kernel
theorem dX6_told_30 : decode cX6_told 30 = .ok (.goto 43, 3) := by decide +kernel
theorem dX6_told_33 : decode cX6_told 33 = .ok (.iload_n 2, 1) := by decide +kernel
theorem dX6_told_34 : decode cX6_told 34 = .ok (.iconst 1, 1) := by decide +kernel
theorem dX6_told_35 : decode cX6_told 35 = .ok (.if_icmp .ne 12, 3) := by decide +kernel
theorem dX6_told_38 : decode cX6_told 38 = .ok (.aload_n 0, 1) := by decide +kernel
theorem dX6_told_39 : decode cX6_told 39 = .ok (.getfield 13, 3) := by decide +kernel
theorem dX6_told_42 : decode cX6_told 42 = .ok (.iload_n 1, 1) := by decide +kernel
theorem dX6_told_43 : decode cX6_told 43 = .ok (.iaload, 1) := by decide +kernel
theorem dX6_told_44 : decode cX6_told 44 = .ok (.goto 29, 3) := by decide +kernel
theorem dX6_told_47 : decode cX6_told 47 = .ok (.iload_n 2, 1) := by decide +kernel
theorem dX6_told_48 : decode cX6_told 48 = .ok (.iconst 2, 1) := by decide +kernel
theorem dX6_told_49 : decode cX6_told 49 = .ok (.if_icmp .ne 12, 3) := by decide +kernel
theorem dX6_told_52 : decode cX6_told 52 = .ok (.aload_n 0, 1) := by decide +kernel
theorem dX6_told_53 : decode cX6_told 53 = .ok (.getfield 16, 3) := by decide +kernel
theorem dX6_told_56 : decode cX6_told 56 = .ok (.iload_n 1, 1) := by decide +kernel
theorem dX6_told_57 : decode cX6_told 57 = .ok (.iaload, 1) := by decide +kernel
theorem dX6_told_58 : decode cX6_told 58 = .ok (.goto 15, 3) := by decide +kernel
theorem dX6_told_61 : decode cX6_told 61 = .ok (.aload_n 0, 1) := by decide +kernel
theorem dX6_told_62 : decode cX6_told 62 = .ok (.getfield 19, 3) := by decide +kernel
theorem dX6_told_65 : decode cX6_told 65 = .ok (.iconst 4, 1) := by decide +kernel
theorem dX6_told_66 : decode cX6_told 66 = .ok (.iload_n 1, 1) := by decide +kernel
theorem dX6_told_67 : decode cX6_told 67 = .ok (.imul, 1) := by decide +kernel
theorem dX6_told_68 : decode cX6_told 68 = .ok (.iload_n 2, 1) := by decide +kernel
theorem dX6_told_69 : decode cX6_told 69 = .ok (.iadd, 1) := by decide +kernel
theorem dX6_told_70 : decode cX6_told 70 = .ok (.iconst 3, 1) := by decide +kernel
theorem dX6_told_71 : decode cX6_told 71 = .ok (.isub, 1) := by decide +kernel
theorem dX6_told_72 : decode cX6_told 72 = .ok (.iaload, 1) := by decide +kernel
theorem dX6_told_73 : decode cX6_told 73 = .ok (.ireturn, 1) := by decide +kernel
theorem dX6_combined_0 : decode cX6_combined 0 = .ok (.iconst 0, 1) := by decide +kernel
theorem dX6_combined_1 : decode cX6_combined 1 = .ok (.istore_n 3, 1) := by decide +kernel
theorem dX6_combined_2 : decode cX6_combined 2 = .ok (.iconst 0, 1) := by decide +kernel
theorem dX6_combined_3 : decode cX6_combined 3 = .ok (.istore 4, 2) := by decide +kernel
theorem dX6_combined_5 : decode cX6_combined 5 = .ok (.iload 4, 2) := by decide +kernel
theorem dX6_combined_7 : decode cX6_combined 7 = .ok (.bipush 8, 2) := by decide +kernel
theorem dX6_combined_9 : decode cX6_combined 9 = .ok (.if_icmp .ge 38, 3) := by decide +kernel
theorem dX6_combined_12 : decode cX6_combined 12 = .ok (.iconst 2, 1) := by decide +kernel
theorem dX6_combined_13 : decode cX6_combined 13 = .ok (.iload_n 0, 1) := by decide +kernel
theorem dX6_combined_14 : decode cX6_combined 14 = .ok (.iload 4, 2) := by decide +kernel
theorem dX6_combined_16 : decode cX6_combined 16 = .ok (.ishr, 1) := by decide +kernel
theorem dX6_combined_17 : decode cX6_combined 17 = .ok (.iconst 1, 1) := by decide +kernel
theorem dX6_combined_18 : decode cX6_combined 18 = .ok (.iand, 1) := by decide +kernel
theorem dX6_combined_19 : decode cX6_combined 19 = .ok (.imul, 1) := by decide +kernel
theorem dX6_combined_20 : decode cX6_combined 20 = .ok (.iload_n 1, 1) := by decide +kernel
theorem dX6_combined_21 : decode cX6_combined 21 = .ok (.iload 4, 2) := by decide +kernel
theorem dX6_combined_23 : decode cX6_combined 23 = .ok (.ishr, 1) := by decide +kernel
theorem dX6_combined_24 : decode cX6_combined 24 = .ok (.iconst 1, 1) := by decide +kernel
theorem dX6_combined_25 : decode cX6_combined 25 = .ok (.iand, 1) := by decide +kernel
theorem dX6_combined_26 : decode cX6_combined 26 = .ok (.iadd, 1) := by decide +kernel
theorem dX6_combined_27 : decode cX6_combined 27 = .ok (.istore 5, 2) := by decide +kernel
theorem dX6_combined_29 : decode cX6_combined 29 = .ok (.iload_n 3, 1) := by decide +kernel
theorem dX6_combined_30 : decode cX6_combined 30 = .ok (.iload_n 2, 1) := by decide +kernel
theorem dX6_combined_31 : decode cX6_combined 31 = .ok (.iload 5, 2) := by decide +kernel
theorem dX6_combined_33 : decode cX6_combined 33 = .ok (.ishr, 1) := by decide +kernel
theorem dX6_combined_34 : decode cX6_combined 34 = .ok (.iconst 1, 1) := by decide +kernel
theorem dX6_combined_35 : decode cX6_combined 35 = .ok (.iand, 1) := by decide +kernel
theorem dX6_combined_36 : decode cX6_combined 36 = .ok (.iload 4, 2) := by decide +kernel
theorem dX6_combined_38 : decode cX6_combined 38 = .ok (.ishl, 1) := by decide +kernel
theorem dX6_combined_39 : decode cX6_combined 39 = .ok (.ior, 1) := by decide +kernel
theorem dX6_combined_40 : decode cX6_combined 40 = .ok (.istore_n 3, 1) := by decide +kernel
theorem dX6_combined_41 : decode cX6_combined 41 = .ok (.iinc 4 1, 3) := by decide +kernel
theorem dX6_combined_44 : decode cX6_combined 44 = .ok (.goto (-39), 3) := by decide +kernel
theorem dX6_combined_47 : decode cX6_combined 47 = .ok (.iload_n 3, 1) := by decide +kernel
theorem dX6_combined_48 : decode cX6_combined 48 = .ok (.ireturn, 1) := by decide +kernel
theorem dX6_fitted_0 : decode cX6_fitted 0 = .ok (.iload_n 2, 1) := by decide +kernel
theorem dX6_fitted_1 : decode cX6_fitted 1 = .ok (.iconst 1, 1) := by decide +kernel
theorem dX6_fitted_2 : decode cX6_fitted 2 = .ok (.aload_n 0, 1) := by decide +kernel
theorem dX6_fitted_3 : decode cX6_fitted 3 = .ok (.getfield 7, 3) := by decide +kernel
theorem dX6_fitted_6 : decode cX6_fitted 6 = .ok (.iload_n 1, 1) := by decide +kernel
theorem dX6_fitted_7 : decode cX6_fitted 7 = .ok (.iaload, 1) := by decide +kernel
theorem dX6_fitted_8 : decode cX6_fitted 8 = .ok (.ishl, 1) := by decide +kernel
theorem dX6_fitted_9 : decode cX6_fitted 9 = .ok (.iconst 1, 1) := by decide +kernel
theorem dX6_fitted_10 : decode cX6_fitted 10 = .ok (.isub, 1) := by decide +kernel
theorem dX6_fitted_11 : decode cX6_fitted 11 = .ok (.iand, 1) := by decide +kernel
theorem dX6_fitted_12 : decode cX6_fitted 12 = .ok (.ireturn, 1) := by decide +kernel
set_option maxRecDepth 100000 in
theorem ggX6_fill_X6_isSurface : GoodIn wsX6_fill wsX6_isSurface := goodIn_r _ [6, 7, 28, 29, 30, 31, 32, 33, 34, 35, 36, 37, 38, 39, 40, 41, 42, 43] rfl (by decide +kernel)
set_option maxRecDepth 20000 in
theorem gX6_fill_X6_isSurface : GoodIn wsX6_fill (wsV RX6 59 RX6 yX6_isSurface wsX6_isSurface) := goodIn_app (goodIn_of _ (by decide +kernel)) ggX6_fill_X6_isSurface
set_option maxRecDepth 100000 in
theorem ggX6_fill_X6_isSpan : GoodIn wsX6_fill wsX6_isSpan := goodIn_r _ [10] rfl (by decide +kernel)
set_option maxRecDepth 20000 in
theorem gX6_fill_X6_isSpan : GoodIn wsX6_fill (va_wsS RX6 63 yX6_isSpan wsX6_isSpan) := goodIn_app (goodIn_of _ (by decide +kernel)) ggX6_fill_X6_isSpan
set_option maxRecDepth 100000 in
theorem ggX6_fill_X6_fits : GoodIn wsX6_fill wsX6_fits := goodIn_r _ [14, 15, 28, 29, 30, 31, 32, 33, 34, 35, 36, 37, 38, 39, 40, 41, 42, 43] rfl (by decide +kernel)
set_option maxRecDepth 20000 in
theorem gX6_fill_X6_fits : GoodIn wsX6_fill (wsV RX6 70 RX6 yX6_fits wsX6_fits) := goodIn_app (goodIn_of _ (by decide +kernel)) ggX6_fill_X6_fits
set_option maxRecDepth 100000 in
theorem ggX6_fill_X6_isInClip : GoodIn wsX6_fill wsX6_isInClip := goodIn_r _ [19, 20, 28, 29, 30, 31, 32, 33, 34, 35, 36, 37, 38, 39, 40, 41, 42, 43] rfl (by decide +kernel)
set_option maxRecDepth 20000 in
theorem gX6_fill_X6_isInClip : GoodIn wsX6_fill (wsV RX6 78 RX6 yX6_isInClip wsX6_isInClip) := goodIn_app (goodIn_of _ (by decide +kernel)) ggX6_fill_X6_isInClip
set_option maxRecDepth 100000 in
theorem ggX6_fill_X6_combined : GoodIn wsX6_fill wsX6_combined := goodIn_r _ [23] rfl (by decide +kernel)
set_option maxRecDepth 20000 in
theorem gX6_fill_X6_combined : GoodIn wsX6_fill (va_wsS RX6 81 yX6_combined wsX6_combined) := goodIn_app (goodIn_of _ (by decide +kernel)) ggX6_fill_X6_combined
set_option maxRecDepth 100000 in
theorem ggX6_fill_X6_fitted : GoodIn wsX6_fill wsX6_fitted := goodIn_r _ [27, 15, 28, 29, 30, 31, 32, 33, 34, 35, 36, 37, 38, 39, 40, 41, 42, 43] rfl (by decide +kernel)
set_option maxRecDepth 20000 in
theorem gX6_fill_X6_fitted : GoodIn wsX6_fill (wsV RX6 85 RX6 yX6_fitted wsX6_fitted) := goodIn_app (goodIn_of _ (by decide +kernel)) ggX6_fill_X6_fitted
theorem dX6_fill_0 : decode cX6_fill 0 = .ok (.aload_n 0, 1) := by decide +kernel
theorem dX6_fill_1 : decode cX6_fill 1 = .ok (.iload_n 1, 1) := by decide +kernel
theorem dX6_fill_2 : decode cX6_fill 2 = .ok (.invokevirtual 59, 3) := by decide +kernel
theorem dX6_fill_5 : decode cX6_fill 5 = .ok (.ifCond .eq 41, 3) := by decide +kernel
theorem dX6_fill_8 : decode cX6_fill 8 = .ok (.iload 7, 2) := by decide +kernel
theorem dX6_fill_10 : decode cX6_fill 10 = .ok (.ifCond .lt 36, 3) := by decide +kernel
theorem dX6_fill_13 : decode cX6_fill 13 = .ok (.iload 7, 2) := by decide +kernel
theorem dX6_fill_15 : decode cX6_fill 15 = .ok (.bipush 15, 2) := by decide +kernel
theorem dX6_fill_17 : decode cX6_fill 17 = .ok (.if_icmp .gt 29, 3) := by decide +kernel
theorem dX6_fill_20 : decode cX6_fill 20 = .ok (.iload 4, 2) := by decide +kernel
theorem dX6_fill_22 : decode cX6_fill 22 = .ok (.invokestatic 63, 3) := by decide +kernel
theorem dX6_fill_25 : decode cX6_fill 25 = .ok (.ifCond .eq 21, 3) := by decide +kernel
theorem dX6_fill_28 : decode cX6_fill 28 = .ok (.iload 5, 2) := by decide +kernel
theorem dX6_fill_30 : decode cX6_fill 30 = .ok (.invokestatic 63, 3) := by decide +kernel
theorem dX6_fill_33 : decode cX6_fill 33 = .ok (.ifCond .eq 13, 3) := by decide +kernel
theorem dX6_fill_36 : decode cX6_fill 36 = .ok (.aload_n 0, 1) := by decide +kernel
theorem dX6_fill_37 : decode cX6_fill 37 = .ok (.iload_n 1, 1) := by decide +kernel
theorem dX6_fill_38 : decode cX6_fill 38 = .ok (.iload 6, 2) := by decide +kernel
theorem dX6_fill_40 : decode cX6_fill 40 = .ok (.invokevirtual 70, 3) := by decide +kernel
theorem dX6_fill_43 : decode cX6_fill 43 = .ok (.ifCond .ne 5, 3) := by decide +kernel
theorem dX6_fill_46 : decode cX6_fill 46 = .ok (.iconst (-1), 1) := by decide +kernel
theorem dX6_fill_47 : decode cX6_fill 47 = .ok (.ireturn, 1) := by decide +kernel
theorem dX6_fill_48 : decode cX6_fill 48 = .ok (.iconst 0, 1) := by decide +kernel
theorem dX6_fill_49 : decode cX6_fill 49 = .ok (.istore 8, 2) := by decide +kernel
theorem dX6_fill_51 : decode cX6_fill 51 = .ok (.iconst 0, 1) := by decide +kernel
theorem dX6_fill_52 : decode cX6_fill 52 = .ok (.istore 9, 2) := by decide +kernel
theorem dX6_fill_54 : decode cX6_fill 54 = .ok (.iload 9, 2) := by decide +kernel
theorem dX6_fill_56 : decode cX6_fill 56 = .ok (.iload 5, 2) := by decide +kernel
theorem dX6_fill_58 : decode cX6_fill 58 = .ok (.if_icmp .ge 100, 3) := by decide +kernel
theorem dX6_fill_61 : decode cX6_fill 61 = .ok (.iconst 0, 1) := by decide +kernel
theorem dX6_fill_62 : decode cX6_fill 62 = .ok (.istore 10, 2) := by decide +kernel
theorem dX6_fill_64 : decode cX6_fill 64 = .ok (.iload 10, 2) := by decide +kernel
theorem dX6_fill_66 : decode cX6_fill 66 = .ok (.iload 4, 2) := by decide +kernel
theorem dX6_fill_68 : decode cX6_fill 68 = .ok (.if_icmp .ge 84, 3) := by decide +kernel
theorem dX6_fill_71 : decode cX6_fill 71 = .ok (.iload_n 2, 1) := by decide +kernel
theorem dX6_fill_72 : decode cX6_fill 72 = .ok (.i2l, 1) := by decide +kernel
theorem dX6_fill_73 : decode cX6_fill 73 = .ok (.iload 10, 2) := by decide +kernel
theorem dX6_fill_75 : decode cX6_fill 75 = .ok (.i2l, 1) := by decide +kernel
theorem dX6_fill_76 : decode cX6_fill 76 = .ok (.ladd, 1) := by decide +kernel
theorem dX6_fill_77 : decode cX6_fill 77 = .ok (.lstore 11, 2) := by decide +kernel
theorem dX6_fill_79 : decode cX6_fill 79 = .ok (.iload_n 3, 1) := by decide +kernel
theorem dX6_fill_80 : decode cX6_fill 80 = .ok (.i2l, 1) := by decide +kernel
theorem dX6_fill_81 : decode cX6_fill 81 = .ok (.iload 9, 2) := by decide +kernel
theorem dX6_fill_83 : decode cX6_fill 83 = .ok (.i2l, 1) := by decide +kernel
theorem dX6_fill_84 : decode cX6_fill 84 = .ok (.ladd, 1) := by decide +kernel
theorem dX6_fill_85 : decode cX6_fill 85 = .ok (.lstore 13, 2) := by decide +kernel
theorem dX6_fill_87 : decode cX6_fill 87 = .ok (.aload_n 0, 1) := by decide +kernel
theorem dX6_fill_88 : decode cX6_fill 88 = .ok (.iload_n 1, 1) := by decide +kernel
theorem dX6_fill_89 : decode cX6_fill 89 = .ok (.lload 11, 2) := by decide +kernel
theorem dX6_fill_91 : decode cX6_fill 91 = .ok (.lload 13, 2) := by decide +kernel
theorem dX6_fill_93 : decode cX6_fill 93 = .ok (.invokevirtual 78, 3) := by decide +kernel
theorem dX6_fill_96 : decode cX6_fill 96 = .ok (.ifCond .eq 50, 3) := by decide +kernel
theorem dX6_fill_99 : decode cX6_fill 99 = .ok (.sipush 4096, 3) := by decide +kernel
theorem dX6_fill_102 : decode cX6_fill 102 = .ok (.iload_n 1, 1) := by decide +kernel
theorem dX6_fill_103 : decode cX6_fill 103 = .ok (.imul, 1) := by decide +kernel
theorem dX6_fill_104 : decode cX6_fill 104 = .ok (.bipush 64, 2) := by decide +kernel
theorem dX6_fill_106 : decode cX6_fill 106 = .ok (.lload 13, 2) := by decide +kernel
theorem dX6_fill_108 : decode cX6_fill 108 = .ok (.l2i, 1) := by decide +kernel
theorem dX6_fill_109 : decode cX6_fill 109 = .ok (.imul, 1) := by decide +kernel
theorem dX6_fill_110 : decode cX6_fill 110 = .ok (.iadd, 1) := by decide +kernel
theorem dX6_fill_111 : decode cX6_fill 111 = .ok (.lload 11, 2) := by decide +kernel
theorem dX6_fill_113 : decode cX6_fill 113 = .ok (.l2i, 1) := by decide +kernel
theorem dX6_fill_114 : decode cX6_fill 114 = .ok (.iadd, 1) := by decide +kernel
theorem dX6_fill_115 : decode cX6_fill 115 = .ok (.istore 15, 2) := by decide +kernel
theorem dX6_fill_117 : decode cX6_fill 117 = .ok (.aload_n 0, 1) := by decide +kernel
theorem dX6_fill_118 : decode cX6_fill 118 = .ok (.getfield 23, 3) := by decide +kernel
theorem dX6_fill_121 : decode cX6_fill 121 = .ok (.iload 15, 2) := by decide +kernel
theorem dX6_fill_123 : decode cX6_fill 123 = .ok (.aload_n 0, 1) := by decide +kernel
theorem dX6_fill_124 : decode cX6_fill 124 = .ok (.iload_n 1, 1) := by decide +kernel
theorem dX6_fill_125 : decode cX6_fill 125 = .ok (.iload 6, 2) := by decide +kernel
theorem dX6_fill_127 : decode cX6_fill 127 = .ok (.aload_n 0, 1) := by decide +kernel
theorem dX6_fill_128 : decode cX6_fill 128 = .ok (.getfield 23, 3) := by decide +kernel
theorem dX6_fill_131 : decode cX6_fill 131 = .ok (.iload 15, 2) := by decide +kernel
theorem dX6_fill_133 : decode cX6_fill 133 = .ok (.iaload, 1) := by decide +kernel
theorem dX6_fill_134 : decode cX6_fill 134 = .ok (.iload 7, 2) := by decide +kernel
theorem dX6_fill_136 : decode cX6_fill 136 = .ok (.invokestatic 81, 3) := by decide +kernel
theorem dX6_fill_139 : decode cX6_fill 139 = .ok (.invokevirtual 85, 3) := by decide +kernel
theorem dX6_fill_142 : decode cX6_fill 142 = .ok (.iastore, 1) := by decide +kernel
theorem dX6_fill_143 : decode cX6_fill 143 = .ok (.iinc 8 1, 3) := by decide +kernel
theorem dX6_fill_146 : decode cX6_fill 146 = .ok (.iinc 10 1, 3) := by decide +kernel
theorem dX6_fill_149 : decode cX6_fill 149 = .ok (.goto (-85), 3) := by decide +kernel
theorem dX6_fill_152 : decode cX6_fill 152 = .ok (.iinc 9 1, 3) := by decide +kernel
theorem dX6_fill_155 : decode cX6_fill 155 = .ok (.goto (-101), 3) := by decide +kernel
theorem dX6_fill_158 : decode cX6_fill 158 = .ok (.iload 8, 2) := by decide +kernel
theorem dX6_fill_160 : decode cX6_fill 160 = .ok (.ireturn, 1) := by decide +kernel
set_option maxRecDepth 100000 in
theorem ggX6_bring_X6_isPlace : GoodIn wsX6_bring wsX6_isPlace := goodIn_r _ [8, 9, 10, 28, 29, 30, 31, 32, 33, 34, 35, 36, 37, 38, 39, 40, 41, 42, 43] rfl (by decide +kernel)
set_option maxRecDepth 20000 in
theorem gX6_bring_X6_isPlace : GoodIn wsX6_bring (wsV RX6 55 RX6 yX6_isPlace wsX6_isPlace) := goodIn_app (goodIn_of _ (by decide +kernel)) ggX6_bring_X6_isPlace
set_option maxRecDepth 100000 in
theorem ggX6_bring_X6_isInClip : GoodIn wsX6_bring wsX6_isInClip := goodIn_r _ [14, 15, 28, 29, 30, 31, 32, 33, 34, 35, 36, 37, 38, 39, 40, 41, 42, 43] rfl (by decide +kernel)
set_option maxRecDepth 20000 in
theorem gX6_bring_X6_isInClip : GoodIn wsX6_bring (wsV RX6 78 RX6 yX6_isInClip wsX6_isInClip) := goodIn_app (goodIn_of _ (by decide +kernel)) ggX6_bring_X6_isInClip
set_option maxRecDepth 100000 in
theorem ggX6_bring_X6_dot : GoodIn wsX6_bring wsX6_dot := goodIn_r _ [19, 2, 4, 5, 6, 7, 8, 9, 10, 28, 29, 30, 31, 32, 33, 34, 35, 36, 37, 38, 39, 40, 41, 42, 43] rfl (by decide +kernel)
set_option maxRecDepth 20000 in
theorem gX6_bring_X6_dot : GoodIn wsX6_bring (wsV RX6 74 RX6 yX6_dot wsX6_dot) := goodIn_app (goodIn_of _ (by decide +kernel)) ggX6_bring_X6_dot
set_option maxRecDepth 100000 in
theorem ggX6_bring_X6_combined : GoodIn wsX6_bring wsX6_combined := goodIn_r _ [22] rfl (by decide +kernel)
set_option maxRecDepth 20000 in
theorem gX6_bring_X6_combined : GoodIn wsX6_bring (va_wsS RX6 81 yX6_combined wsX6_combined) := goodIn_app (goodIn_of _ (by decide +kernel)) ggX6_bring_X6_combined
set_option maxRecDepth 100000 in
theorem ggX6_bring_X6_fitted : GoodIn wsX6_bring wsX6_fitted := goodIn_r _ [26, 27, 28, 29, 30, 31, 32, 33, 34, 35, 36, 37, 38, 39, 40, 41, 42, 43] rfl (by decide +kernel)
set_option maxRecDepth 20000 in
theorem gX6_bring_X6_fitted : GoodIn wsX6_bring (wsV RX6 85 RX6 yX6_fitted wsX6_fitted) := goodIn_app (goodIn_of _ (by decide +kernel)) ggX6_bring_X6_fitted
theorem dX6_bring_0 : decode cX6_bring 0 = .ok (.iconst 0, 1) := by decide +kernel
theorem dX6_bring_1 : decode cX6_bring 1 = .ok (.istore 12, 2) := by decide +kernel
theorem dX6_bring_3 : decode cX6_bring 3 = .ok (.iload 12, 2) := by decide +kernel
theorem dX6_bring_5 : decode cX6_bring 5 = .ok (.sipush 4096, 3) := by decide +kernel
theorem dX6_bring_8 : decode cX6_bring 8 = .ok (.if_icmp .ge 17, 3) := by decide +kernel
theorem dX6_bring_11 : decode cX6_bring 11 = .ok (.aload_n 0, 1) := by decide +kernel
theorem dX6_bring_12 : decode cX6_bring 12 = .ok (.getfield 29, 3) := by decide +kernel
theorem dX6_bring_15 : decode cX6_bring 15 = .ok (.iload 12, 2) := by decide +kernel
theorem dX6_bring_17 : decode cX6_bring 17 = .ok (.iconst 0, 1) := by decide +kernel
theorem dX6_bring_18 : decode cX6_bring 18 = .ok (.bastore, 1) := by decide +kernel
theorem dX6_bring_19 : decode cX6_bring 19 = .ok (.iinc 12 1, 3) := by decide +kernel
theorem dX6_bring_22 : decode cX6_bring 22 = .ok (.goto (-19), 3) := by decide +kernel
theorem dX6_bring_25 : decode cX6_bring 25 = .ok (.iconst 0, 1) := by decide +kernel
theorem dX6_bring_26 : decode cX6_bring 26 = .ok (.istore 12, 2) := by decide +kernel
theorem dX6_bring_28 : decode cX6_bring 28 = .ok (.iconst 0, 1) := by decide +kernel
theorem dX6_bring_29 : decode cX6_bring 29 = .ok (.istore 13, 2) := by decide +kernel
theorem dX6_bring_31 : decode cX6_bring 31 = .ok (.iload 13, 2) := by decide +kernel
theorem dX6_bring_33 : decode cX6_bring 33 = .ok (.iload 5, 2) := by decide +kernel
theorem dX6_bring_35 : decode cX6_bring 35 = .ok (.if_icmp .ge 232, 3) := by decide +kernel
theorem dX6_bring_38 : decode cX6_bring 38 = .ok (.iconst 0, 1) := by decide +kernel
theorem dX6_bring_39 : decode cX6_bring 39 = .ok (.istore 14, 2) := by decide +kernel
theorem dX6_bring_41 : decode cX6_bring 41 = .ok (.iload 14, 2) := by decide +kernel
theorem dX6_bring_43 : decode cX6_bring 43 = .ok (.iload 4, 2) := by decide +kernel
theorem dX6_bring_45 : decode cX6_bring 45 = .ok (.if_icmp .ge 216, 3) := by decide +kernel
theorem dX6_bring_48 : decode cX6_bring 48 = .ok (.iload 7, 2) := by decide +kernel
theorem dX6_bring_50 : decode cX6_bring 50 = .ok (.i2l, 1) := by decide +kernel
theorem dX6_bring_51 : decode cX6_bring 51 = .ok (.iload 14, 2) := by decide +kernel
theorem dX6_bring_53 : decode cX6_bring 53 = .ok (.i2l, 1) := by decide +kernel
theorem dX6_bring_54 : decode cX6_bring 54 = .ok (.ladd, 1) := by decide +kernel
theorem dX6_bring_55 : decode cX6_bring 55 = .ok (.lstore 15, 2) := by decide +kernel
theorem dX6_bring_57 : decode cX6_bring 57 = .ok (.iload 8, 2) := by decide +kernel
theorem dX6_bring_59 : decode cX6_bring 59 = .ok (.i2l, 1) := by decide +kernel
theorem dX6_bring_60 : decode cX6_bring 60 = .ok (.iload 13, 2) := by decide +kernel
theorem dX6_bring_62 : decode cX6_bring 62 = .ok (.i2l, 1) := by decide +kernel
theorem dX6_bring_63 : decode cX6_bring 63 = .ok (.ladd, 1) := by decide +kernel
theorem dX6_bring_64 : decode cX6_bring 64 = .ok (.lstore 17, 2) := by decide +kernel
theorem dX6_bring_66 : decode cX6_bring 66 = .ok (.iload_n 2, 1) := by decide +kernel
theorem dX6_bring_67 : decode cX6_bring 67 = .ok (.i2l, 1) := by decide +kernel
theorem dX6_bring_68 : decode cX6_bring 68 = .ok (.iload 14, 2) := by decide +kernel
theorem dX6_bring_70 : decode cX6_bring 70 = .ok (.i2l, 1) := by decide +kernel
theorem dX6_bring_71 : decode cX6_bring 71 = .ok (.ladd, 1) := by decide +kernel
theorem dX6_bring_72 : decode cX6_bring 72 = .ok (.lstore 19, 2) := by decide +kernel
theorem dX6_bring_74 : decode cX6_bring 74 = .ok (.iload_n 3, 1) := by decide +kernel
theorem dX6_bring_75 : decode cX6_bring 75 = .ok (.i2l, 1) := by decide +kernel
theorem dX6_bring_76 : decode cX6_bring 76 = .ok (.iload 13, 2) := by decide +kernel
theorem dX6_bring_78 : decode cX6_bring 78 = .ok (.i2l, 1) := by decide +kernel
theorem dX6_bring_79 : decode cX6_bring 79 = .ok (.ladd, 1) := by decide +kernel
theorem dX6_bring_80 : decode cX6_bring 80 = .ok (.lstore 21, 2) := by decide +kernel
theorem dX6_bring_82 : decode cX6_bring 82 = .ok (.aload_n 0, 1) := by decide +kernel
theorem dX6_bring_83 : decode cX6_bring 83 = .ok (.iload_n 1, 1) := by decide +kernel
theorem dX6_bring_84 : decode cX6_bring 84 = .ok (.lload 19, 2) := by decide +kernel
theorem dX6_bring_86 : decode cX6_bring 86 = .ok (.lload 21, 2) := by decide +kernel
theorem dX6_bring_88 : decode cX6_bring 88 = .ok (.invokevirtual 55, 3) := by decide +kernel
theorem dX6_bring_91 : decode cX6_bring 91 = .ok (.ifCond .eq 164, 3) := by decide +kernel
theorem dX6_bring_94 : decode cX6_bring 94 = .ok (.aload_n 0, 1) := by decide +kernel
theorem dX6_bring_95 : decode cX6_bring 95 = .ok (.iload 6, 2) := by decide +kernel
theorem dX6_bring_97 : decode cX6_bring 97 = .ok (.lload 15, 2) := by decide +kernel
theorem dX6_bring_99 : decode cX6_bring 99 = .ok (.lload 17, 2) := by decide +kernel
theorem dX6_bring_101 : decode cX6_bring 101 = .ok (.invokevirtual 78, 3) := by decide +kernel
theorem dX6_bring_104 : decode cX6_bring 104 = .ok (.ifCond .eq 151, 3) := by decide +kernel
theorem dX6_bring_107 : decode cX6_bring 107 = .ok (.iinc 12 1, 3) := by decide +kernel
theorem dX6_bring_110 : decode cX6_bring 110 = .ok (.bipush 64, 2) := by decide +kernel
theorem dX6_bring_112 : decode cX6_bring 112 = .ok (.lload 17, 2) := by decide +kernel
theorem dX6_bring_114 : decode cX6_bring 114 = .ok (.l2i, 1) := by decide +kernel
theorem dX6_bring_115 : decode cX6_bring 115 = .ok (.imul, 1) := by decide +kernel
theorem dX6_bring_116 : decode cX6_bring 116 = .ok (.lload 15, 2) := by decide +kernel
theorem dX6_bring_118 : decode cX6_bring 118 = .ok (.l2i, 1) := by decide +kernel
theorem dX6_bring_119 : decode cX6_bring 119 = .ok (.iadd, 1) := by decide +kernel
theorem dX6_bring_120 : decode cX6_bring 120 = .ok (.istore 23, 2) := by decide +kernel
theorem dX6_bring_122 : decode cX6_bring 122 = .ok (.aload_n 0, 1) := by decide +kernel
theorem dX6_bring_123 : decode cX6_bring 123 = .ok (.iload_n 1, 1) := by decide +kernel
theorem dX6_bring_124 : decode cX6_bring 124 = .ok (.lload 19, 2) := by decide +kernel
theorem dX6_bring_126 : decode cX6_bring 126 = .ok (.lload 21, 2) := by decide +kernel
theorem dX6_bring_128 : decode cX6_bring 128 = .ok (.invokevirtual 74, 3) := by decide +kernel
theorem dX6_bring_131 : decode cX6_bring 131 = .ok (.istore 24, 2) := by decide +kernel
theorem dX6_bring_133 : decode cX6_bring 133 = .ok (.aload_n 0, 1) := by decide +kernel
theorem dX6_bring_134 : decode cX6_bring 134 = .ok (.getfield 23, 3) := by decide +kernel
theorem dX6_bring_137 : decode cX6_bring 137 = .ok (.sipush 4096, 3) := by decide +kernel
theorem dX6_bring_140 : decode cX6_bring 140 = .ok (.iload 6, 2) := by decide +kernel
theorem dX6_bring_142 : decode cX6_bring 142 = .ok (.imul, 1) := by decide +kernel
theorem dX6_bring_143 : decode cX6_bring 143 = .ok (.iload 23, 2) := by decide +kernel
theorem dX6_bring_145 : decode cX6_bring 145 = .ok (.iadd, 1) := by decide +kernel
theorem dX6_bring_146 : decode cX6_bring 146 = .ok (.iaload, 1) := by decide +kernel
theorem dX6_bring_147 : decode cX6_bring 147 = .ok (.istore 25, 2) := by decide +kernel
theorem dX6_bring_149 : decode cX6_bring 149 = .ok (.aload_n 0, 1) := by decide +kernel
theorem dX6_bring_150 : decode cX6_bring 150 = .ok (.getfield 29, 3) := by decide +kernel
theorem dX6_bring_153 : decode cX6_bring 153 = .ok (.iload 23, 2) := by decide +kernel
theorem dX6_bring_155 : decode cX6_bring 155 = .ok (.iload 9, 2) := by decide +kernel
theorem dX6_bring_157 : decode cX6_bring 157 = .ok (.iconst 1, 1) := by decide +kernel
theorem dX6_bring_158 : decode cX6_bring 158 = .ok (.if_icmp .ne 18, 3) := by decide +kernel
theorem dX6_bring_161 : decode cX6_bring 161 = .ok (.iload 24, 2) := by decide +kernel
theorem dX6_bring_163 : decode cX6_bring 163 = .ok (.iload 10, 2) := by decide +kernel
theorem dX6_bring_165 : decode cX6_bring 165 = .ok (.if_icmp .eq 7, 3) := by decide +kernel
theorem dX6_bring_168 : decode cX6_bring 168 = .ok (.iconst 1, 1) := by decide +kernel
theorem dX6_bring_169 : decode cX6_bring 169 = .ok (.goto 32, 3) := by decide +kernel
theorem dX6_bring_172 : decode cX6_bring 172 = .ok (.iconst 0, 1) := by decide +kernel
theorem dX6_bring_173 : decode cX6_bring 173 = .ok (.goto 28, 3) := by decide +kernel
theorem dX6_bring_176 : decode cX6_bring 176 = .ok (.iload 9, 2) := by decide +kernel
theorem dX6_bring_178 : decode cX6_bring 178 = .ok (.iconst 2, 1) := by decide +kernel
theorem dX6_bring_179 : decode cX6_bring 179 = .ok (.if_icmp .ne 17, 3) := by decide +kernel
theorem dX6_bring_182 : decode cX6_bring 182 = .ok (.aload_n 0, 1) := by decide +kernel
theorem dX6_bring_183 : decode cX6_bring 183 = .ok (.iload 10, 2) := by decide +kernel
theorem dX6_bring_185 : decode cX6_bring 185 = .ok (.lload 19, 2) := by decide +kernel
theorem dX6_bring_187 : decode cX6_bring 187 = .ok (.lload 21, 2) := by decide +kernel
theorem dX6_bring_189 : decode cX6_bring 189 = .ok (.invokevirtual 74, 3) := by decide +kernel
theorem dX6_bring_192 : decode cX6_bring 192 = .ok (.iconst 1, 1) := by decide +kernel
theorem dX6_bring_193 : decode cX6_bring 193 = .ok (.if_icmp .ne 7, 3) := by decide +kernel
theorem dX6_bring_196 : decode cX6_bring 196 = .ok (.iconst 1, 1) := by decide +kernel
theorem dX6_bring_197 : decode cX6_bring 197 = .ok (.goto 4, 3) := by decide +kernel
theorem dX6_bring_200 : decode cX6_bring 200 = .ok (.iconst 0, 1) := by decide +kernel
theorem dX6_bring_201 : decode cX6_bring 201 = .ok (.bastore, 1) := by decide +kernel
theorem dX6_bring_202 : decode cX6_bring 202 = .ok (.aload_n 0, 1) := by decide +kernel
theorem dX6_bring_203 : decode cX6_bring 203 = .ok (.getfield 26, 3) := by decide +kernel
theorem dX6_bring_206 : decode cX6_bring 206 = .ok (.iload 23, 2) := by decide +kernel
theorem dX6_bring_208 : decode cX6_bring 208 = .ok (.iload 9, 2) := by decide +kernel
theorem dX6_bring_210 : decode cX6_bring 210 = .ok (.ifCond .ne 21, 3) := by decide +kernel
theorem dX6_bring_213 : decode cX6_bring 213 = .ok (.aload_n 0, 1) := by decide +kernel
theorem dX6_bring_214 : decode cX6_bring 214 = .ok (.iload 6, 2) := by decide +kernel
theorem dX6_bring_216 : decode cX6_bring 216 = .ok (.iload 24, 2) := by decide +kernel
theorem dX6_bring_218 : decode cX6_bring 218 = .ok (.iload 25, 2) := by decide +kernel
theorem dX6_bring_220 : decode cX6_bring 220 = .ok (.iload 10, 2) := by decide +kernel
theorem dX6_bring_222 : decode cX6_bring 222 = .ok (.invokestatic 81, 3) := by decide +kernel
theorem dX6_bring_225 : decode cX6_bring 225 = .ok (.invokevirtual 85, 3) := by decide +kernel
theorem dX6_bring_228 : decode cX6_bring 228 = .ok (.goto 26, 3) := by decide +kernel
theorem dX6_bring_231 : decode cX6_bring 231 = .ok (.iload 9, 2) := by decide +kernel
theorem dX6_bring_233 : decode cX6_bring 233 = .ok (.iconst 3, 1) := by decide +kernel
theorem dX6_bring_234 : decode cX6_bring 234 = .ok (.if_icmp .ne 18, 3) := by decide +kernel
theorem dX6_bring_237 : decode cX6_bring 237 = .ok (.iload 24, 2) := by decide +kernel
theorem dX6_bring_239 : decode cX6_bring 239 = .ok (.ifCond .ne 8, 3) := by decide +kernel
theorem dX6_bring_242 : decode cX6_bring 242 = .ok (.iload 10, 2) := by decide +kernel
theorem dX6_bring_244 : decode cX6_bring 244 = .ok (.goto 10, 3) := by decide +kernel
theorem dX6_bring_247 : decode cX6_bring 247 = .ok (.iload 11, 2) := by decide +kernel
theorem dX6_bring_249 : decode cX6_bring 249 = .ok (.goto 5, 3) := by decide +kernel
theorem dX6_bring_252 : decode cX6_bring 252 = .ok (.iload 24, 2) := by decide +kernel
theorem dX6_bring_254 : decode cX6_bring 254 = .ok (.iastore, 1) := by decide +kernel
theorem dX6_bring_255 : decode cX6_bring 255 = .ok (.iinc 14 1, 3) := by decide +kernel
theorem dX6_bring_258 : decode cX6_bring 258 = .ok (.goto (-217), 3) := by decide +kernel
theorem dX6_bring_261 : decode cX6_bring 261 = .ok (.iinc 13 1, 3) := by decide +kernel
theorem dX6_bring_264 : decode cX6_bring 264 = .ok (.goto (-233), 3) := by decide +kernel
theorem dX6_bring_267 : decode cX6_bring 267 = .ok (.iconst 0, 1) := by decide +kernel
theorem dX6_bring_268 : decode cX6_bring 268 = .ok (.istore 13, 2) := by decide +kernel
theorem dX6_bring_270 : decode cX6_bring 270 = .ok (.iload 13, 2) := by decide +kernel
theorem dX6_bring_272 : decode cX6_bring 272 = .ok (.sipush 4096, 3) := by decide +kernel
theorem dX6_bring_275 : decode cX6_bring 275 = .ok (.if_icmp .ge 57, 3) := by decide +kernel
theorem dX6_bring_278 : decode cX6_bring 278 = .ok (.aload_n 0, 1) := by decide +kernel
theorem dX6_bring_279 : decode cX6_bring 279 = .ok (.getfield 23, 3) := by decide +kernel
theorem dX6_bring_282 : decode cX6_bring 282 = .ok (.sipush 4096, 3) := by decide +kernel
theorem dX6_bring_285 : decode cX6_bring 285 = .ok (.iload 6, 2) := by decide +kernel
theorem dX6_bring_287 : decode cX6_bring 287 = .ok (.imul, 1) := by decide +kernel
theorem dX6_bring_288 : decode cX6_bring 288 = .ok (.iload 13, 2) := by decide +kernel
theorem dX6_bring_290 : decode cX6_bring 290 = .ok (.iadd, 1) := by decide +kernel
theorem dX6_bring_291 : decode cX6_bring 291 = .ok (.aload_n 0, 1) := by decide +kernel
theorem dX6_bring_292 : decode cX6_bring 292 = .ok (.getfield 29, 3) := by decide +kernel
theorem dX6_bring_295 : decode cX6_bring 295 = .ok (.iload 13, 2) := by decide +kernel
theorem dX6_bring_297 : decode cX6_bring 297 = .ok (.baload, 1) := by decide +kernel
theorem dX6_bring_298 : decode cX6_bring 298 = .ok (.ifCond .eq 13, 3) := by decide +kernel
theorem dX6_bring_301 : decode cX6_bring 301 = .ok (.aload_n 0, 1) := by decide +kernel
theorem dX6_bring_302 : decode cX6_bring 302 = .ok (.getfield 26, 3) := by decide +kernel
theorem dX6_bring_305 : decode cX6_bring 305 = .ok (.iload 13, 2) := by decide +kernel
