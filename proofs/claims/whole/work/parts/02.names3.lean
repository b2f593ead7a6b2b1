theorem dX6_digest_95 : decode cX6_digest 95 = .ok (.invokestatic 184, 3) := by decide +kernel
theorem dX6_digest_98 : decode cX6_digest 98 = .ok (.lstore_n 1, 1) := by decide +kernel
theorem dX6_digest_99 : decode cX6_digest 99 = .ok (.lload_n 1, 1) := by decide +kernel
theorem dX6_digest_100 : decode cX6_digest 100 = .ok (.aload_n 0, 1) := by decide +kernel
theorem dX6_digest_101 : decode cX6_digest 101 = .ok (.getfield 48, 3) := by decide +kernel
theorem dX6_digest_104 : decode cX6_digest 104 = .ok (.invokestatic 188, 3) := by decide +kernel
theorem dX6_digest_107 : decode cX6_digest 107 = .ok (.lstore_n 1, 1) := by decide +kernel
theorem dX6_digest_108 : decode cX6_digest 108 = .ok (.lload_n 1, 1) := by decide +kernel
theorem dX6_digest_109 : decode cX6_digest 109 = .ok (.aload_n 0, 1) := by decide +kernel
theorem dX6_digest_110 : decode cX6_digest 110 = .ok (.getfield 19, 3) := by decide +kernel
theorem dX6_digest_113 : decode cX6_digest 113 = .ok (.getfield 165, 3) := by decide +kernel
theorem dX6_digest_116 : decode cX6_digest 116 = .ok (.invokestatic 188, 3) := by decide +kernel
theorem dX6_digest_119 : decode cX6_digest 119 = .ok (.lreturn, 1) := by decide +kernel
set_option maxRecDepth 20000 in
theorem ggX6_mixSounds_X6_mix : GoodIn wsX6_mixSounds wsX6_mix := goodIn_r _ [8, 9] (by decide +kernel) (by decide +kernel)
set_option maxRecDepth 20000 in
theorem gX6_mixSounds_X6_mix : GoodIn wsX6_mixSounds (va_wsS RX6 188 yX6_mix wsX6_mix) := goodIn_app (goodIn_of _ (by decide +kernel)) ggX6_mixSounds_X6_mix
theorem dX6_mixSounds_0 : decode cX6_mixSounds 0 = .ok (.lload_n 1, 1) := by decide +kernel
theorem dX6_mixSounds_1 : decode cX6_mixSounds 1 = .ok (.aload_n 0, 1) := by decide +kernel
theorem dX6_mixSounds_2 : decode cX6_mixSounds 2 = .ok (.getfield 12, 3) := by decide +kernel
theorem dX6_mixSounds_5 : decode cX6_mixSounds 5 = .ok (.getfield 73, 3) := by decide +kernel
theorem dX6_mixSounds_8 : decode cX6_mixSounds 8 = .ok (.invokestatic 188, 3) := by decide +kernel
theorem dX6_mixSounds_11 : decode cX6_mixSounds 11 = .ok (.lstore_n 3, 1) := by decide +kernel
theorem dX6_mixSounds_12 : decode cX6_mixSounds 12 = .ok (.iconst 0, 1) := by decide +kernel
theorem dX6_mixSounds_13 : decode cX6_mixSounds 13 = .ok (.istore 5, 2) := by decide +kernel
theorem dX6_mixSounds_15 : decode cX6_mixSounds 15 = .ok (.iload 5, 2) := by decide +kernel
theorem dX6_mixSounds_17 : decode cX6_mixSounds 17 = .ok (.bipush 8, 2) := by decide +kernel
theorem dX6_mixSounds_19 : decode cX6_mixSounds 19 = .ok (.if_icmp .ge 37, 3) := by decide +kernel
theorem dX6_mixSounds_22 : decode cX6_mixSounds 22 = .ok (.lload_n 3, 1) := by decide +kernel
theorem dX6_mixSounds_23 : decode cX6_mixSounds 23 = .ok (.aload_n 0, 1) := by decide +kernel
theorem dX6_mixSounds_24 : decode cX6_mixSounds 24 = .ok (.getfield 12, 3) := by decide +kernel
theorem dX6_mixSounds_27 : decode cX6_mixSounds 27 = .ok (.getfield 67, 3) := by decide +kernel
theorem dX6_mixSounds_30 : decode cX6_mixSounds 30 = .ok (.iload 5, 2) := by decide +kernel
theorem dX6_mixSounds_32 : decode cX6_mixSounds 32 = .ok (.iaload, 1) := by decide +kernel
theorem dX6_mixSounds_33 : decode cX6_mixSounds 33 = .ok (.invokestatic 188, 3) := by decide +kernel
theorem dX6_mixSounds_36 : decode cX6_mixSounds 36 = .ok (.aload_n 0, 1) := by decide +kernel
theorem dX6_mixSounds_37 : decode cX6_mixSounds 37 = .ok (.getfield 12, 3) := by decide +kernel
theorem dX6_mixSounds_40 : decode cX6_mixSounds 40 = .ok (.getfield 70, 3) := by decide +kernel
theorem dX6_mixSounds_43 : decode cX6_mixSounds 43 = .ok (.iload 5, 2) := by decide +kernel
theorem dX6_mixSounds_45 : decode cX6_mixSounds 45 = .ok (.iaload, 1) := by decide +kernel
theorem dX6_mixSounds_46 : decode cX6_mixSounds 46 = .ok (.invokestatic 188, 3) := by decide +kernel
theorem dX6_mixSounds_49 : decode cX6_mixSounds 49 = .ok (.lstore_n 3, 1) := by decide +kernel
theorem dX6_mixSounds_50 : decode cX6_mixSounds 50 = .ok (.iinc 5 1, 3) := by decide +kernel
theorem dX6_mixSounds_53 : decode cX6_mixSounds 53 = .ok (.goto (-38), 3) := by decide +kernel
theorem dX6_mixSounds_56 : decode cX6_mixSounds 56 = .ok (.lload_n 3, 1) := by decide +kernel
theorem dX6_mixSounds_57 : decode cX6_mixSounds 57 = .ok (.lreturn, 1) := by decide +kernel
set_option maxRecDepth 20000 in
theorem ggX6_mixWords_X6_mix : GoodIn wsX6_mixWords wsX6_mix := goodIn_r _ [12, 13] (by decide +kernel) (by decide +kernel)
set_option maxRecDepth 20000 in
theorem gX6_mixWords_X6_mix : GoodIn wsX6_mixWords (va_wsS RX6 188 yX6_mix wsX6_mix) := goodIn_app (goodIn_of _ (by decide +kernel)) ggX6_mixWords_X6_mix
set_option maxRecDepth 20000 in
theorem ggX6_mixWords_X1_build : GoodIn wsX6_mixWords wsX1_build := goodIn_r _ [18, 19, 20, 21, 22, 23, 24, 25, 26, 17, 27, 28, 29, 30, 31, 32, 33, 34, 35, 36, 37, 38, 39, 40, 41, 42, 43, 44, 45, 46, 47, 48, 49, 50, 51, 52, 53, 54, 55, 11, 56, 57, 58, 59, 60, 61, 62, 63, 64, 65, 66, 67, 68, 69, 70, 71, 72, 73, 93, 94, 95, 96, 97, 98, 99, 85, 86, 87, 88, 89, 90, 91, 92] (by decide +kernel) (by decide +kernel)
set_option maxRecDepth 20000 in
theorem gX6_mixWords_X1_build : GoodIn wsX6_mixWords (wsV RX6 103 RX1 yX1_build wsX1_build) := goodIn_app (goodIn_of _ (by decide +kernel)) ggX6_mixWords_X1_build
set_option maxRecDepth 20000 in
theorem ggX6_mixWords_X6_mixAll : GoodIn wsX6_mixWords wsX6_mixAll := goodIn_r _ [76, 9, 10, 11, 12, 13] (by decide +kernel) (by decide +kernel)
set_option maxRecDepth 20000 in
theorem gX6_mixWords_X6_mixAll : GoodIn wsX6_mixWords (va_wsS RX6 173 yX6_mixAll wsX6_mixAll) := goodIn_app (goodIn_of _ (by decide +kernel)) ggX6_mixWords_X6_mixAll
theorem dX6_mixWords_0 : decode cX6_mixWords 0 = .ok (.lload_n 1, 1) := by decide +kernel
theorem dX6_mixWords_1 : decode cX6_mixWords 1 = .ok (.aload_n 0, 1) := by decide +kernel
theorem dX6_mixWords_2 : decode cX6_mixWords 2 = .ok (.getfield 12, 3) := by decide +kernel
theorem dX6_mixWords_5 : decode cX6_mixWords 5 = .ok (.getfield 80, 3) := by decide +kernel
theorem dX6_mixWords_8 : decode cX6_mixWords 8 = .ok (.invokestatic 188, 3) := by decide +kernel
theorem dX6_mixWords_11 : decode cX6_mixWords 11 = .ok (.lstore_n 3, 1) := by decide +kernel
theorem dX6_mixWords_12 : decode cX6_mixWords 12 = .ok (.iconst 0, 1) := by decide +kernel
theorem dX6_mixWords_13 : decode cX6_mixWords 13 = .ok (.istore 5, 2) := by decide +kernel
theorem dX6_mixWords_15 : decode cX6_mixWords 15 = .ok (.iload 5, 2) := by decide +kernel
theorem dX6_mixWords_17 : decode cX6_mixWords 17 = .ok (.aload_n 0, 1) := by decide +kernel
theorem dX6_mixWords_18 : decode cX6_mixWords 18 = .ok (.getfield 12, 3) := by decide +kernel
theorem dX6_mixWords_21 : decode cX6_mixWords 21 = .ok (.getfield 80, 3) := by decide +kernel
theorem dX6_mixWords_24 : decode cX6_mixWords 24 = .ok (.if_icmp .ge 91, 3) := by decide +kernel
theorem dX6_mixWords_27 : decode cX6_mixWords 27 = .ok (.aload_n 0, 1) := by decide +kernel
theorem dX6_mixWords_28 : decode cX6_mixWords 28 = .ok (.getfield 26, 3) := by decide +kernel
theorem dX6_mixWords_31 : decode cX6_mixWords 31 = .ok (.aload_n 0, 1) := by decide +kernel
theorem dX6_mixWords_32 : decode cX6_mixWords 32 = .ok (.getfield 12, 3) := by decide +kernel
theorem dX6_mixWords_35 : decode cX6_mixWords 35 = .ok (.iload 5, 2) := by decide +kernel
theorem dX6_mixWords_37 : decode cX6_mixWords 37 = .ok (.invokevirtual 103, 3) := by decide +kernel
theorem dX6_mixWords_40 : decode cX6_mixWords 40 = .ok (.lload_n 3, 1) := by decide +kernel
theorem dX6_mixWords_41 : decode cX6_mixWords 41 = .ok (.aload_n 0, 1) := by decide +kernel
theorem dX6_mixWords_42 : decode cX6_mixWords 42 = .ok (.getfield 12, 3) := by decide +kernel
theorem dX6_mixWords_45 : decode cX6_mixWords 45 = .ok (.getfield 97, 3) := by decide +kernel
theorem dX6_mixWords_48 : decode cX6_mixWords 48 = .ok (.iload 5, 2) := by decide +kernel
theorem dX6_mixWords_50 : decode cX6_mixWords 50 = .ok (.iaload, 1) := by decide +kernel
theorem dX6_mixWords_51 : decode cX6_mixWords 51 = .ok (.invokestatic 188, 3) := by decide +kernel
theorem dX6_mixWords_54 : decode cX6_mixWords 54 = .ok (.aload_n 0, 1) := by decide +kernel
theorem dX6_mixWords_55 : decode cX6_mixWords 55 = .ok (.getfield 12, 3) := by decide +kernel
theorem dX6_mixWords_58 : decode cX6_mixWords 58 = .ok (.getfield 125, 3) := by decide +kernel
theorem dX6_mixWords_61 : decode cX6_mixWords 61 = .ok (.iload 5, 2) := by decide +kernel
theorem dX6_mixWords_63 : decode cX6_mixWords 63 = .ok (.iaload, 1) := by decide +kernel
theorem dX6_mixWords_64 : decode cX6_mixWords 64 = .ok (.invokestatic 188, 3) := by decide +kernel
theorem dX6_mixWords_67 : decode cX6_mixWords 67 = .ok (.lstore_n 3, 1) := by decide +kernel
theorem dX6_mixWords_68 : decode cX6_mixWords 68 = .ok (.lload_n 3, 1) := by decide +kernel
theorem dX6_mixWords_69 : decode cX6_mixWords 69 = .ok (.aload_n 0, 1) := by decide +kernel
theorem dX6_mixWords_70 : decode cX6_mixWords 70 = .ok (.getfield 26, 3) := by decide +kernel
theorem dX6_mixWords_73 : decode cX6_mixWords 73 = .ok (.getfield 110, 3) := by decide +kernel
theorem dX6_mixWords_76 : decode cX6_mixWords 76 = .ok (.invokestatic 188, 3) := by decide +kernel
theorem dX6_mixWords_79 : decode cX6_mixWords 79 = .ok (.aload_n 0, 1) := by decide +kernel
theorem dX6_mixWords_80 : decode cX6_mixWords 80 = .ok (.getfield 26, 3) := by decide +kernel
theorem dX6_mixWords_83 : decode cX6_mixWords 83 = .ok (.getfield 192, 3) := by decide +kernel
theorem dX6_mixWords_86 : decode cX6_mixWords 86 = .ok (.invokestatic 188, 3) := by decide +kernel
theorem dX6_mixWords_89 : decode cX6_mixWords 89 = .ok (.lstore_n 3, 1) := by decide +kernel
theorem dX6_mixWords_90 : decode cX6_mixWords 90 = .ok (.lload_n 3, 1) := by decide +kernel
theorem dX6_mixWords_91 : decode cX6_mixWords 91 = .ok (.aload_n 0, 1) := by decide +kernel
theorem dX6_mixWords_92 : decode cX6_mixWords 92 = .ok (.getfield 26, 3) := by decide +kernel
theorem dX6_mixWords_95 : decode cX6_mixWords 95 = .ok (.getfield 107, 3) := by decide +kernel
theorem dX6_mixWords_98 : decode cX6_mixWords 98 = .ok (.aload_n 0, 1) := by decide +kernel
theorem dX6_mixWords_99 : decode cX6_mixWords 99 = .ok (.getfield 26, 3) := by decide +kernel
theorem dX6_mixWords_102 : decode cX6_mixWords 102 = .ok (.getfield 192, 3) := by decide +kernel
theorem dX6_mixWords_105 : decode cX6_mixWords 105 = .ok (.invokestatic 173, 3) := by decide +kernel
theorem dX6_mixWords_108 : decode cX6_mixWords 108 = .ok (.lstore_n 3, 1) := by decide +kernel
theorem dX6_mixWords_109 : decode cX6_mixWords 109 = .ok (.iinc 5 1, 3) := by decide +kernel
theorem dX6_mixWords_112 : decode cX6_mixWords 112 = .ok (.goto (-97), 3) := by decide +kernel
theorem dX6_mixWords_115 : decode cX6_mixWords 115 = .ok (.lload_n 3, 1) := by decide +kernel
theorem dX6_mixWords_116 : decode cX6_mixWords 116 = .ok (.lreturn, 1) := by decide +kernel
set_option maxRecDepth 20000 in
theorem ggX6_mixRanking_X6_mix : GoodIn wsX6_mixRanking wsX6_mix := goodIn_r _ [7, 8] (by decide +kernel) (by decide +kernel)
set_option maxRecDepth 20000 in
theorem gX6_mixRanking_X6_mix : GoodIn wsX6_mixRanking (va_wsS RX6 188 yX6_mix wsX6_mix) := goodIn_app (goodIn_of _ (by decide +kernel)) ggX6_mixRanking_X6_mix
theorem dX6_mixRanking_0 : decode cX6_mixRanking 0 = .ok (.lload_n 0, 1) := by decide +kernel
theorem dX6_mixRanking_1 : decode cX6_mixRanking 1 = .ok (.aload_n 2, 1) := by decide +kernel
theorem dX6_mixRanking_2 : decode cX6_mixRanking 2 = .ok (.getfield 146, 3) := by decide +kernel
theorem dX6_mixRanking_5 : decode cX6_mixRanking 5 = .ok (.invokestatic 188, 3) := by decide +kernel
theorem dX6_mixRanking_8 : decode cX6_mixRanking 8 = .ok (.lstore_n 3, 1) := by decide +kernel
theorem dX6_mixRanking_9 : decode cX6_mixRanking 9 = .ok (.iconst 0, 1) := by decide +kernel
theorem dX6_mixRanking_10 : decode cX6_mixRanking 10 = .ok (.istore 5, 2) := by decide +kernel
theorem dX6_mixRanking_12 : decode cX6_mixRanking 12 = .ok (.iload 5, 2) := by decide +kernel
theorem dX6_mixRanking_14 : decode cX6_mixRanking 14 = .ok (.aload_n 2, 1) := by decide +kernel
theorem dX6_mixRanking_15 : decode cX6_mixRanking 15 = .ok (.getfield 146, 3) := by decide +kernel
theorem dX6_mixRanking_18 : decode cX6_mixRanking 18 = .ok (.if_icmp .ge 31, 3) := by decide +kernel
theorem dX6_mixRanking_21 : decode cX6_mixRanking 21 = .ok (.lload_n 3, 1) := by decide +kernel
theorem dX6_mixRanking_22 : decode cX6_mixRanking 22 = .ok (.aload_n 2, 1) := by decide +kernel
theorem dX6_mixRanking_23 : decode cX6_mixRanking 23 = .ok (.getfield 149, 3) := by decide +kernel
theorem dX6_mixRanking_26 : decode cX6_mixRanking 26 = .ok (.iload 5, 2) := by decide +kernel
theorem dX6_mixRanking_28 : decode cX6_mixRanking 28 = .ok (.iaload, 1) := by decide +kernel
theorem dX6_mixRanking_29 : decode cX6_mixRanking 29 = .ok (.invokestatic 188, 3) := by decide +kernel
theorem dX6_mixRanking_32 : decode cX6_mixRanking 32 = .ok (.aload_n 2, 1) := by decide +kernel
theorem dX6_mixRanking_33 : decode cX6_mixRanking 33 = .ok (.getfield 152, 3) := by decide +kernel
theorem dX6_mixRanking_36 : decode cX6_mixRanking 36 = .ok (.iload 5, 2) := by decide +kernel
theorem dX6_mixRanking_38 : decode cX6_mixRanking 38 = .ok (.iaload, 1) := by decide +kernel
theorem dX6_mixRanking_39 : decode cX6_mixRanking 39 = .ok (.invokestatic 188, 3) := by decide +kernel
theorem dX6_mixRanking_42 : decode cX6_mixRanking 42 = .ok (.lstore_n 3, 1) := by decide +kernel
theorem dX6_mixRanking_43 : decode cX6_mixRanking 43 = .ok (.iinc 5 1, 3) := by decide +kernel
theorem dX6_mixRanking_46 : decode cX6_mixRanking 46 = .ok (.goto (-34), 3) := by decide +kernel
theorem dX6_mixRanking_49 : decode cX6_mixRanking 49 = .ok (.lload_n 3, 1) := by decide +kernel
theorem dX6_mixRanking_50 : decode cX6_mixRanking 50 = .ok (.lreturn, 1) := by decide +kernel
set_option maxRecDepth 20000 in
theorem ggX6_mixAll_X6_mix : GoodIn wsX6_mixAll wsX6_mix := goodIn_r _ [4, 5] (by decide +kernel) (by decide +kernel)
set_option maxRecDepth 20000 in
theorem gX6_mixAll_X6_mix : GoodIn wsX6_mixAll (va_wsS RX6 188 yX6_mix wsX6_mix) := goodIn_app (goodIn_of _ (by decide +kernel)) ggX6_mixAll_X6_mix
theorem dX6_mixAll_0 : decode cX6_mixAll 0 = .ok (.lload_n 0, 1) := by decide +kernel
theorem dX6_mixAll_1 : decode cX6_mixAll 1 = .ok (.lstore 4, 2) := by decide +kernel
theorem dX6_mixAll_3 : decode cX6_mixAll 3 = .ok (.iconst 0, 1) := by decide +kernel
theorem dX6_mixAll_4 : decode cX6_mixAll 4 = .ok (.istore 6, 2) := by decide +kernel
theorem dX6_mixAll_6 : decode cX6_mixAll 6 = .ok (.iload 6, 2) := by decide +kernel
theorem dX6_mixAll_8 : decode cX6_mixAll 8 = .ok (.iload_n 3, 1) := by decide +kernel
theorem dX6_mixAll_9 : decode cX6_mixAll 9 = .ok (.if_icmp .ge 27, 3) := by decide +kernel
theorem dX6_mixAll_12 : decode cX6_mixAll 12 = .ok (.iload 6, 2) := by decide +kernel
theorem dX6_mixAll_14 : decode cX6_mixAll 14 = .ok (.aload_n 2, 1) := by decide +kernel
theorem dX6_mixAll_15 : decode cX6_mixAll 15 = .ok (.arraylength, 1) := by decide +kernel
theorem dX6_mixAll_16 : decode cX6_mixAll 16 = .ok (.if_icmp .ge 20, 3) := by decide +kernel
theorem dX6_mixAll_19 : decode cX6_mixAll 19 = .ok (.lload 4, 2) := by decide +kernel
theorem dX6_mixAll_21 : decode cX6_mixAll 21 = .ok (.aload_n 2, 1) := by decide +kernel
theorem dX6_mixAll_22 : decode cX6_mixAll 22 = .ok (.iload 6, 2) := by decide +kernel
theorem dX6_mixAll_24 : decode cX6_mixAll 24 = .ok (.iaload, 1) := by decide +kernel
theorem dX6_mixAll_25 : decode cX6_mixAll 25 = .ok (.invokestatic 188, 3) := by decide +kernel
theorem dX6_mixAll_28 : decode cX6_mixAll 28 = .ok (.lstore 4, 2) := by decide +kernel
theorem dX6_mixAll_30 : decode cX6_mixAll 30 = .ok (.iinc 6 1, 3) := by decide +kernel
theorem dX6_mixAll_33 : decode cX6_mixAll 33 = .ok (.goto (-27), 3) := by decide +kernel
theorem dX6_mixAll_36 : decode cX6_mixAll 36 = .ok (.lload 4, 2) := by decide +kernel
theorem dX6_mixAll_38 : decode cX6_mixAll 38 = .ok (.lreturn, 1) := by decide +kernel
theorem dX6_mix_0 : decode cX6_mix 0 = .ok (.ldc2_w 193, 3) := by decide +kernel
theorem dX6_mix_3 : decode cX6_mix 3 = .ok (.lload_n 0, 1) := by decide +kernel
theorem dX6_mix_4 : decode cX6_mix 4 = .ok (.lmul, 1) := by decide +kernel
theorem dX6_mix_5 : decode cX6_mix 5 = .ok (.iload_n 2, 1) := by decide +kernel
theorem dX6_mix_6 : decode cX6_mix 6 = .ok (.i2l, 1) := by decide +kernel
theorem dX6_mix_7 : decode cX6_mix 7 = .ok (.ladd, 1) := by decide +kernel
theorem dX6_mix_8 : decode cX6_mix 8 = .ok (.lreturn, 1) := by decide +kernel
theorem dX6_fail_0 : decode cX6_fail 0 = .ok (.bipush (-2), 2) := by decide +kernel
theorem dX6_fail_2 : decode cX6_fail 2 = .ok (.iload_n 1, 1) := by decide +kernel
theorem dX6_fail_3 : decode cX6_fail 3 = .ok (.isub, 1) := by decide +kernel
theorem dX6_fail_4 : decode cX6_fail 4 = .ok (.istore_n 2, 1) := by decide +kernel
theorem dX6_fail_5 : decode cX6_fail 5 = .ok (.iload_n 2, 1) := by decide +kernel
theorem dX6_fail_6 : decode cX6_fail 6 = .ok (.ifCond .lt 18, 3) := by decide +kernel
theorem dX6_fail_9 : decode cX6_fail 9 = .ok (.iload_n 2, 1) := by decide +kernel
theorem dX6_fail_10 : decode cX6_fail 10 = .ok (.iconst 4, 1) := by decide +kernel
theorem dX6_fail_11 : decode cX6_fail 11 = .ok (.if_icmp .ge 13, 3) := by decide +kernel
theorem dX6_fail_14 : decode cX6_fail 14 = .ok (.aload_n 0, 1) := by decide +kernel
theorem dX6_fail_15 : decode cX6_fail 15 = .ok (.getfield 52, 3) := by decide +kernel
theorem dX6_fail_18 : decode cX6_fail 18 = .ok (.iload_n 2, 1) := by decide +kernel
theorem dX6_fail_19 : decode cX6_fail 19 = .ok (.dup2, 1) := by decide +kernel
theorem dX6_fail_20 : decode cX6_fail 20 = .ok (.iaload, 1) := by decide +kernel
theorem dX6_fail_21 : decode cX6_fail 21 = .ok (.iconst 1, 1) := by decide +kernel
theorem dX6_fail_22 : decode cX6_fail 22 = .ok (.iadd, 1) := by decide +kernel
theorem dX6_fail_23 : decode cX6_fail 23 = .ok (.iastore, 1) := by decide +kernel
theorem dX6_fail_24 : decode cX6_fail 24 = .ok (.iload_n 1, 1) := by decide +kernel
theorem dX6_fail_25 : decode cX6_fail 25 = .ok (.ireturn, 1) := by decide +kernel
theorem dX6_textIsWord_0 : decode cX6_textIsWord 0 = .ok (.iconst 0, 1) := by decide +kernel
theorem dX6_textIsWord_1 : decode cX6_textIsWord 1 = .ok (.istore_n 1, 1) := by decide +kernel
theorem dX6_textIsWord_2 : decode cX6_textIsWord 2 = .ok (.iload_n 1, 1) := by decide +kernel
theorem dX6_textIsWord_3 : decode cX6_textIsWord 3 = .ok (.aload_n 0, 1) := by decide +kernel
theorem dX6_textIsWord_4 : decode cX6_textIsWord 4 = .ok (.getfield 48, 3) := by decide +kernel
theorem dX6_textIsWord_7 : decode cX6_textIsWord 7 = .ok (.if_icmp .ge 33, 3) := by decide +kernel
theorem dX6_textIsWord_10 : decode cX6_textIsWord 10 = .ok (.aload_n 0, 1) := by decide +kernel
theorem dX6_textIsWord_11 : decode cX6_textIsWord 11 = .ok (.getfield 44, 3) := by decide +kernel
theorem dX6_textIsWord_14 : decode cX6_textIsWord 14 = .ok (.iload_n 1, 1) := by decide +kernel
theorem dX6_textIsWord_15 : decode cX6_textIsWord 15 = .ok (.iaload, 1) := by decide +kernel
theorem dX6_textIsWord_16 : decode cX6_textIsWord 16 = .ok (.bipush 97, 2) := by decide +kernel
theorem dX6_textIsWord_18 : decode cX6_textIsWord 18 = .ok (.if_icmp .lt 14, 3) := by decide +kernel
theorem dX6_textIsWord_21 : decode cX6_textIsWord 21 = .ok (.aload_n 0, 1) := by decide +kernel
theorem dX6_textIsWord_22 : decode cX6_textIsWord 22 = .ok (.getfield 44, 3) := by decide +kernel
theorem dX6_textIsWord_25 : decode cX6_textIsWord 25 = .ok (.iload_n 1, 1) := by decide +kernel
theorem dX6_textIsWord_26 : decode cX6_textIsWord 26 = .ok (.iaload, 1) := by decide +kernel
theorem dX6_textIsWord_27 : decode cX6_textIsWord 27 = .ok (.bipush 104, 2) := by decide +kernel
theorem dX6_textIsWord_29 : decode cX6_textIsWord 29 = .ok (.if_icmp .le 5, 3) := by decide +kernel
theorem dX6_textIsWord_32 : decode cX6_textIsWord 32 = .ok (.iconst 0, 1) := by decide +kernel
theorem dX6_textIsWord_33 : decode cX6_textIsWord 33 = .ok (.ireturn, 1) := by decide +kernel
theorem dX6_textIsWord_34 : decode cX6_textIsWord 34 = .ok (.iinc 1 1, 3) := by decide +kernel
theorem dX6_textIsWord_37 : decode cX6_textIsWord 37 = .ok (.goto (-35), 3) := by decide +kernel
theorem dX6_textIsWord_40 : decode cX6_textIsWord 40 = .ok (.aload_n 0, 1) := by decide +kernel
theorem dX6_textIsWord_41 : decode cX6_textIsWord 41 = .ok (.getfield 48, 3) := by decide +kernel
theorem dX6_textIsWord_44 : decode cX6_textIsWord 44 = .ok (.ifCond .le 7, 3) := by decide +kernel
theorem dX6_textIsWord_47 : decode cX6_textIsWord 47 = .ok (.iconst 1, 1) := by decide +kernel
theorem dX6_textIsWord_48 : decode cX6_textIsWord 48 = .ok (.goto 4, 3) := by decide +kernel
theorem dX6_textIsWord_51 : decode cX6_textIsWord 51 = .ok (.iconst 0, 1) := by decide +kernel
theorem dX6_textIsWord_52 : decode cX6_textIsWord 52 = .ok (.ireturn, 1) := by decide +kernel
theorem dX6_isStroke_0 : decode cX6_isStroke 0 = .ok (.iload_n 0, 1) := by decide +kernel
theorem dX6_isStroke_1 : decode cX6_isStroke 1 = .ok (.ifCond .lt 13, 3) := by decide +kernel
theorem dX6_isStroke_4 : decode cX6_isStroke 4 = .ok (.iload_n 0, 1) := by decide +kernel
theorem dX6_isStroke_5 : decode cX6_isStroke 5 = .ok (.bipush 24, 2) := by decide +kernel
theorem dX6_isStroke_7 : decode cX6_isStroke 7 = .ok (.if_icmp .ge 7, 3) := by decide +kernel
theorem dX6_isStroke_10 : decode cX6_isStroke 10 = .ok (.iconst 1, 1) := by decide +kernel
theorem dX6_isStroke_11 : decode cX6_isStroke 11 = .ok (.goto 4, 3) := by decide +kernel
theorem dX6_isStroke_14 : decode cX6_isStroke 14 = .ok (.iconst 0, 1) := by decide +kernel
theorem dX6_isStroke_15 : decode cX6_isStroke 15 = .ok (.ireturn, 1) := by decide +kernel
theorem dX6_turn_0 : decode cX6_turn 0 = .ok (.iload_n 0, 1) := by decide +kernel
theorem dX6_turn_1 : decode cX6_turn 1 = .ok (.iconst 3, 1) := by decide +kernel
theorem dX6_turn_2 : decode cX6_turn 2 = .ok (.idiv, 1) := by decide +kernel
theorem dX6_turn_3 : decode cX6_turn 3 = .ok (.iload_n 1, 1) := by decide +kernel
theorem dX6_turn_4 : decode cX6_turn 4 = .ok (.iconst 3, 1) := by decide +kernel
theorem dX6_turn_5 : decode cX6_turn 5 = .ok (.idiv, 1) := by decide +kernel
theorem dX6_turn_6 : decode cX6_turn 6 = .ok (.isub, 1) := by decide +kernel
theorem dX6_turn_7 : decode cX6_turn 7 = .ok (.invokestatic 195, 3) := by decide +kernel
theorem dX6_turn_10 : decode cX6_turn 10 = .ok (.istore_n 2, 1) := by decide +kernel
theorem dX6_turn_11 : decode cX6_turn 11 = .ok (.iload_n 2, 1) := by decide +kernel
theorem dX6_turn_12 : decode cX6_turn 12 = .ok (.bipush 8, 2) := by decide +kernel
theorem dX6_turn_14 : decode cX6_turn 14 = .ok (.iload_n 2, 1) := by decide +kernel
theorem dX6_turn_15 : decode cX6_turn 15 = .ok (.isub, 1) := by decide +kernel
theorem dX6_turn_16 : decode cX6_turn 16 = .ok (.invokestatic 200, 3) := by decide +kernel
theorem dX6_turn_19 : decode cX6_turn 19 = .ok (.ireturn, 1) := by decide +kernel
set_option maxRecDepth 20000 in
theorem ggX6_join_X6_turn : GoodIn wsX6_join wsX6_turn := goodIn_r _ [4, 5, 6, 7, 8, 9, 10, 11] (by decide +kernel) (by decide +kernel)
set_option maxRecDepth 20000 in
theorem gX6_join_X6_turn : GoodIn wsX6_join (va_wsS RX6 203 yX6_turn wsX6_turn) := goodIn_app (goodIn_of _ (by decide +kernel)) ggX6_join_X6_turn
theorem dX6_join_0 : decode cX6_join 0 = .ok (.iload_n 0, 1) := by decide +kernel
theorem dX6_join_1 : decode cX6_join 1 = .ok (.iload_n 1, 1) := by decide +kernel
theorem dX6_join_2 : decode cX6_join 2 = .ok (.if_icmp .ne 7, 3) := by decide +kernel
theorem dX6_join_5 : decode cX6_join 5 = .ok (.iconst 3, 1) := by decide +kernel
theorem dX6_join_6 : decode cX6_join 6 = .ok (.goto 8, 3) := by decide +kernel
theorem dX6_join_9 : decode cX6_join 9 = .ok (.iload_n 0, 1) := by decide +kernel
theorem dX6_join_10 : decode cX6_join 10 = .ok (.iload_n 1, 1) := by decide +kernel
theorem dX6_join_11 : decode cX6_join 11 = .ok (.invokestatic 203, 3) := by decide +kernel
theorem dX6_join_14 : decode cX6_join 14 = .ok (.ireturn, 1) := by decide +kernel
set_option maxRecDepth 20000 in
theorem ggX6_difference_X6_turn : GoodIn wsX6_difference wsX6_turn := goodIn_r _ [8, 1, 2, 3, 4, 9, 10, 11] (by decide +kernel) (by decide +kernel)
set_option maxRecDepth 20000 in
theorem gX6_difference_X6_turn : GoodIn wsX6_difference (va_wsS RX6 203 yX6_turn wsX6_turn) := goodIn_app (goodIn_of _ (by decide +kernel)) ggX6_difference_X6_turn
theorem dX6_difference_0 : decode cX6_difference 0 = .ok (.iload_n 0, 1) := by decide +kernel
theorem dX6_difference_1 : decode cX6_difference 1 = .ok (.iload_n 1, 1) := by decide +kernel
theorem dX6_difference_2 : decode cX6_difference 2 = .ok (.invokestatic 203, 3) := by decide +kernel
theorem dX6_difference_5 : decode cX6_difference 5 = .ok (.iload_n 0, 1) := by decide +kernel
theorem dX6_difference_6 : decode cX6_difference 6 = .ok (.iconst 3, 1) := by decide +kernel
theorem dX6_difference_7 : decode cX6_difference 7 = .ok (.irem, 1) := by decide +kernel
theorem dX6_difference_8 : decode cX6_difference 8 = .ok (.iload_n 1, 1) := by decide +kernel
theorem dX6_difference_9 : decode cX6_difference 9 = .ok (.iconst 3, 1) := by decide +kernel
theorem dX6_difference_10 : decode cX6_difference 10 = .ok (.irem, 1) := by decide +kernel
theorem dX6_difference_11 : decode cX6_difference 11 = .ok (.isub, 1) := by decide +kernel
theorem dX6_difference_12 : decode cX6_difference 12 = .ok (.invokestatic 195, 3) := by decide +kernel
theorem dX6_difference_15 : decode cX6_difference 15 = .ok (.iadd, 1) := by decide +kernel
theorem dX6_difference_16 : decode cX6_difference 16 = .ok (.ireturn, 1) := by decide +kernel
theorem dX7_init_0 : decode cX7_init 0 = .ok (.aload_n 0, 1) := by decide +kernel
theorem dX7_init_1 : decode cX7_init 1 = .ok (.invokespecial 1, 3) := by decide +kernel
theorem dX7_init_4 : decode cX7_init 4 = .ok (.aload_n 0, 1) := by decide +kernel
theorem dX7_init_5 : decode cX7_init 5 = .ok (.sipush 150, 3) := by decide +kernel
theorem dX7_init_8 : decode cX7_init 8 = .ok (.newarray .int, 2) := by decide +kernel
theorem dX7_init_10 : decode cX7_init 10 = .ok (.putfield 7, 3) := by decide +kernel
theorem dX7_init_13 : decode cX7_init 13 = .ok (.aload_n 0, 1) := by decide +kernel
theorem dX7_init_14 : decode cX7_init 14 = .ok (.sipush 750, 3) := by decide +kernel
theorem dX7_init_17 : decode cX7_init 17 = .ok (.newarray .int, 2) := by decide +kernel
theorem dX7_init_19 : decode cX7_init 19 = .ok (.putfield 13, 3) := by decide +kernel
theorem dX7_init_22 : decode cX7_init 22 = .ok (.aload_n 0, 1) := by decide +kernel
theorem dX7_init_23 : decode cX7_init 23 = .ok (.iconst 4, 1) := by decide +kernel
theorem dX7_init_24 : decode cX7_init 24 = .ok (.newarray .int, 2) := by decide +kernel
theorem dX7_init_26 : decode cX7_init 26 = .ok (.putfield 16, 3) := by decide +kernel
theorem dX7_init_29 : decode cX7_init 29 = .ok (.aload_n 0, 1) := by decide +kernel
theorem dX7_init_30 : decode cX7_init 30 = .ok (.bipush 8, 2) := by decide +kernel
theorem dX7_init_32 : decode cX7_init 32 = .ok (.newarray .int, 2) := by decide +kernel
theorem dX7_init_34 : decode cX7_init 34 = .ok (.putfield 19, 3) := by decide +kernel
theorem dX7_init_37 : decode cX7_init 37 = .ok (.aload_n 0, 1) := by decide +kernel
theorem dX7_init_38 : decode cX7_init 38 = .ok (.bipush 8, 2) := by decide +kernel
theorem dX7_init_40 : decode cX7_init 40 = .ok (.newarray .int, 2) := by decide +kernel
theorem dX7_init_42 : decode cX7_init 42 = .ok (.putfield 22, 3) := by decide +kernel
theorem dX7_init_45 : decode cX7_init 45 = .ok (.aload_n 0, 1) := by decide +kernel
theorem dX7_init_46 : decode cX7_init 46 = .ok (.bipush 8, 2) := by decide +kernel
theorem dX7_init_48 : decode cX7_init 48 = .ok (.newarray .int, 2) := by decide +kernel
theorem dX7_init_50 : decode cX7_init 50 = .ok (.putfield 25, 3) := by decide +kernel
theorem dX7_init_53 : decode cX7_init 53 = .ok (.aload_n 0, 1) := by decide +kernel
theorem dX7_init_54 : decode cX7_init 54 = .ok (.bipush 12, 2) := by decide +kernel
theorem dX7_init_56 : decode cX7_init 56 = .ok (.newarray .int, 2) := by decide +kernel
theorem dX7_init_58 : decode cX7_init 58 = .ok (.putfield 28, 3) := by decide +kernel
theorem dX7_init_61 : decode cX7_init 61 = .ok (.aload_n 0, 1) := by decide +kernel
theorem dX7_init_62 : decode cX7_init 62 = .ok (.bipush 12, 2) := by decide +kernel
theorem dX7_init_64 : decode cX7_init 64 = .ok (.newarray .int, 2) := by decide +kernel
theorem dX7_init_66 : decode cX7_init 66 = .ok (.putfield 31, 3) := by decide +kernel
theorem dX7_init_69 : decode cX7_init 69 = .ok (.aload_n 0, 1) := by decide +kernel
theorem dX7_init_70 : decode cX7_init 70 = .ok (.bipush 12, 2) := by decide +kernel
theorem dX7_init_72 : decode cX7_init 72 = .ok (.newarray .int, 2) := by decide +kernel
theorem dX7_init_74 : decode cX7_init 74 = .ok (.putfield 34, 3) := by decide +kernel
theorem dX7_init_77 : decode cX7_init 77 = .ok (.aload_n 0, 1) := by decide +kernel
theorem dX7_init_78 : decode cX7_init 78 = .ok (.getfield 7, 3) := by decide +kernel
theorem dX7_init_81 : decode cX7_init 81 = .ok (.iconst 0, 1) := by decide +kernel
theorem dX7_init_82 : decode cX7_init 82 = .ok (.bipush 17, 2) := by decide +kernel
theorem dX7_init_84 : decode cX7_init 84 = .ok (.iastore, 1) := by decide +kernel
theorem dX7_init_85 : decode cX7_init 85 = .ok (.iconst 0, 1) := by decide +kernel
theorem dX7_init_86 : decode cX7_init 86 = .ok (.istore_n 1, 1) := by decide +kernel
theorem dX7_init_87 : decode cX7_init 87 = .ok (.iload_n 1, 1) := by decide +kernel
theorem dX7_init_88 : decode cX7_init 88 = .ok (.bipush 8, 2) := by decide +kernel
theorem dX7_init_90 : decode cX7_init 90 = .ok (.if_icmp .ge 30, 3) := by decide +kernel
theorem dX7_init_93 : decode cX7_init 93 = .ok (.aload_n 0, 1) := by decide +kernel
theorem dX7_init_94 : decode cX7_init 94 = .ok (.getfield 7, 3) := by decide +kernel
theorem dX7_init_97 : decode cX7_init 97 = .ok (.iconst 1, 1) := by decide +kernel
theorem dX7_init_98 : decode cX7_init 98 = .ok (.iload_n 1, 1) := by decide +kernel
theorem dX7_init_99 : decode cX7_init 99 = .ok (.iadd, 1) := by decide +kernel
theorem dX7_init_100 : decode cX7_init 100 = .ok (.iconst 3, 1) := by decide +kernel
theorem dX7_init_101 : decode cX7_init 101 = .ok (.iload_n 1, 1) := by decide +kernel
theorem dX7_init_102 : decode cX7_init 102 = .ok (.imul, 1) := by decide +kernel
theorem dX7_init_103 : decode cX7_init 103 = .ok (.iastore, 1) := by decide +kernel
theorem dX7_init_104 : decode cX7_init 104 = .ok (.aload_n 0, 1) := by decide +kernel
theorem dX7_init_105 : decode cX7_init 105 = .ok (.getfield 7, 3) := by decide +kernel
theorem dX7_init_108 : decode cX7_init 108 = .ok (.bipush 9, 2) := by decide +kernel
theorem dX7_init_110 : decode cX7_init 110 = .ok (.iload_n 1, 1) := by decide +kernel
theorem dX7_init_111 : decode cX7_init 111 = .ok (.iadd, 1) := by decide +kernel
theorem dX7_init_112 : decode cX7_init 112 = .ok (.iconst (-1), 1) := by decide +kernel
theorem dX7_init_113 : decode cX7_init 113 = .ok (.iastore, 1) := by decide +kernel
theorem dX7_init_114 : decode cX7_init 114 = .ok (.iinc 1 1, 3) := by decide +kernel
theorem dX7_init_117 : decode cX7_init 117 = .ok (.goto (-30), 3) := by decide +kernel
theorem dX7_init_120 : decode cX7_init 120 = .ok (.return_, 1) := by decide +kernel
theorem dX7_within_0 : decode cX7_within 0 = .ok (.iload_n 0, 1) := by decide +kernel
theorem dX7_within_1 : decode cX7_within 1 = .ok (.iload_n 1, 1) := by decide +kernel
theorem dX7_within_2 : decode cX7_within 2 = .ok (.if_icmp .lt 12, 3) := by decide +kernel
theorem dX7_within_5 : decode cX7_within 5 = .ok (.iload_n 0, 1) := by decide +kernel
theorem dX7_within_6 : decode cX7_within 6 = .ok (.iload_n 2, 1) := by decide +kernel
theorem dX7_within_7 : decode cX7_within 7 = .ok (.if_icmp .gt 7, 3) := by decide +kernel
theorem dX7_within_10 : decode cX7_within 10 = .ok (.iconst 1, 1) := by decide +kernel
theorem dX7_within_11 : decode cX7_within 11 = .ok (.goto 4, 3) := by decide +kernel
theorem dX7_within_14 : decode cX7_within 14 = .ok (.iconst 0, 1) := by decide +kernel
theorem dX7_within_15 : decode cX7_within 15 = .ok (.ireturn, 1) := by decide +kernel
theorem dX7_fails_0 : decode cX7_fails 0 = .ok (.aload_n 0, 1) := by decide +kernel
theorem dX7_fails_1 : decode cX7_fails 1 = .ok (.getfield 16, 3) := by decide +kernel
theorem dX7_fails_4 : decode cX7_fails 4 = .ok (.bipush (-2), 2) := by decide +kernel
theorem dX7_fails_6 : decode cX7_fails 6 = .ok (.iload_n 1, 1) := by decide +kernel
theorem dX7_fails_7 : decode cX7_fails 7 = .ok (.isub, 1) := by decide +kernel
theorem dX7_fails_8 : decode cX7_fails 8 = .ok (.dup2, 1) := by decide +kernel
theorem dX7_fails_9 : decode cX7_fails 9 = .ok (.iaload, 1) := by decide +kernel
theorem dX7_fails_10 : decode cX7_fails 10 = .ok (.iconst 1, 1) := by decide +kernel
theorem dX7_fails_11 : decode cX7_fails 11 = .ok (.iadd, 1) := by decide +kernel
theorem dX7_fails_12 : decode cX7_fails 12 = .ok (.iastore, 1) := by decide +kernel
theorem dX7_fails_13 : decode cX7_fails 13 = .ok (.iload_n 1, 1) := by decide +kernel
theorem dX7_fails_14 : decode cX7_fails 14 = .ok (.ireturn, 1) := by decide +kernel
set_option maxRecDepth 20000 in
theorem ggX7_isCode_X7_within : GoodIn wsX7_isCode wsX7_within := goodIn_r _ [4] (by decide +kernel) (by decide +kernel)
set_option maxRecDepth 20000 in
theorem gX7_isCode_X7_within : GoodIn wsX7_isCode (va_wsS RX7 37 yX7_within wsX7_within) := goodIn_app (goodIn_of _ (by decide +kernel)) ggX7_isCode_X7_within
theorem dX7_isCode_0 : decode cX7_isCode 0 = .ok (.iload_n 0, 1) := by decide +kernel
theorem dX7_isCode_1 : decode cX7_isCode 1 = .ok (.iconst 0, 1) := by decide +kernel
theorem dX7_isCode_2 : decode cX7_isCode 2 = .ok (.bipush 23, 2) := by decide +kernel
theorem dX7_isCode_4 : decode cX7_isCode 4 = .ok (.invokestatic 37, 3) := by decide +kernel
theorem dX7_isCode_7 : decode cX7_isCode 7 = .ok (.ireturn, 1) := by decide +kernel
set_option maxRecDepth 20000 in
theorem ggX7_isWord_X7_within : GoodIn wsX7_isWord wsX7_within := goodIn_r _ [5] (by decide +kernel) (by decide +kernel)
set_option maxRecDepth 20000 in
theorem gX7_isWord_X7_within : GoodIn wsX7_isWord (va_wsS RX7 37 yX7_within wsX7_within) := goodIn_app (goodIn_of _ (by decide +kernel)) ggX7_isWord_X7_within
theorem dX7_isWord_0 : decode cX7_isWord 0 = .ok (.iload_n 1, 1) := by decide +kernel
theorem dX7_isWord_1 : decode cX7_isWord 1 = .ok (.iconst 0, 1) := by decide +kernel
theorem dX7_isWord_2 : decode cX7_isWord 2 = .ok (.aload_n 0, 1) := by decide +kernel
theorem dX7_isWord_3 : decode cX7_isWord 3 = .ok (.getfield 7, 3) := by decide +kernel
theorem dX7_isWord_6 : decode cX7_isWord 6 = .ok (.bipush 17, 2) := by decide +kernel
theorem dX7_isWord_8 : decode cX7_isWord 8 = .ok (.iaload, 1) := by decide +kernel
theorem dX7_isWord_9 : decode cX7_isWord 9 = .ok (.iconst 1, 1) := by decide +kernel
theorem dX7_isWord_10 : decode cX7_isWord 10 = .ok (.isub, 1) := by decide +kernel
theorem dX7_isWord_11 : decode cX7_isWord 11 = .ok (.invokestatic 37, 3) := by decide +kernel
theorem dX7_isWord_14 : decode cX7_isWord 14 = .ok (.ireturn, 1) := by decide +kernel
theorem dX7_saves_0 : decode cX7_saves 0 = .ok (.aload_n 0, 1) := by decide +kernel
theorem dX7_saves_1 : decode cX7_saves 1 = .ok (.getfield 41, 3) := by decide +kernel
theorem dX7_saves_4 : decode cX7_saves 4 = .ok (.iconst 5, 1) := by decide +kernel
theorem dX7_saves_5 : decode cX7_saves 5 = .ok (.if_icmp .ne 44, 3) := by decide +kernel
theorem dX7_saves_8 : decode cX7_saves 8 = .ok (.iconst 0, 1) := by decide +kernel
theorem dX7_saves_9 : decode cX7_saves 9 = .ok (.istore_n 1, 1) := by decide +kernel
theorem dX7_saves_10 : decode cX7_saves 10 = .ok (.iload_n 1, 1) := by decide +kernel
theorem dX7_saves_11 : decode cX7_saves 11 = .ok (.sipush 600, 3) := by decide +kernel
theorem dX7_saves_14 : decode cX7_saves 14 = .ok (.if_icmp .ge 25, 3) := by decide +kernel
theorem dX7_saves_17 : decode cX7_saves 17 = .ok (.aload_n 0, 1) := by decide +kernel
theorem dX7_saves_18 : decode cX7_saves 18 = .ok (.getfield 13, 3) := by decide +kernel
theorem dX7_saves_21 : decode cX7_saves 21 = .ok (.iload_n 1, 1) := by decide +kernel
theorem dX7_saves_22 : decode cX7_saves 22 = .ok (.aload_n 0, 1) := by decide +kernel
theorem dX7_saves_23 : decode cX7_saves 23 = .ok (.getfield 13, 3) := by decide +kernel
theorem dX7_saves_26 : decode cX7_saves 26 = .ok (.iload_n 1, 1) := by decide +kernel
theorem dX7_saves_27 : decode cX7_saves 27 = .ok (.sipush 150, 3) := by decide +kernel
theorem dX7_saves_30 : decode cX7_saves 30 = .ok (.iadd, 1) := by decide +kernel
theorem dX7_saves_31 : decode cX7_saves 31 = .ok (.iaload, 1) := by decide +kernel
theorem dX7_saves_32 : decode cX7_saves 32 = .ok (.iastore, 1) := by decide +kernel
theorem dX7_saves_33 : decode cX7_saves 33 = .ok (.iinc 1 1, 3) := by decide +kernel
theorem dX7_saves_36 : decode cX7_saves 36 = .ok (.goto (-26), 3) := by decide +kernel
theorem dX7_saves_39 : decode cX7_saves 39 = .ok (.aload_n 0, 1) := by decide +kernel
theorem dX7_saves_40 : decode cX7_saves 40 = .ok (.dup, 1) := by decide +kernel
theorem dX7_saves_41 : decode cX7_saves 41 = .ok (.getfield 41, 3) := by decide +kernel
theorem dX7_saves_44 : decode cX7_saves 44 = .ok (.iconst 1, 1) := by decide +kernel
theorem dX7_saves_45 : decode cX7_saves 45 = .ok (.isub, 1) := by decide +kernel
theorem dX7_saves_46 : decode cX7_saves 46 = .ok (.putfield 41, 3) := by decide +kernel
theorem dX7_saves_49 : decode cX7_saves 49 = .ok (.iconst 0, 1) := by decide +kernel
theorem dX7_saves_50 : decode cX7_saves 50 = .ok (.istore_n 1, 1) := by decide +kernel
theorem dX7_saves_51 : decode cX7_saves 51 = .ok (.iload_n 1, 1) := by decide +kernel
theorem dX7_saves_52 : decode cX7_saves 52 = .ok (.sipush 150, 3) := by decide +kernel
theorem dX7_saves_55 : decode cX7_saves 55 = .ok (.if_icmp .ge 30, 3) := by decide +kernel
theorem dX7_saves_58 : decode cX7_saves 58 = .ok (.aload_n 0, 1) := by decide +kernel
theorem dX7_saves_59 : decode cX7_saves 59 = .ok (.getfield 13, 3) := by decide +kernel
theorem dX7_saves_62 : decode cX7_saves 62 = .ok (.sipush 150, 3) := by decide +kernel
theorem dX7_saves_65 : decode cX7_saves 65 = .ok (.aload_n 0, 1) := by decide +kernel
theorem dX7_saves_66 : decode cX7_saves 66 = .ok (.getfield 41, 3) := by decide +kernel
theorem dX7_saves_69 : decode cX7_saves 69 = .ok (.imul, 1) := by decide +kernel
theorem dX7_saves_70 : decode cX7_saves 70 = .ok (.iload_n 1, 1) := by decide +kernel
theorem dX7_saves_71 : decode cX7_saves 71 = .ok (.iadd, 1) := by decide +kernel
theorem dX7_saves_72 : decode cX7_saves 72 = .ok (.aload_n 0, 1) := by decide +kernel
theorem dX7_saves_73 : decode cX7_saves 73 = .ok (.getfield 7, 3) := by decide +kernel
theorem dX7_saves_76 : decode cX7_saves 76 = .ok (.iload_n 1, 1) := by decide +kernel
theorem dX7_saves_77 : decode cX7_saves 77 = .ok (.iaload, 1) := by decide +kernel
theorem dX7_saves_78 : decode cX7_saves 78 = .ok (.iastore, 1) := by decide +kernel
theorem dX7_saves_79 : decode cX7_saves 79 = .ok (.iinc 1 1, 3) := by decide +kernel
theorem dX7_saves_82 : decode cX7_saves 82 = .ok (.goto (-31), 3) := by decide +kernel
theorem dX7_saves_85 : decode cX7_saves 85 = .ok (.aload_n 0, 1) := by decide +kernel
theorem dX7_saves_86 : decode cX7_saves 86 = .ok (.dup, 1) := by decide +kernel
theorem dX7_saves_87 : decode cX7_saves 87 = .ok (.getfield 41, 3) := by decide +kernel
theorem dX7_saves_90 : decode cX7_saves 90 = .ok (.iconst 1, 1) := by decide +kernel
theorem dX7_saves_91 : decode cX7_saves 91 = .ok (.iadd, 1) := by decide +kernel
theorem dX7_saves_92 : decode cX7_saves 92 = .ok (.putfield 41, 3) := by decide +kernel
theorem dX7_saves_95 : decode cX7_saves 95 = .ok (.return_, 1) := by decide +kernel
set_option maxRecDepth 20000 in
theorem ggX7_undo_X7_fails : GoodIn wsX7_undo wsX7_fails := goodIn_r _ [8, 9, 10, 11, 12, 13, 14, 15, 16, 17, 18, 19, 20, 21, 22, 23, 24, 25] (by decide +kernel) (by decide +kernel)
set_option maxRecDepth 20000 in
theorem gX7_undo_X7_fails : GoodIn wsX7_undo (wsV RX7 45 RX7 yX7_fails wsX7_fails) := goodIn_app (goodIn_of _ (by decide +kernel)) ggX7_undo_X7_fails
theorem dX7_undo_0 : decode cX7_undo 0 = .ok (.aload_n 0, 1) := by decide +kernel
theorem dX7_undo_1 : decode cX7_undo 1 = .ok (.getfield 41, 3) := by decide +kernel
theorem dX7_undo_4 : decode cX7_undo 4 = .ok (.ifCond .ne 10, 3) := by decide +kernel
theorem dX7_undo_7 : decode cX7_undo 7 = .ok (.aload_n 0, 1) := by decide +kernel
theorem dX7_undo_8 : decode cX7_undo 8 = .ok (.bipush (-5), 2) := by decide +kernel
theorem dX7_undo_10 : decode cX7_undo 10 = .ok (.invokevirtual 45, 3) := by decide +kernel
theorem dX7_undo_13 : decode cX7_undo 13 = .ok (.ireturn, 1) := by decide +kernel
theorem dX7_undo_14 : decode cX7_undo 14 = .ok (.aload_n 0, 1) := by decide +kernel
theorem dX7_undo_15 : decode cX7_undo 15 = .ok (.dup, 1) := by decide +kernel
theorem dX7_undo_16 : decode cX7_undo 16 = .ok (.getfield 41, 3) := by decide +kernel
theorem dX7_undo_19 : decode cX7_undo 19 = .ok (.iconst 1, 1) := by decide +kernel
theorem dX7_undo_20 : decode cX7_undo 20 = .ok (.isub, 1) := by decide +kernel
theorem dX7_undo_21 : decode cX7_undo 21 = .ok (.putfield 41, 3) := by decide +kernel
theorem dX7_undo_24 : decode cX7_undo 24 = .ok (.iconst 0, 1) := by decide +kernel
theorem dX7_undo_25 : decode cX7_undo 25 = .ok (.istore_n 1, 1) := by decide +kernel
theorem dX7_undo_26 : decode cX7_undo 26 = .ok (.iload_n 1, 1) := by decide +kernel
theorem dX7_undo_27 : decode cX7_undo 27 = .ok (.sipush 150, 3) := by decide +kernel
theorem dX7_undo_30 : decode cX7_undo 30 = .ok (.if_icmp .ge 30, 3) := by decide +kernel
theorem dX7_undo_33 : decode cX7_undo 33 = .ok (.aload_n 0, 1) := by decide +kernel
theorem dX7_undo_34 : decode cX7_undo 34 = .ok (.getfield 7, 3) := by decide +kernel
theorem dX7_undo_37 : decode cX7_undo 37 = .ok (.iload_n 1, 1) := by decide +kernel
theorem dX7_undo_38 : decode cX7_undo 38 = .ok (.aload_n 0, 1) := by decide +kernel
theorem dX7_undo_39 : decode cX7_undo 39 = .ok (.getfield 13, 3) := by decide +kernel
theorem dX7_undo_42 : decode cX7_undo 42 = .ok (.sipush 150, 3) := by decide +kernel
theorem dX7_undo_45 : decode cX7_undo 45 = .ok (.aload_n 0, 1) := by decide +kernel
theorem dX7_undo_46 : decode cX7_undo 46 = .ok (.getfield 41, 3) := by decide +kernel
theorem dX7_undo_49 : decode cX7_undo 49 = .ok (.imul, 1) := by decide +kernel
theorem dX7_undo_50 : decode cX7_undo 50 = .ok (.iload_n 1, 1) := by decide +kernel
theorem dX7_undo_51 : decode cX7_undo 51 = .ok (.iadd, 1) := by decide +kernel
theorem dX7_undo_52 : decode cX7_undo 52 = .ok (.iaload, 1) := by decide +kernel
theorem dX7_undo_53 : decode cX7_undo 53 = .ok (.iastore, 1) := by decide +kernel
theorem dX7_undo_54 : decode cX7_undo 54 = .ok (.iinc 1 1, 3) := by decide +kernel
theorem dX7_undo_57 : decode cX7_undo 57 = .ok (.goto (-31), 3) := by decide +kernel
theorem dX7_undo_60 : decode cX7_undo 60 = .ok (.aload_n 0, 1) := by decide +kernel
theorem dX7_undo_61 : decode cX7_undo 61 = .ok (.getfield 41, 3) := by decide +kernel
theorem dX7_undo_64 : decode cX7_undo 64 = .ok (.ireturn, 1) := by decide +kernel
set_option maxRecDepth 20000 in
theorem ggX7_setSound_X7_within : GoodIn wsX7_setSound wsX7_within := goodIn_r _ [5] (by decide +kernel) (by decide +kernel)
set_option maxRecDepth 20000 in
theorem gX7_setSound_X7_within : GoodIn wsX7_setSound (va_wsS RX7 37 yX7_within wsX7_within) := goodIn_app (goodIn_of _ (by decide +kernel)) ggX7_setSound_X7_within
set_option maxRecDepth 20000 in
theorem ggX7_setSound_X7_isCode : GoodIn wsX7_setSound wsX7_isCode := goodIn_r _ [8, 2, 3, 4, 5] (by decide +kernel) (by decide +kernel)
set_option maxRecDepth 20000 in
theorem gX7_setSound_X7_isCode : GoodIn wsX7_setSound (va_wsS RX7 49 yX7_isCode wsX7_isCode) := goodIn_app (goodIn_of _ (by decide +kernel)) ggX7_setSound_X7_isCode
set_option maxRecDepth 20000 in
theorem ggX7_setSound_X7_fails : GoodIn wsX7_setSound wsX7_fails := goodIn_r _ [12, 13, 20, 21, 22, 23, 24, 25, 26, 27, 28, 29, 30, 31, 32, 33, 34, 35] (by decide +kernel) (by decide +kernel)
set_option maxRecDepth 20000 in
theorem gX7_setSound_X7_fails : GoodIn wsX7_setSound (wsV RX7 45 RX7 yX7_fails wsX7_fails) := goodIn_app (goodIn_of _ (by decide +kernel)) ggX7_setSound_X7_fails
set_option maxRecDepth 20000 in
theorem ggX7_setSound_X7_saves : GoodIn wsX7_setSound wsX7_saves := goodIn_r _ [17, 18, 19, 1, 20, 21, 22, 23, 24, 25, 26, 27, 28, 29, 30, 31, 32, 33, 34, 35] (by decide +kernel) (by decide +kernel)
set_option maxRecDepth 20000 in
theorem gX7_setSound_X7_saves : GoodIn wsX7_setSound (wsV RX7 53 RX7 yX7_saves wsX7_saves) := goodIn_app (goodIn_of _ (by decide +kernel)) ggX7_setSound_X7_saves
theorem dX7_setSound_0 : decode cX7_setSound 0 = .ok (.iload_n 1, 1) := by decide +kernel
theorem dX7_setSound_1 : decode cX7_setSound 1 = .ok (.iconst 0, 1) := by decide +kernel
theorem dX7_setSound_2 : decode cX7_setSound 2 = .ok (.bipush 7, 2) := by decide +kernel
theorem dX7_setSound_4 : decode cX7_setSound 4 = .ok (.invokestatic 37, 3) := by decide +kernel
theorem dX7_setSound_7 : decode cX7_setSound 7 = .ok (.ifCond .eq 20, 3) := by decide +kernel
theorem dX7_setSound_10 : decode cX7_setSound 10 = .ok (.iload_n 2, 1) := by decide +kernel
theorem dX7_setSound_11 : decode cX7_setSound 11 = .ok (.invokestatic 49, 3) := by decide +kernel
theorem dX7_setSound_14 : decode cX7_setSound 14 = .ok (.ifCond .eq 13, 3) := by decide +kernel
theorem dX7_setSound_17 : decode cX7_setSound 17 = .ok (.iload_n 3, 1) := by decide +kernel
theorem dX7_setSound_18 : decode cX7_setSound 18 = .ok (.iconst (-1), 1) := by decide +kernel
theorem dX7_setSound_19 : decode cX7_setSound 19 = .ok (.bipush 23, 2) := by decide +kernel
theorem dX7_setSound_21 : decode cX7_setSound 21 = .ok (.invokestatic 37, 3) := by decide +kernel
theorem dX7_setSound_24 : decode cX7_setSound 24 = .ok (.ifCond .ne 10, 3) := by decide +kernel
theorem dX7_setSound_27 : decode cX7_setSound 27 = .ok (.aload_n 0, 1) := by decide +kernel
theorem dX7_setSound_28 : decode cX7_setSound 28 = .ok (.bipush (-2), 2) := by decide +kernel
theorem dX7_setSound_30 : decode cX7_setSound 30 = .ok (.invokevirtual 45, 3) := by decide +kernel
theorem dX7_setSound_33 : decode cX7_setSound 33 = .ok (.ireturn, 1) := by decide +kernel
theorem dX7_setSound_34 : decode cX7_setSound 34 = .ok (.aload_n 0, 1) := by decide +kernel
theorem dX7_setSound_35 : decode cX7_setSound 35 = .ok (.invokevirtual 53, 3) := by decide +kernel
theorem dX7_setSound_38 : decode cX7_setSound 38 = .ok (.aload_n 0, 1) := by decide +kernel
theorem dX7_setSound_39 : decode cX7_setSound 39 = .ok (.getfield 7, 3) := by decide +kernel
theorem dX7_setSound_42 : decode cX7_setSound 42 = .ok (.iconst 1, 1) := by decide +kernel
theorem dX7_setSound_43 : decode cX7_setSound 43 = .ok (.iload_n 1, 1) := by decide +kernel
theorem dX7_setSound_44 : decode cX7_setSound 44 = .ok (.iadd, 1) := by decide +kernel
theorem dX7_setSound_45 : decode cX7_setSound 45 = .ok (.iaload, 1) := by decide +kernel
theorem dX7_setSound_46 : decode cX7_setSound 46 = .ok (.istore 4, 2) := by decide +kernel
theorem dX7_setSound_48 : decode cX7_setSound 48 = .ok (.aload_n 0, 1) := by decide +kernel
theorem dX7_setSound_49 : decode cX7_setSound 49 = .ok (.getfield 7, 3) := by decide +kernel
theorem dX7_setSound_52 : decode cX7_setSound 52 = .ok (.iconst 1, 1) := by decide +kernel
theorem dX7_setSound_53 : decode cX7_setSound 53 = .ok (.iload_n 1, 1) := by decide +kernel
theorem dX7_setSound_54 : decode cX7_setSound 54 = .ok (.iadd, 1) := by decide +kernel
theorem dX7_setSound_55 : decode cX7_setSound 55 = .ok (.iload_n 2, 1) := by decide +kernel
theorem dX7_setSound_56 : decode cX7_setSound 56 = .ok (.iastore, 1) := by decide +kernel
theorem dX7_setSound_57 : decode cX7_setSound 57 = .ok (.aload_n 0, 1) := by decide +kernel
theorem dX7_setSound_58 : decode cX7_setSound 58 = .ok (.getfield 7, 3) := by decide +kernel
theorem dX7_setSound_61 : decode cX7_setSound 61 = .ok (.bipush 9, 2) := by decide +kernel
theorem dX7_setSound_63 : decode cX7_setSound 63 = .ok (.iload_n 1, 1) := by decide +kernel
theorem dX7_setSound_64 : decode cX7_setSound 64 = .ok (.iadd, 1) := by decide +kernel
theorem dX7_setSound_65 : decode cX7_setSound 65 = .ok (.iload_n 3, 1) := by decide +kernel
theorem dX7_setSound_66 : decode cX7_setSound 66 = .ok (.iastore, 1) := by decide +kernel
theorem dX7_setSound_67 : decode cX7_setSound 67 = .ok (.iload 4, 2) := by decide +kernel
theorem dX7_setSound_69 : decode cX7_setSound 69 = .ok (.ireturn, 1) := by decide +kernel
set_option maxRecDepth 20000 in
theorem ggX7_setVowels_X7_within : GoodIn wsX7_setVowels wsX7_within := goodIn_r _ [5] (by decide +kernel) (by decide +kernel)
set_option maxRecDepth 20000 in
theorem gX7_setVowels_X7_within : GoodIn wsX7_setVowels (va_wsS RX7 37 yX7_within wsX7_within) := goodIn_app (goodIn_of _ (by decide +kernel)) ggX7_setVowels_X7_within
set_option maxRecDepth 20000 in
theorem ggX7_setVowels_X7_fails : GoodIn wsX7_setVowels wsX7_fails := goodIn_r _ [9, 10, 17, 18, 19, 20, 21, 22, 23, 24, 25, 26, 27, 28, 29, 30, 31, 32] (by decide +kernel) (by decide +kernel)
set_option maxRecDepth 20000 in
theorem gX7_setVowels_X7_fails : GoodIn wsX7_setVowels (wsV RX7 45 RX7 yX7_fails wsX7_fails) := goodIn_app (goodIn_of _ (by decide +kernel)) ggX7_setVowels_X7_fails
set_option maxRecDepth 20000 in
theorem ggX7_setVowels_X7_saves : GoodIn wsX7_setVowels wsX7_saves := goodIn_r _ [14, 15, 16, 1, 17, 18, 19, 20, 21, 22, 23, 24, 25, 26, 27, 28, 29, 30, 31, 32] (by decide +kernel) (by decide +kernel)
set_option maxRecDepth 20000 in
theorem gX7_setVowels_X7_saves : GoodIn wsX7_setVowels (wsV RX7 53 RX7 yX7_saves wsX7_saves) := goodIn_app (goodIn_of _ (by decide +kernel)) ggX7_setVowels_X7_saves
theorem dX7_setVowels_0 : decode cX7_setVowels 0 = .ok (.iload_n 1, 1) := by decide +kernel
theorem dX7_setVowels_1 : decode cX7_setVowels 1 = .ok (.iconst 0, 1) := by decide +kernel
theorem dX7_setVowels_2 : decode cX7_setVowels 2 = .ok (.sipush 255, 3) := by decide +kernel
theorem dX7_setVowels_5 : decode cX7_setVowels 5 = .ok (.invokestatic 37, 3) := by decide +kernel
theorem dX7_setVowels_8 : decode cX7_setVowels 8 = .ok (.ifCond .ne 10, 3) := by decide +kernel
theorem dX7_setVowels_11 : decode cX7_setVowels 11 = .ok (.aload_n 0, 1) := by decide +kernel
theorem dX7_setVowels_12 : decode cX7_setVowels 12 = .ok (.bipush (-2), 2) := by decide +kernel
theorem dX7_setVowels_14 : decode cX7_setVowels 14 = .ok (.invokevirtual 45, 3) := by decide +kernel
theorem dX7_setVowels_17 : decode cX7_setVowels 17 = .ok (.ireturn, 1) := by decide +kernel
theorem dX7_setVowels_18 : decode cX7_setVowels 18 = .ok (.aload_n 0, 1) := by decide +kernel
theorem dX7_setVowels_19 : decode cX7_setVowels 19 = .ok (.invokevirtual 53, 3) := by decide +kernel
theorem dX7_setVowels_22 : decode cX7_setVowels 22 = .ok (.aload_n 0, 1) := by decide +kernel
theorem dX7_setVowels_23 : decode cX7_setVowels 23 = .ok (.getfield 7, 3) := by decide +kernel
theorem dX7_setVowels_26 : decode cX7_setVowels 26 = .ok (.iconst 0, 1) := by decide +kernel
theorem dX7_setVowels_27 : decode cX7_setVowels 27 = .ok (.iaload, 1) := by decide +kernel
theorem dX7_setVowels_28 : decode cX7_setVowels 28 = .ok (.istore_n 2, 1) := by decide +kernel
theorem dX7_setVowels_29 : decode cX7_setVowels 29 = .ok (.aload_n 0, 1) := by decide +kernel
theorem dX7_setVowels_30 : decode cX7_setVowels 30 = .ok (.getfield 7, 3) := by decide +kernel
theorem dX7_setVowels_33 : decode cX7_setVowels 33 = .ok (.iconst 0, 1) := by decide +kernel
theorem dX7_setVowels_34 : decode cX7_setVowels 34 = .ok (.iload_n 1, 1) := by decide +kernel
theorem dX7_setVowels_35 : decode cX7_setVowels 35 = .ok (.iastore, 1) := by decide +kernel
theorem dX7_setVowels_36 : decode cX7_setVowels 36 = .ok (.iload_n 2, 1) := by decide +kernel
theorem dX7_setVowels_37 : decode cX7_setVowels 37 = .ok (.ireturn, 1) := by decide +kernel
set_option maxRecDepth 20000 in
theorem ggX7_append_X7_within : GoodIn wsX7_append wsX7_within := goodIn_r _ [6] (by decide +kernel) (by decide +kernel)
set_option maxRecDepth 20000 in
theorem gX7_append_X7_within : GoodIn wsX7_append (va_wsS RX7 37 yX7_within wsX7_within) := goodIn_app (goodIn_of _ (by decide +kernel)) ggX7_append_X7_within
set_option maxRecDepth 20000 in
theorem ggX7_append_X7_fails : GoodIn wsX7_append wsX7_fails := goodIn_r _ [10, 11, 12, 13, 14, 15, 16, 17, 18, 19, 20, 21, 22, 23, 24, 25, 26, 27] (by decide +kernel) (by decide +kernel)
set_option maxRecDepth 20000 in
theorem gX7_append_X7_fails : GoodIn wsX7_append (wsV RX7 45 RX7 yX7_fails wsX7_fails) := goodIn_app (goodIn_of _ (by decide +kernel)) ggX7_append_X7_fails
theorem dX7_append_0 : decode cX7_append 0 = .ok (.iload_n 1, 1) := by decide +kernel
theorem dX7_append_1 : decode cX7_append 1 = .ok (.iconst 0, 1) := by decide +kernel
theorem dX7_append_2 : decode cX7_append 2 = .ok (.bipush 127, 2) := by decide +kernel
theorem dX7_append_4 : decode cX7_append 4 = .ok (.invokestatic 37, 3) := by decide +kernel
theorem dX7_append_7 : decode cX7_append 7 = .ok (.ifCond .ne 10, 3) := by decide +kernel
theorem dX7_append_10 : decode cX7_append 10 = .ok (.aload_n 0, 1) := by decide +kernel
theorem dX7_append_11 : decode cX7_append 11 = .ok (.bipush (-2), 2) := by decide +kernel
theorem dX7_append_13 : decode cX7_append 13 = .ok (.invokevirtual 45, 3) := by decide +kernel
theorem dX7_append_16 : decode cX7_append 16 = .ok (.ireturn, 1) := by decide +kernel
theorem dX7_append_17 : decode cX7_append 17 = .ok (.aload_n 0, 1) := by decide +kernel
theorem dX7_append_18 : decode cX7_append 18 = .ok (.getfield 56, 3) := by decide +kernel
theorem dX7_append_21 : decode cX7_append 21 = .ok (.bipush 8, 2) := by decide +kernel
theorem dX7_append_23 : decode cX7_append 23 = .ok (.if_icmp .ne 10, 3) := by decide +kernel
theorem dX7_append_26 : decode cX7_append 26 = .ok (.aload_n 0, 1) := by decide +kernel
theorem dX7_append_27 : decode cX7_append 27 = .ok (.bipush (-4), 2) := by decide +kernel
theorem dX7_append_29 : decode cX7_append 29 = .ok (.invokevirtual 45, 3) := by decide +kernel
theorem dX7_append_32 : decode cX7_append 32 = .ok (.ireturn, 1) := by decide +kernel
theorem dX7_append_33 : decode cX7_append 33 = .ok (.aload_n 0, 1) := by decide +kernel
theorem dX7_append_34 : decode cX7_append 34 = .ok (.getfield 19, 3) := by decide +kernel
theorem dX7_append_37 : decode cX7_append 37 = .ok (.aload_n 0, 1) := by decide +kernel
theorem dX7_append_38 : decode cX7_append 38 = .ok (.getfield 56, 3) := by decide +kernel
theorem dX7_append_41 : decode cX7_append 41 = .ok (.iload_n 1, 1) := by decide +kernel
theorem dX7_append_42 : decode cX7_append 42 = .ok (.iastore, 1) := by decide +kernel
theorem dX7_append_43 : decode cX7_append 43 = .ok (.aload_n 0, 1) := by decide +kernel
theorem dX7_append_44 : decode cX7_append 44 = .ok (.dup, 1) := by decide +kernel
theorem dX7_append_45 : decode cX7_append 45 = .ok (.getfield 56, 3) := by decide +kernel
theorem dX7_append_48 : decode cX7_append 48 = .ok (.iconst 1, 1) := by decide +kernel
theorem dX7_append_49 : decode cX7_append 49 = .ok (.iadd, 1) := by decide +kernel
theorem dX7_append_50 : decode cX7_append 50 = .ok (.putfield 56, 3) := by decide +kernel
theorem dX7_append_53 : decode cX7_append 53 = .ok (.aload_n 0, 1) := by decide +kernel
theorem dX7_append_54 : decode cX7_append 54 = .ok (.getfield 56, 3) := by decide +kernel
theorem dX7_append_57 : decode cX7_append 57 = .ok (.ireturn, 1) := by decide +kernel
theorem dX7_clearText_0 : decode cX7_clearText 0 = .ok (.aload_n 0, 1) := by decide +kernel
theorem dX7_clearText_1 : decode cX7_clearText 1 = .ok (.getfield 56, 3) := by decide +kernel
theorem dX7_clearText_4 : decode cX7_clearText 4 = .ok (.istore_n 1, 1) := by decide +kernel
theorem dX7_clearText_5 : decode cX7_clearText 5 = .ok (.aload_n 0, 1) := by decide +kernel
theorem dX7_clearText_6 : decode cX7_clearText 6 = .ok (.iconst 0, 1) := by decide +kernel
theorem dX7_clearText_7 : decode cX7_clearText 7 = .ok (.putfield 56, 3) := by decide +kernel
theorem dX7_clearText_10 : decode cX7_clearText 10 = .ok (.iload_n 1, 1) := by decide +kernel
theorem dX7_clearText_11 : decode cX7_clearText 11 = .ok (.ireturn, 1) := by decide +kernel
set_option maxRecDepth 20000 in
theorem ggX7_isText_X7_within : GoodIn wsX7_isText wsX7_within := goodIn_r _ [6] (by decide +kernel) (by decide +kernel)
set_option maxRecDepth 20000 in
theorem gX7_isText_X7_within : GoodIn wsX7_isText (va_wsS RX7 37 yX7_within wsX7_within) := goodIn_app (goodIn_of _ (by decide +kernel)) ggX7_isText_X7_within
theorem dX7_isText_0 : decode cX7_isText 0 = .ok (.aload_n 0, 1) := by decide +kernel
theorem dX7_isText_1 : decode cX7_isText 1 = .ok (.getfield 56, 3) := by decide +kernel
theorem dX7_isText_4 : decode cX7_isText 4 = .ok (.ifCond .le 7, 3) := by decide +kernel
theorem dX7_isText_7 : decode cX7_isText 7 = .ok (.iconst 1, 1) := by decide +kernel
theorem dX7_isText_8 : decode cX7_isText 8 = .ok (.goto 4, 3) := by decide +kernel
theorem dX7_isText_11 : decode cX7_isText 11 = .ok (.iconst 0, 1) := by decide +kernel
theorem dX7_isText_12 : decode cX7_isText 12 = .ok (.istore_n 1, 1) := by decide +kernel
theorem dX7_isText_13 : decode cX7_isText 13 = .ok (.iconst 0, 1) := by decide +kernel
theorem dX7_isText_14 : decode cX7_isText 14 = .ok (.istore_n 2, 1) := by decide +kernel
theorem dX7_isText_15 : decode cX7_isText 15 = .ok (.iload_n 2, 1) := by decide +kernel
theorem dX7_isText_16 : decode cX7_isText 16 = .ok (.aload_n 0, 1) := by decide +kernel
theorem dX7_isText_17 : decode cX7_isText 17 = .ok (.getfield 56, 3) := by decide +kernel
theorem dX7_isText_20 : decode cX7_isText 20 = .ok (.if_icmp .ge 35, 3) := by decide +kernel
theorem dX7_isText_23 : decode cX7_isText 23 = .ok (.iload_n 1, 1) := by decide +kernel
theorem dX7_isText_24 : decode cX7_isText 24 = .ok (.ifCond .eq 23, 3) := by decide +kernel
theorem dX7_isText_27 : decode cX7_isText 27 = .ok (.aload_n 0, 1) := by decide +kernel
theorem dX7_isText_28 : decode cX7_isText 28 = .ok (.getfield 19, 3) := by decide +kernel
theorem dX7_isText_31 : decode cX7_isText 31 = .ok (.iload_n 2, 1) := by decide +kernel
theorem dX7_isText_32 : decode cX7_isText 32 = .ok (.iaload, 1) := by decide +kernel
theorem dX7_isText_33 : decode cX7_isText 33 = .ok (.bipush 97, 2) := by decide +kernel
theorem dX7_isText_35 : decode cX7_isText 35 = .ok (.bipush 104, 2) := by decide +kernel
theorem dX7_isText_37 : decode cX7_isText 37 = .ok (.invokestatic 37, 3) := by decide +kernel
theorem dX7_isText_40 : decode cX7_isText 40 = .ok (.ifCond .eq 7, 3) := by decide +kernel
theorem dX7_isText_43 : decode cX7_isText 43 = .ok (.iconst 1, 1) := by decide +kernel
theorem dX7_isText_44 : decode cX7_isText 44 = .ok (.goto 4, 3) := by decide +kernel
theorem dX7_isText_47 : decode cX7_isText 47 = .ok (.iconst 0, 1) := by decide +kernel
theorem dX7_isText_48 : decode cX7_isText 48 = .ok (.istore_n 1, 1) := by decide +kernel
theorem dX7_isText_49 : decode cX7_isText 49 = .ok (.iinc 2 1, 3) := by decide +kernel
theorem dX7_isText_52 : decode cX7_isText 52 = .ok (.goto (-37), 3) := by decide +kernel
theorem dX7_isText_55 : decode cX7_isText 55 = .ok (.iload_n 1, 1) := by decide +kernel
theorem dX7_isText_56 : decode cX7_isText 56 = .ok (.ireturn, 1) := by decide +kernel
set_option maxRecDepth 20000 in
theorem ggX7_addWord_X7_within : GoodIn wsX7_addWord wsX7_within := goodIn_r _ [7] (by decide +kernel) (by decide +kernel)
set_option maxRecDepth 20000 in
theorem gX7_addWord_X7_within : GoodIn wsX7_addWord (va_wsS RX7 37 yX7_within wsX7_within) := goodIn_app (goodIn_of _ (by decide +kernel)) ggX7_addWord_X7_within
set_option maxRecDepth 20000 in
theorem ggX7_addWord_X7_fails : GoodIn wsX7_addWord wsX7_fails := goodIn_r _ [11, 12, 23, 24, 25, 26, 27, 28, 29, 30, 31, 32, 33, 34, 35, 36, 37, 38] (by decide +kernel) (by decide +kernel)
set_option maxRecDepth 20000 in
theorem gX7_addWord_X7_fails : GoodIn wsX7_addWord (wsV RX7 45 RX7 yX7_fails wsX7_fails) := goodIn_app (goodIn_of _ (by decide +kernel)) ggX7_addWord_X7_fails
set_option maxRecDepth 20000 in
theorem ggX7_addWord_X7_isText : GoodIn wsX7_addWord wsX7_isText := goodIn_r _ [16, 2, 3, 4, 5, 6, 7, 23, 24, 25, 26, 27, 28, 29, 30, 31, 32, 33, 34, 35, 36, 37, 38] (by decide +kernel) (by decide +kernel)
set_option maxRecDepth 20000 in
theorem gX7_addWord_X7_isText : GoodIn wsX7_addWord (wsV RX7 59 RX7 yX7_isText wsX7_isText) := goodIn_app (goodIn_of _ (by decide +kernel)) ggX7_addWord_X7_isText
set_option maxRecDepth 20000 in
theorem ggX7_addWord_X7_saves : GoodIn wsX7_addWord wsX7_saves := goodIn_r _ [20, 21, 22, 1, 23, 24, 25, 26, 27, 28, 29, 30, 31, 32, 33, 34, 35, 36, 37, 38] (by decide +kernel) (by decide +kernel)
set_option maxRecDepth 20000 in
theorem gX7_addWord_X7_saves : GoodIn wsX7_addWord (wsV RX7 53 RX7 yX7_saves wsX7_saves) := goodIn_app (goodIn_of _ (by decide +kernel)) ggX7_addWord_X7_saves
theorem dX7_addWord_0 : decode cX7_addWord 0 = .ok (.iload_n 1, 1) := by decide +kernel
theorem dX7_addWord_1 : decode cX7_addWord 1 = .ok (.iconst 1, 1) := by decide +kernel
theorem dX7_addWord_2 : decode cX7_addWord 2 = .ok (.sipush 999, 3) := by decide +kernel
theorem dX7_addWord_5 : decode cX7_addWord 5 = .ok (.invokestatic 37, 3) := by decide +kernel
theorem dX7_addWord_8 : decode cX7_addWord 8 = .ok (.ifCond .ne 10, 3) := by decide +kernel
theorem dX7_addWord_11 : decode cX7_addWord 11 = .ok (.aload_n 0, 1) := by decide +kernel
theorem dX7_addWord_12 : decode cX7_addWord 12 = .ok (.bipush (-2), 2) := by decide +kernel
theorem dX7_addWord_14 : decode cX7_addWord 14 = .ok (.invokevirtual 45, 3) := by decide +kernel
theorem dX7_addWord_17 : decode cX7_addWord 17 = .ok (.ireturn, 1) := by decide +kernel
theorem dX7_addWord_18 : decode cX7_addWord 18 = .ok (.aload_n 0, 1) := by decide +kernel
theorem dX7_addWord_19 : decode cX7_addWord 19 = .ok (.invokevirtual 59, 3) := by decide +kernel
theorem dX7_addWord_22 : decode cX7_addWord 22 = .ok (.ifCond .ne 10, 3) := by decide +kernel
theorem dX7_addWord_25 : decode cX7_addWord 25 = .ok (.aload_n 0, 1) := by decide +kernel
theorem dX7_addWord_26 : decode cX7_addWord 26 = .ok (.bipush (-3), 2) := by decide +kernel
theorem dX7_addWord_28 : decode cX7_addWord 28 = .ok (.invokevirtual 45, 3) := by decide +kernel
theorem dX7_addWord_31 : decode cX7_addWord 31 = .ok (.ireturn, 1) := by decide +kernel
theorem dX7_addWord_32 : decode cX7_addWord 32 = .ok (.aload_n 0, 1) := by decide +kernel
theorem dX7_addWord_33 : decode cX7_addWord 33 = .ok (.getfield 7, 3) := by decide +kernel
theorem dX7_addWord_36 : decode cX7_addWord 36 = .ok (.bipush 17, 2) := by decide +kernel
theorem dX7_addWord_38 : decode cX7_addWord 38 = .ok (.iaload, 1) := by decide +kernel
theorem dX7_addWord_39 : decode cX7_addWord 39 = .ok (.bipush 12, 2) := by decide +kernel
theorem dX7_addWord_41 : decode cX7_addWord 41 = .ok (.if_icmp .ne 10, 3) := by decide +kernel
theorem dX7_addWord_44 : decode cX7_addWord 44 = .ok (.aload_n 0, 1) := by decide +kernel
theorem dX7_addWord_45 : decode cX7_addWord 45 = .ok (.bipush (-4), 2) := by decide +kernel
theorem dX7_addWord_47 : decode cX7_addWord 47 = .ok (.invokevirtual 45, 3) := by decide +kernel
theorem dX7_addWord_50 : decode cX7_addWord 50 = .ok (.ireturn, 1) := by decide +kernel
theorem dX7_addWord_51 : decode cX7_addWord 51 = .ok (.aload_n 0, 1) := by decide +kernel
theorem dX7_addWord_52 : decode cX7_addWord 52 = .ok (.invokevirtual 53, 3) := by decide +kernel
theorem dX7_addWord_55 : decode cX7_addWord 55 = .ok (.aload_n 0, 1) := by decide +kernel
theorem dX7_addWord_56 : decode cX7_addWord 56 = .ok (.getfield 7, 3) := by decide +kernel
theorem dX7_addWord_59 : decode cX7_addWord 59 = .ok (.bipush 17, 2) := by decide +kernel
theorem dX7_addWord_61 : decode cX7_addWord 61 = .ok (.iaload, 1) := by decide +kernel
theorem dX7_addWord_62 : decode cX7_addWord 62 = .ok (.istore_n 2, 1) := by decide +kernel
theorem dX7_addWord_63 : decode cX7_addWord 63 = .ok (.aload_n 0, 1) := by decide +kernel
theorem dX7_addWord_64 : decode cX7_addWord 64 = .ok (.getfield 7, 3) := by decide +kernel
theorem dX7_addWord_67 : decode cX7_addWord 67 = .ok (.bipush 18, 2) := by decide +kernel
theorem dX7_addWord_69 : decode cX7_addWord 69 = .ok (.iload_n 2, 1) := by decide +kernel
theorem dX7_addWord_70 : decode cX7_addWord 70 = .ok (.iadd, 1) := by decide +kernel
theorem dX7_addWord_71 : decode cX7_addWord 71 = .ok (.aload_n 0, 1) := by decide +kernel
theorem dX7_addWord_72 : decode cX7_addWord 72 = .ok (.getfield 56, 3) := by decide +kernel
theorem dX7_addWord_75 : decode cX7_addWord 75 = .ok (.iastore, 1) := by decide +kernel
theorem dX7_addWord_76 : decode cX7_addWord 76 = .ok (.aload_n 0, 1) := by decide +kernel
theorem dX7_addWord_77 : decode cX7_addWord 77 = .ok (.getfield 7, 3) := by decide +kernel
theorem dX7_addWord_80 : decode cX7_addWord 80 = .ok (.bipush 30, 2) := by decide +kernel
theorem dX7_addWord_82 : decode cX7_addWord 82 = .ok (.iload_n 2, 1) := by decide +kernel
theorem dX7_addWord_83 : decode cX7_addWord 83 = .ok (.iadd, 1) := by decide +kernel
theorem dX7_addWord_84 : decode cX7_addWord 84 = .ok (.iload_n 1, 1) := by decide +kernel
theorem dX7_addWord_85 : decode cX7_addWord 85 = .ok (.iastore, 1) := by decide +kernel
theorem dX7_addWord_86 : decode cX7_addWord 86 = .ok (.aload_n 0, 1) := by decide +kernel
theorem dX7_addWord_87 : decode cX7_addWord 87 = .ok (.getfield 7, 3) := by decide +kernel
theorem dX7_addWord_90 : decode cX7_addWord 90 = .ok (.bipush 42, 2) := by decide +kernel
theorem dX7_addWord_92 : decode cX7_addWord 92 = .ok (.iload_n 2, 1) := by decide +kernel
theorem dX7_addWord_93 : decode cX7_addWord 93 = .ok (.iadd, 1) := by decide +kernel
theorem dX7_addWord_94 : decode cX7_addWord 94 = .ok (.iconst (-1), 1) := by decide +kernel
theorem dX7_addWord_95 : decode cX7_addWord 95 = .ok (.iastore, 1) := by decide +kernel
theorem dX7_addWord_96 : decode cX7_addWord 96 = .ok (.iconst 0, 1) := by decide +kernel
theorem dX7_addWord_97 : decode cX7_addWord 97 = .ok (.istore_n 3, 1) := by decide +kernel
theorem dX7_addWord_98 : decode cX7_addWord 98 = .ok (.iload_n 3, 1) := by decide +kernel
theorem dX7_addWord_99 : decode cX7_addWord 99 = .ok (.aload_n 0, 1) := by decide +kernel
theorem dX7_addWord_100 : decode cX7_addWord 100 = .ok (.getfield 56, 3) := by decide +kernel
theorem dX7_addWord_103 : decode cX7_addWord 103 = .ok (.if_icmp .ge 32, 3) := by decide +kernel
theorem dX7_addWord_106 : decode cX7_addWord 106 = .ok (.aload_n 0, 1) := by decide +kernel
theorem dX7_addWord_107 : decode cX7_addWord 107 = .ok (.getfield 7, 3) := by decide +kernel
theorem dX7_addWord_110 : decode cX7_addWord 110 = .ok (.bipush 54, 2) := by decide +kernel
theorem dX7_addWord_112 : decode cX7_addWord 112 = .ok (.bipush 8, 2) := by decide +kernel
theorem dX7_addWord_114 : decode cX7_addWord 114 = .ok (.iload_n 2, 1) := by decide +kernel
theorem dX7_addWord_115 : decode cX7_addWord 115 = .ok (.imul, 1) := by decide +kernel
theorem dX7_addWord_116 : decode cX7_addWord 116 = .ok (.iadd, 1) := by decide +kernel
theorem dX7_addWord_117 : decode cX7_addWord 117 = .ok (.iload_n 3, 1) := by decide +kernel
theorem dX7_addWord_118 : decode cX7_addWord 118 = .ok (.iadd, 1) := by decide +kernel
theorem dX7_addWord_119 : decode cX7_addWord 119 = .ok (.aload_n 0, 1) := by decide +kernel
theorem dX7_addWord_120 : decode cX7_addWord 120 = .ok (.getfield 19, 3) := by decide +kernel
theorem dX7_addWord_123 : decode cX7_addWord 123 = .ok (.iload_n 3, 1) := by decide +kernel
theorem dX7_addWord_124 : decode cX7_addWord 124 = .ok (.iaload, 1) := by decide +kernel
theorem dX7_addWord_125 : decode cX7_addWord 125 = .ok (.bipush 97, 2) := by decide +kernel
theorem dX7_addWord_127 : decode cX7_addWord 127 = .ok (.isub, 1) := by decide +kernel
theorem dX7_addWord_128 : decode cX7_addWord 128 = .ok (.iastore, 1) := by decide +kernel
theorem dX7_addWord_129 : decode cX7_addWord 129 = .ok (.iinc 3 1, 3) := by decide +kernel
theorem dX7_addWord_132 : decode cX7_addWord 132 = .ok (.goto (-34), 3) := by decide +kernel
theorem dX7_addWord_135 : decode cX7_addWord 135 = .ok (.aload_n 0, 1) := by decide +kernel
theorem dX7_addWord_136 : decode cX7_addWord 136 = .ok (.getfield 7, 3) := by decide +kernel
theorem dX7_addWord_139 : decode cX7_addWord 139 = .ok (.bipush 17, 2) := by decide +kernel
theorem dX7_addWord_141 : decode cX7_addWord 141 = .ok (.dup2, 1) := by decide +kernel
theorem dX7_addWord_142 : decode cX7_addWord 142 = .ok (.iaload, 1) := by decide +kernel
theorem dX7_addWord_143 : decode cX7_addWord 143 = .ok (.iconst 1, 1) := by decide +kernel
theorem dX7_addWord_144 : decode cX7_addWord 144 = .ok (.iadd, 1) := by decide +kernel
theorem dX7_addWord_145 : decode cX7_addWord 145 = .ok (.iastore, 1) := by decide +kernel
theorem dX7_addWord_146 : decode cX7_addWord 146 = .ok (.iload_n 2, 1) := by decide +kernel
theorem dX7_addWord_147 : decode cX7_addWord 147 = .ok (.ireturn, 1) := by decide +kernel
set_option maxRecDepth 20000 in
theorem ggX7_removeWord_X7_isWord : GoodIn wsX7_removeWord wsX7_isWord := goodIn_r _ [6, 1, 7, 8, 5, 9, 21, 22, 23, 24, 25, 26, 27, 28, 29, 30, 31, 32, 33, 34, 35, 36] (by decide +kernel) (by decide +kernel)
set_option maxRecDepth 20000 in
theorem gX7_removeWord_X7_isWord : GoodIn wsX7_removeWord (wsV RX7 63 RX7 yX7_isWord wsX7_isWord) := goodIn_app (goodIn_of _ (by decide +kernel)) ggX7_removeWord_X7_isWord
set_option maxRecDepth 20000 in
theorem ggX7_removeWord_X7_fails : GoodIn wsX7_removeWord wsX7_fails := goodIn_r _ [13, 14, 21, 22, 23, 24, 25, 26, 27, 28, 29, 30, 31, 32, 33, 34, 35, 36] (by decide +kernel) (by decide +kernel)
set_option maxRecDepth 20000 in
theorem gX7_removeWord_X7_fails : GoodIn wsX7_removeWord (wsV RX7 45 RX7 yX7_fails wsX7_fails) := goodIn_app (goodIn_of _ (by decide +kernel)) ggX7_removeWord_X7_fails
set_option maxRecDepth 20000 in
theorem ggX7_removeWord_X7_saves : GoodIn wsX7_removeWord wsX7_saves := goodIn_r _ [18, 19, 20, 1, 21, 22, 23, 24, 25, 26, 27, 28, 29, 30, 31, 32, 33, 34, 35, 36] (by decide +kernel) (by decide +kernel)
set_option maxRecDepth 20000 in
theorem gX7_removeWord_X7_saves : GoodIn wsX7_removeWord (wsV RX7 53 RX7 yX7_saves wsX7_saves) := goodIn_app (goodIn_of _ (by decide +kernel)) ggX7_removeWord_X7_saves
theorem dX7_removeWord_0 : decode cX7_removeWord 0 = .ok (.aload_n 0, 1) := by decide +kernel
theorem dX7_removeWord_1 : decode cX7_removeWord 1 = .ok (.iload_n 1, 1) := by decide +kernel
theorem dX7_removeWord_2 : decode cX7_removeWord 2 = .ok (.invokevirtual 63, 3) := by decide +kernel
theorem dX7_removeWord_5 : decode cX7_removeWord 5 = .ok (.ifCond .ne 10, 3) := by decide +kernel
theorem dX7_removeWord_8 : decode cX7_removeWord 8 = .ok (.aload_n 0, 1) := by decide +kernel
theorem dX7_removeWord_9 : decode cX7_removeWord 9 = .ok (.bipush (-2), 2) := by decide +kernel
theorem dX7_removeWord_11 : decode cX7_removeWord 11 = .ok (.invokevirtual 45, 3) := by decide +kernel
theorem dX7_removeWord_14 : decode cX7_removeWord 14 = .ok (.ireturn, 1) := by decide +kernel
theorem dX7_removeWord_15 : decode cX7_removeWord 15 = .ok (.aload_n 0, 1) := by decide +kernel
theorem dX7_removeWord_16 : decode cX7_removeWord 16 = .ok (.invokevirtual 53, 3) := by decide +kernel
theorem dX7_removeWord_19 : decode cX7_removeWord 19 = .ok (.aload_n 0, 1) := by decide +kernel
theorem dX7_removeWord_20 : decode cX7_removeWord 20 = .ok (.getfield 7, 3) := by decide +kernel
theorem dX7_removeWord_23 : decode cX7_removeWord 23 = .ok (.bipush 17, 2) := by decide +kernel
theorem dX7_removeWord_25 : decode cX7_removeWord 25 = .ok (.dup2, 1) := by decide +kernel
theorem dX7_removeWord_26 : decode cX7_removeWord 26 = .ok (.iaload, 1) := by decide +kernel
theorem dX7_removeWord_27 : decode cX7_removeWord 27 = .ok (.iconst 1, 1) := by decide +kernel
theorem dX7_removeWord_28 : decode cX7_removeWord 28 = .ok (.isub, 1) := by decide +kernel
theorem dX7_removeWord_29 : decode cX7_removeWord 29 = .ok (.iastore, 1) := by decide +kernel
theorem dX7_removeWord_30 : decode cX7_removeWord 30 = .ok (.iload_n 1, 1) := by decide +kernel
theorem dX7_removeWord_31 : decode cX7_removeWord 31 = .ok (.istore_n 2, 1) := by decide +kernel
theorem dX7_removeWord_32 : decode cX7_removeWord 32 = .ok (.iload_n 2, 1) := by decide +kernel
theorem dX7_removeWord_33 : decode cX7_removeWord 33 = .ok (.aload_n 0, 1) := by decide +kernel
theorem dX7_removeWord_34 : decode cX7_removeWord 34 = .ok (.getfield 7, 3) := by decide +kernel
theorem dX7_removeWord_37 : decode cX7_removeWord 37 = .ok (.bipush 17, 2) := by decide +kernel
theorem dX7_removeWord_39 : decode cX7_removeWord 39 = .ok (.iaload, 1) := by decide +kernel
theorem dX7_removeWord_40 : decode cX7_removeWord 40 = .ok (.if_icmp .ge 114, 3) := by decide +kernel
theorem dX7_removeWord_43 : decode cX7_removeWord 43 = .ok (.aload_n 0, 1) := by decide +kernel
theorem dX7_removeWord_44 : decode cX7_removeWord 44 = .ok (.getfield 7, 3) := by decide +kernel
theorem dX7_removeWord_47 : decode cX7_removeWord 47 = .ok (.bipush 18, 2) := by decide +kernel
theorem dX7_removeWord_49 : decode cX7_removeWord 49 = .ok (.iload_n 2, 1) := by decide +kernel
theorem dX7_removeWord_50 : decode cX7_removeWord 50 = .ok (.iadd, 1) := by decide +kernel
theorem dX7_removeWord_51 : decode cX7_removeWord 51 = .ok (.aload_n 0, 1) := by decide +kernel
theorem dX7_removeWord_52 : decode cX7_removeWord 52 = .ok (.getfield 7, 3) := by decide +kernel
theorem dX7_removeWord_55 : decode cX7_removeWord 55 = .ok (.bipush 18, 2) := by decide +kernel
theorem dX7_removeWord_57 : decode cX7_removeWord 57 = .ok (.iload_n 2, 1) := by decide +kernel
theorem dX7_removeWord_58 : decode cX7_removeWord 58 = .ok (.iadd, 1) := by decide +kernel
theorem dX7_removeWord_59 : decode cX7_removeWord 59 = .ok (.iconst 1, 1) := by decide +kernel
theorem dX7_removeWord_60 : decode cX7_removeWord 60 = .ok (.iadd, 1) := by decide +kernel
theorem dX7_removeWord_61 : decode cX7_removeWord 61 = .ok (.iaload, 1) := by decide +kernel
theorem dX7_removeWord_62 : decode cX7_removeWord 62 = .ok (.iastore, 1) := by decide +kernel
theorem dX7_removeWord_63 : decode cX7_removeWord 63 = .ok (.aload_n 0, 1) := by decide +kernel
theorem dX7_removeWord_64 : decode cX7_removeWord 64 = .ok (.getfield 7, 3) := by decide +kernel
theorem dX7_removeWord_67 : decode cX7_removeWord 67 = .ok (.bipush 30, 2) := by decide +kernel
theorem dX7_removeWord_69 : decode cX7_removeWord 69 = .ok (.iload_n 2, 1) := by decide +kernel
theorem dX7_removeWord_70 : decode cX7_removeWord 70 = .ok (.iadd, 1) := by decide +kernel
theorem dX7_removeWord_71 : decode cX7_removeWord 71 = .ok (.aload_n 0, 1) := by decide +kernel
theorem dX7_removeWord_72 : decode cX7_removeWord 72 = .ok (.getfield 7, 3) := by decide +kernel
theorem dX7_removeWord_75 : decode cX7_removeWord 75 = .ok (.bipush 30, 2) := by decide +kernel
theorem dX7_removeWord_77 : decode cX7_removeWord 77 = .ok (.iload_n 2, 1) := by decide +kernel
theorem dX7_removeWord_78 : decode cX7_removeWord 78 = .ok (.iadd, 1) := by decide +kernel
theorem dX7_removeWord_79 : decode cX7_removeWord 79 = .ok (.iconst 1, 1) := by decide +kernel
theorem dX7_removeWord_80 : decode cX7_removeWord 80 = .ok (.iadd, 1) := by decide +kernel
theorem dX7_removeWord_81 : decode cX7_removeWord 81 = .ok (.iaload, 1) := by decide +kernel
theorem dX7_removeWord_82 : decode cX7_removeWord 82 = .ok (.iastore, 1) := by decide +kernel
theorem dX7_removeWord_83 : decode cX7_removeWord 83 = .ok (.aload_n 0, 1) := by decide +kernel
theorem dX7_removeWord_84 : decode cX7_removeWord 84 = .ok (.getfield 7, 3) := by decide +kernel
theorem dX7_removeWord_87 : decode cX7_removeWord 87 = .ok (.bipush 42, 2) := by decide +kernel
theorem dX7_removeWord_89 : decode cX7_removeWord 89 = .ok (.iload_n 2, 1) := by decide +kernel
theorem dX7_removeWord_90 : decode cX7_removeWord 90 = .ok (.iadd, 1) := by decide +kernel
theorem dX7_removeWord_91 : decode cX7_removeWord 91 = .ok (.aload_n 0, 1) := by decide +kernel
theorem dX7_removeWord_92 : decode cX7_removeWord 92 = .ok (.getfield 7, 3) := by decide +kernel
theorem dX7_removeWord_95 : decode cX7_removeWord 95 = .ok (.bipush 42, 2) := by decide +kernel
theorem dX7_removeWord_97 : decode cX7_removeWord 97 = .ok (.iload_n 2, 1) := by decide +kernel
theorem dX7_removeWord_98 : decode cX7_removeWord 98 = .ok (.iadd, 1) := by decide +kernel
theorem dX7_removeWord_99 : decode cX7_removeWord 99 = .ok (.iconst 1, 1) := by decide +kernel
theorem dX7_removeWord_100 : decode cX7_removeWord 100 = .ok (.iadd, 1) := by decide +kernel
theorem dX7_removeWord_101 : decode cX7_removeWord 101 = .ok (.iaload, 1) := by decide +kernel
theorem dX7_removeWord_102 : decode cX7_removeWord 102 = .ok (.iastore, 1) := by decide +kernel
theorem dX7_removeWord_103 : decode cX7_removeWord 103 = .ok (.iconst 0, 1) := by decide +kernel
theorem dX7_removeWord_104 : decode cX7_removeWord 104 = .ok (.istore_n 3, 1) := by decide +kernel
theorem dX7_removeWord_105 : decode cX7_removeWord 105 = .ok (.iload_n 3, 1) := by decide +kernel
theorem dX7_removeWord_106 : decode cX7_removeWord 106 = .ok (.bipush 8, 2) := by decide +kernel
theorem dX7_removeWord_108 : decode cX7_removeWord 108 = .ok (.if_icmp .ge 40, 3) := by decide +kernel
theorem dX7_removeWord_111 : decode cX7_removeWord 111 = .ok (.aload_n 0, 1) := by decide +kernel
theorem dX7_removeWord_112 : decode cX7_removeWord 112 = .ok (.getfield 7, 3) := by decide +kernel
theorem dX7_removeWord_115 : decode cX7_removeWord 115 = .ok (.bipush 54, 2) := by decide +kernel
theorem dX7_removeWord_117 : decode cX7_removeWord 117 = .ok (.bipush 8, 2) := by decide +kernel
theorem dX7_removeWord_119 : decode cX7_removeWord 119 = .ok (.iload_n 2, 1) := by decide +kernel
theorem dX7_removeWord_120 : decode cX7_removeWord 120 = .ok (.imul, 1) := by decide +kernel
theorem dX7_removeWord_121 : decode cX7_removeWord 121 = .ok (.iadd, 1) := by decide +kernel
theorem dX7_removeWord_122 : decode cX7_removeWord 122 = .ok (.iload_n 3, 1) := by decide +kernel
theorem dX7_removeWord_123 : decode cX7_removeWord 123 = .ok (.iadd, 1) := by decide +kernel
theorem dX7_removeWord_124 : decode cX7_removeWord 124 = .ok (.aload_n 0, 1) := by decide +kernel
theorem dX7_removeWord_125 : decode cX7_removeWord 125 = .ok (.getfield 7, 3) := by decide +kernel
theorem dX7_removeWord_128 : decode cX7_removeWord 128 = .ok (.bipush 54, 2) := by decide +kernel
theorem dX7_removeWord_130 : decode cX7_removeWord 130 = .ok (.bipush 8, 2) := by decide +kernel
theorem dX7_removeWord_132 : decode cX7_removeWord 132 = .ok (.iload_n 2, 1) := by decide +kernel
theorem dX7_removeWord_133 : decode cX7_removeWord 133 = .ok (.imul, 1) := by decide +kernel
theorem dX7_removeWord_134 : decode cX7_removeWord 134 = .ok (.iadd, 1) := by decide +kernel
theorem dX7_removeWord_135 : decode cX7_removeWord 135 = .ok (.bipush 8, 2) := by decide +kernel
theorem dX7_removeWord_137 : decode cX7_removeWord 137 = .ok (.iadd, 1) := by decide +kernel
theorem dX7_removeWord_138 : decode cX7_removeWord 138 = .ok (.iload_n 3, 1) := by decide +kernel
theorem dX7_removeWord_139 : decode cX7_removeWord 139 = .ok (.iadd, 1) := by decide +kernel
theorem dX7_removeWord_140 : decode cX7_removeWord 140 = .ok (.iaload, 1) := by decide +kernel
theorem dX7_removeWord_141 : decode cX7_removeWord 141 = .ok (.iastore, 1) := by decide +kernel
theorem dX7_removeWord_142 : decode cX7_removeWord 142 = .ok (.iinc 3 1, 3) := by decide +kernel
theorem dX7_removeWord_145 : decode cX7_removeWord 145 = .ok (.goto (-40), 3) := by decide +kernel
theorem dX7_removeWord_148 : decode cX7_removeWord 148 = .ok (.iinc 2 1, 3) := by decide +kernel
theorem dX7_removeWord_151 : decode cX7_removeWord 151 = .ok (.goto (-119), 3) := by decide +kernel
theorem dX7_removeWord_154 : decode cX7_removeWord 154 = .ok (.aload_n 0, 1) := by decide +kernel
theorem dX7_removeWord_155 : decode cX7_removeWord 155 = .ok (.getfield 7, 3) := by decide +kernel
theorem dX7_removeWord_158 : decode cX7_removeWord 158 = .ok (.bipush 17, 2) := by decide +kernel
theorem dX7_removeWord_160 : decode cX7_removeWord 160 = .ok (.iaload, 1) := by decide +kernel
theorem dX7_removeWord_161 : decode cX7_removeWord 161 = .ok (.ireturn, 1) := by decide +kernel
theorem dX7_words_0 : decode cX7_words 0 = .ok (.aload_n 0, 1) := by decide +kernel
theorem dX7_words_1 : decode cX7_words 1 = .ok (.getfield 7, 3) := by decide +kernel
theorem dX7_words_4 : decode cX7_words 4 = .ok (.bipush 17, 2) := by decide +kernel
theorem dX7_words_6 : decode cX7_words 6 = .ok (.iaload, 1) := by decide +kernel
theorem dX7_words_7 : decode cX7_words 7 = .ok (.ireturn, 1) := by decide +kernel
set_option maxRecDepth 20000 in
theorem ggX7_letters_X7_isWord : GoodIn wsX7_letters wsX7_isWord := goodIn_r _ [6, 1, 7, 8, 5, 9, 15, 16, 17, 18, 19, 20, 21, 22, 23, 24, 25, 26, 27, 28, 29, 30] (by decide +kernel) (by decide +kernel)
set_option maxRecDepth 20000 in
theorem gX7_letters_X7_isWord : GoodIn wsX7_letters (wsV RX7 63 RX7 yX7_isWord wsX7_isWord) := goodIn_app (goodIn_of _ (by decide +kernel)) ggX7_letters_X7_isWord
set_option maxRecDepth 20000 in
theorem ggX7_letters_X7_fails : GoodIn wsX7_letters wsX7_fails := goodIn_r _ [13, 14, 15, 16, 17, 18, 19, 20, 21, 22, 23, 24, 25, 26, 27, 28, 29, 30] (by decide +kernel) (by decide +kernel)
set_option maxRecDepth 20000 in
theorem gX7_letters_X7_fails : GoodIn wsX7_letters (wsV RX7 45 RX7 yX7_fails wsX7_fails) := goodIn_app (goodIn_of _ (by decide +kernel)) ggX7_letters_X7_fails
theorem dX7_letters_0 : decode cX7_letters 0 = .ok (.aload_n 0, 1) := by decide +kernel
theorem dX7_letters_1 : decode cX7_letters 1 = .ok (.iload_n 1, 1) := by decide +kernel
theorem dX7_letters_2 : decode cX7_letters 2 = .ok (.invokevirtual 63, 3) := by decide +kernel
theorem dX7_letters_5 : decode cX7_letters 5 = .ok (.ifCond .eq 15, 3) := by decide +kernel
theorem dX7_letters_8 : decode cX7_letters 8 = .ok (.aload_n 0, 1) := by decide +kernel
theorem dX7_letters_9 : decode cX7_letters 9 = .ok (.getfield 7, 3) := by decide +kernel
theorem dX7_letters_12 : decode cX7_letters 12 = .ok (.bipush 18, 2) := by decide +kernel
theorem dX7_letters_14 : decode cX7_letters 14 = .ok (.iload_n 1, 1) := by decide +kernel
theorem dX7_letters_15 : decode cX7_letters 15 = .ok (.iadd, 1) := by decide +kernel
theorem dX7_letters_16 : decode cX7_letters 16 = .ok (.iaload, 1) := by decide +kernel
theorem dX7_letters_17 : decode cX7_letters 17 = .ok (.goto 9, 3) := by decide +kernel
theorem dX7_letters_20 : decode cX7_letters 20 = .ok (.aload_n 0, 1) := by decide +kernel
theorem dX7_letters_21 : decode cX7_letters 21 = .ok (.bipush (-2), 2) := by decide +kernel
theorem dX7_letters_23 : decode cX7_letters 23 = .ok (.invokevirtual 45, 3) := by decide +kernel
theorem dX7_letters_26 : decode cX7_letters 26 = .ok (.ireturn, 1) := by decide +kernel
set_option maxRecDepth 20000 in
theorem ggX7_frequency_X7_isWord : GoodIn wsX7_frequency wsX7_isWord := goodIn_r _ [6, 1, 7, 8, 5, 9, 15, 16, 17, 18, 19, 20, 21, 22, 23, 24, 25, 26, 27, 28, 29, 30] (by decide +kernel) (by decide +kernel)
set_option maxRecDepth 20000 in
theorem gX7_frequency_X7_isWord : GoodIn wsX7_frequency (wsV RX7 63 RX7 yX7_isWord wsX7_isWord) := goodIn_app (goodIn_of _ (by decide +kernel)) ggX7_frequency_X7_isWord
set_option maxRecDepth 20000 in
theorem ggX7_frequency_X7_fails : GoodIn wsX7_frequency wsX7_fails := goodIn_r _ [13, 14, 15, 16, 17, 18, 19, 20, 21, 22, 23, 24, 25, 26, 27, 28, 29, 30] (by decide +kernel) (by decide +kernel)
set_option maxRecDepth 20000 in
theorem gX7_frequency_X7_fails : GoodIn wsX7_frequency (wsV RX7 45 RX7 yX7_fails wsX7_fails) := goodIn_app (goodIn_of _ (by decide +kernel)) ggX7_frequency_X7_fails
theorem dX7_frequency_0 : decode cX7_frequency 0 = .ok (.aload_n 0, 1) := by decide +kernel
theorem dX7_frequency_1 : decode cX7_frequency 1 = .ok (.iload_n 1, 1) := by decide +kernel
theorem dX7_frequency_2 : decode cX7_frequency 2 = .ok (.invokevirtual 63, 3) := by decide +kernel
theorem dX7_frequency_5 : decode cX7_frequency 5 = .ok (.ifCond .eq 15, 3) := by decide +kernel
theorem dX7_frequency_8 : decode cX7_frequency 8 = .ok (.aload_n 0, 1) := by decide +kernel
theorem dX7_frequency_9 : decode cX7_frequency 9 = .ok (.getfield 7, 3) := by decide +kernel
theorem dX7_frequency_12 : decode cX7_frequency 12 = .ok (.bipush 30, 2) := by decide +kernel
theorem dX7_frequency_14 : decode cX7_frequency 14 = .ok (.iload_n 1, 1) := by decide +kernel
theorem dX7_frequency_15 : decode cX7_frequency 15 = .ok (.iadd, 1) := by decide +kernel
theorem dX7_frequency_16 : decode cX7_frequency 16 = .ok (.iaload, 1) := by decide +kernel
theorem dX7_frequency_17 : decode cX7_frequency 17 = .ok (.goto 9, 3) := by decide +kernel
theorem dX7_frequency_20 : decode cX7_frequency 20 = .ok (.aload_n 0, 1) := by decide +kernel
theorem dX7_frequency_21 : decode cX7_frequency 21 = .ok (.bipush (-2), 2) := by decide +kernel
theorem dX7_frequency_23 : decode cX7_frequency 23 = .ok (.invokevirtual 45, 3) := by decide +kernel
theorem dX7_frequency_26 : decode cX7_frequency 26 = .ok (.ireturn, 1) := by decide +kernel
theorem dX7_turn_0 : decode cX7_turn 0 = .ok (.iload_n 0, 1) := by decide +kernel
theorem dX7_turn_1 : decode cX7_turn 1 = .ok (.iconst 3, 1) := by decide +kernel
theorem dX7_turn_2 : decode cX7_turn 2 = .ok (.idiv, 1) := by decide +kernel
theorem dX7_turn_3 : decode cX7_turn 3 = .ok (.iload_n 1, 1) := by decide +kernel
theorem dX7_turn_4 : decode cX7_turn 4 = .ok (.iconst 3, 1) := by decide +kernel
theorem dX7_turn_5 : decode cX7_turn 5 = .ok (.idiv, 1) := by decide +kernel
theorem dX7_turn_6 : decode cX7_turn 6 = .ok (.isub, 1) := by decide +kernel
theorem dX7_turn_7 : decode cX7_turn 7 = .ok (.bipush 8, 2) := by decide +kernel
theorem dX7_turn_9 : decode cX7_turn 9 = .ok (.iadd, 1) := by decide +kernel
theorem dX7_turn_10 : decode cX7_turn 10 = .ok (.bipush 8, 2) := by decide +kernel
theorem dX7_turn_12 : decode cX7_turn 12 = .ok (.irem, 1) := by decide +kernel
theorem dX7_turn_13 : decode cX7_turn 13 = .ok (.istore_n 2, 1) := by decide +kernel
theorem dX7_turn_14 : decode cX7_turn 14 = .ok (.iload_n 2, 1) := by decide +kernel
theorem dX7_turn_15 : decode cX7_turn 15 = .ok (.iconst 4, 1) := by decide +kernel
theorem dX7_turn_16 : decode cX7_turn 16 = .ok (.if_icmp .le 10, 3) := by decide +kernel
theorem dX7_turn_19 : decode cX7_turn 19 = .ok (.bipush 8, 2) := by decide +kernel
theorem dX7_turn_21 : decode cX7_turn 21 = .ok (.iload_n 2, 1) := by decide +kernel
theorem dX7_turn_22 : decode cX7_turn 22 = .ok (.isub, 1) := by decide +kernel
theorem dX7_turn_23 : decode cX7_turn 23 = .ok (.goto 4, 3) := by decide +kernel
theorem dX7_turn_26 : decode cX7_turn 26 = .ok (.iload_n 2, 1) := by decide +kernel
theorem dX7_turn_27 : decode cX7_turn 27 = .ok (.ireturn, 1) := by decide +kernel
set_option maxRecDepth 20000 in
theorem ggX7_joins_X7_turn : GoodIn wsX7_joins wsX7_turn := goodIn_r _ [4] (by decide +kernel) (by decide +kernel)
set_option maxRecDepth 20000 in
theorem gX7_joins_X7_turn : GoodIn wsX7_joins (va_wsS RX7 66 yX7_turn wsX7_turn) := goodIn_app (goodIn_of _ (by decide +kernel)) ggX7_joins_X7_turn
theorem dX7_joins_0 : decode cX7_joins 0 = .ok (.iload_n 0, 1) := by decide +kernel
theorem dX7_joins_1 : decode cX7_joins 1 = .ok (.iload_n 1, 1) := by decide +kernel
theorem dX7_joins_2 : decode cX7_joins 2 = .ok (.invokestatic 66, 3) := by decide +kernel
theorem dX7_joins_5 : decode cX7_joins 5 = .ok (.iload_n 0, 1) := by decide +kernel
theorem dX7_joins_6 : decode cX7_joins 6 = .ok (.iload_n 1, 1) := by decide +kernel
theorem dX7_joins_7 : decode cX7_joins 7 = .ok (.if_icmp .ne 7, 3) := by decide +kernel
theorem dX7_joins_10 : decode cX7_joins 10 = .ok (.iconst 3, 1) := by decide +kernel
theorem dX7_joins_11 : decode cX7_joins 11 = .ok (.goto 4, 3) := by decide +kernel
theorem dX7_joins_14 : decode cX7_joins 14 = .ok (.iconst 0, 1) := by decide +kernel
theorem dX7_joins_15 : decode cX7_joins 15 = .ok (.iadd, 1) := by decide +kernel
theorem dX7_joins_16 : decode cX7_joins 16 = .ok (.ireturn, 1) := by decide +kernel
theorem dX7_laysSounds_0 : decode cX7_laysSounds 0 = .ok (.aload_n 0, 1) := by decide +kernel
theorem dX7_laysSounds_1 : decode cX7_laysSounds 1 = .ok (.iconst 0, 1) := by decide +kernel
theorem dX7_laysSounds_2 : decode cX7_laysSounds 2 = .ok (.putfield 70, 3) := by decide +kernel
theorem dX7_laysSounds_5 : decode cX7_laysSounds 5 = .ok (.iconst 0, 1) := by decide +kernel
theorem dX7_laysSounds_6 : decode cX7_laysSounds 6 = .ok (.istore_n 2, 1) := by decide +kernel
theorem dX7_laysSounds_7 : decode cX7_laysSounds 7 = .ok (.iload_n 2, 1) := by decide +kernel
theorem dX7_laysSounds_8 : decode cX7_laysSounds 8 = .ok (.aload_n 0, 1) := by decide +kernel
theorem dX7_laysSounds_9 : decode cX7_laysSounds 9 = .ok (.getfield 7, 3) := by decide +kernel
theorem dX7_laysSounds_12 : decode cX7_laysSounds 12 = .ok (.bipush 18, 2) := by decide +kernel
theorem dX7_laysSounds_14 : decode cX7_laysSounds 14 = .ok (.iload_n 1, 1) := by decide +kernel
theorem dX7_laysSounds_15 : decode cX7_laysSounds 15 = .ok (.iadd, 1) := by decide +kernel
theorem dX7_laysSounds_16 : decode cX7_laysSounds 16 = .ok (.iaload, 1) := by decide +kernel
theorem dX7_laysSounds_17 : decode cX7_laysSounds 17 = .ok (.if_icmp .ge 61, 3) := by decide +kernel
theorem dX7_laysSounds_20 : decode cX7_laysSounds 20 = .ok (.aload_n 0, 1) := by decide +kernel
theorem dX7_laysSounds_21 : decode cX7_laysSounds 21 = .ok (.getfield 7, 3) := by decide +kernel
theorem dX7_laysSounds_24 : decode cX7_laysSounds 24 = .ok (.bipush 54, 2) := by decide +kernel
theorem dX7_laysSounds_26 : decode cX7_laysSounds 26 = .ok (.bipush 8, 2) := by decide +kernel
theorem dX7_laysSounds_28 : decode cX7_laysSounds 28 = .ok (.iload_n 1, 1) := by decide +kernel
theorem dX7_laysSounds_29 : decode cX7_laysSounds 29 = .ok (.imul, 1) := by decide +kernel
theorem dX7_laysSounds_30 : decode cX7_laysSounds 30 = .ok (.iadd, 1) := by decide +kernel
theorem dX7_laysSounds_31 : decode cX7_laysSounds 31 = .ok (.iload_n 2, 1) := by decide +kernel
theorem dX7_laysSounds_32 : decode cX7_laysSounds 32 = .ok (.iadd, 1) := by decide +kernel
theorem dX7_laysSounds_33 : decode cX7_laysSounds 33 = .ok (.iaload, 1) := by decide +kernel
theorem dX7_laysSounds_34 : decode cX7_laysSounds 34 = .ok (.istore_n 3, 1) := by decide +kernel
theorem dX7_laysSounds_35 : decode cX7_laysSounds 35 = .ok (.iload_n 2, 1) := by decide +kernel
theorem dX7_laysSounds_36 : decode cX7_laysSounds 36 = .ok (.ifCond .eq 16, 3) := by decide +kernel
theorem dX7_laysSounds_39 : decode cX7_laysSounds 39 = .ok (.aload_n 0, 1) := by decide +kernel
theorem dX7_laysSounds_40 : decode cX7_laysSounds 40 = .ok (.getfield 7, 3) := by decide +kernel
theorem dX7_laysSounds_43 : decode cX7_laysSounds 43 = .ok (.iconst 0, 1) := by decide +kernel
theorem dX7_laysSounds_44 : decode cX7_laysSounds 44 = .ok (.iaload, 1) := by decide +kernel
theorem dX7_laysSounds_45 : decode cX7_laysSounds 45 = .ok (.iload_n 3, 1) := by decide +kernel
theorem dX7_laysSounds_46 : decode cX7_laysSounds 46 = .ok (.ishr, 1) := by decide +kernel
theorem dX7_laysSounds_47 : decode cX7_laysSounds 47 = .ok (.iconst 1, 1) := by decide +kernel
theorem dX7_laysSounds_48 : decode cX7_laysSounds 48 = .ok (.iand, 1) := by decide +kernel
theorem dX7_laysSounds_49 : decode cX7_laysSounds 49 = .ok (.ifCond .ne 23, 3) := by decide +kernel
theorem dX7_laysSounds_52 : decode cX7_laysSounds 52 = .ok (.aload_n 0, 1) := by decide +kernel
theorem dX7_laysSounds_53 : decode cX7_laysSounds 53 = .ok (.getfield 25, 3) := by decide +kernel
theorem dX7_laysSounds_56 : decode cX7_laysSounds 56 = .ok (.aload_n 0, 1) := by decide +kernel
theorem dX7_laysSounds_57 : decode cX7_laysSounds 57 = .ok (.getfield 70, 3) := by decide +kernel
theorem dX7_laysSounds_60 : decode cX7_laysSounds 60 = .ok (.iload_n 3, 1) := by decide +kernel
theorem dX7_laysSounds_61 : decode cX7_laysSounds 61 = .ok (.iastore, 1) := by decide +kernel
theorem dX7_laysSounds_62 : decode cX7_laysSounds 62 = .ok (.aload_n 0, 1) := by decide +kernel
theorem dX7_laysSounds_63 : decode cX7_laysSounds 63 = .ok (.dup, 1) := by decide +kernel
theorem dX7_laysSounds_64 : decode cX7_laysSounds 64 = .ok (.getfield 70, 3) := by decide +kernel
theorem dX7_laysSounds_67 : decode cX7_laysSounds 67 = .ok (.iconst 1, 1) := by decide +kernel
theorem dX7_laysSounds_68 : decode cX7_laysSounds 68 = .ok (.iadd, 1) := by decide +kernel
theorem dX7_laysSounds_69 : decode cX7_laysSounds 69 = .ok (.putfield 70, 3) := by decide +kernel
theorem dX7_laysSounds_72 : decode cX7_laysSounds 72 = .ok (.iinc 2 1, 3) := by decide +kernel
theorem dX7_laysSounds_75 : decode cX7_laysSounds 75 = .ok (.goto (-68), 3) := by decide +kernel
theorem dX7_laysSounds_78 : decode cX7_laysSounds 78 = .ok (.return_, 1) := by decide +kernel
theorem dX7_strokeOf_0 : decode cX7_strokeOf 0 = .ok (.iload_n 1, 1) := by decide +kernel
theorem dX7_strokeOf_1 : decode cX7_strokeOf 1 = .ok (.aload_n 0, 1) := by decide +kernel
theorem dX7_strokeOf_2 : decode cX7_strokeOf 2 = .ok (.getfield 70, 3) := by decide +kernel
theorem dX7_strokeOf_5 : decode cX7_strokeOf 5 = .ok (.iconst 1, 1) := by decide +kernel
theorem dX7_strokeOf_6 : decode cX7_strokeOf 6 = .ok (.isub, 1) := by decide +kernel
theorem dX7_strokeOf_7 : decode cX7_strokeOf 7 = .ok (.iload_n 2, 1) := by decide +kernel
theorem dX7_strokeOf_8 : decode cX7_strokeOf 8 = .ok (.isub, 1) := by decide +kernel
theorem dX7_strokeOf_9 : decode cX7_strokeOf 9 = .ok (.ishr, 1) := by decide +kernel
theorem dX7_strokeOf_10 : decode cX7_strokeOf 10 = .ok (.iconst 1, 1) := by decide +kernel
theorem dX7_strokeOf_11 : decode cX7_strokeOf 11 = .ok (.iand, 1) := by decide +kernel
theorem dX7_strokeOf_12 : decode cX7_strokeOf 12 = .ok (.iconst 1, 1) := by decide +kernel
theorem dX7_strokeOf_13 : decode cX7_strokeOf 13 = .ok (.if_icmp .ne 7, 3) := by decide +kernel
theorem dX7_strokeOf_16 : decode cX7_strokeOf 16 = .ok (.iconst 1, 1) := by decide +kernel
theorem dX7_strokeOf_17 : decode cX7_strokeOf 17 = .ok (.goto 4, 3) := by decide +kernel
theorem dX7_strokeOf_20 : decode cX7_strokeOf 20 = .ok (.iconst 0, 1) := by decide +kernel
theorem dX7_strokeOf_21 : decode cX7_strokeOf 21 = .ok (.istore_n 3, 1) := by decide +kernel
theorem dX7_strokeOf_22 : decode cX7_strokeOf 22 = .ok (.aload_n 0, 1) := by decide +kernel
theorem dX7_strokeOf_23 : decode cX7_strokeOf 23 = .ok (.getfield 7, 3) := by decide +kernel
theorem dX7_strokeOf_26 : decode cX7_strokeOf 26 = .ok (.iload_n 3, 1) := by decide +kernel
theorem dX7_strokeOf_27 : decode cX7_strokeOf 27 = .ok (.ifCond .eq 8, 3) := by decide +kernel
theorem dX7_strokeOf_30 : decode cX7_strokeOf 30 = .ok (.bipush 9, 2) := by decide +kernel
theorem dX7_strokeOf_32 : decode cX7_strokeOf 32 = .ok (.goto 4, 3) := by decide +kernel
theorem dX7_strokeOf_35 : decode cX7_strokeOf 35 = .ok (.iconst 1, 1) := by decide +kernel
theorem dX7_strokeOf_36 : decode cX7_strokeOf 36 = .ok (.aload_n 0, 1) := by decide +kernel
theorem dX7_strokeOf_37 : decode cX7_strokeOf 37 = .ok (.getfield 25, 3) := by decide +kernel
theorem dX7_strokeOf_40 : decode cX7_strokeOf 40 = .ok (.iload_n 2, 1) := by decide +kernel
theorem dX7_strokeOf_41 : decode cX7_strokeOf 41 = .ok (.iaload, 1) := by decide +kernel
theorem dX7_strokeOf_42 : decode cX7_strokeOf 42 = .ok (.iadd, 1) := by decide +kernel
theorem dX7_strokeOf_43 : decode cX7_strokeOf 43 = .ok (.iaload, 1) := by decide +kernel
theorem dX7_strokeOf_44 : decode cX7_strokeOf 44 = .ok (.ireturn, 1) := by decide +kernel
set_option maxRecDepth 20000 in
theorem ggX7_isChoice_X7_strokeOf : GoodIn wsX7_isChoice wsX7_strokeOf := goodIn_r _ [6, 1, 7, 8, 9, 10, 11, 12, 13, 14, 15, 16, 17, 18, 19, 20, 21, 22, 23, 24] (by decide +kernel) (by decide +kernel)
set_option maxRecDepth 20000 in
theorem gX7_isChoice_X7_strokeOf : GoodIn wsX7_isChoice (wsV RX7 73 RX7 yX7_strokeOf wsX7_strokeOf) := goodIn_app (goodIn_of _ (by decide +kernel)) ggX7_isChoice_X7_strokeOf
theorem dX7_isChoice_0 : decode cX7_isChoice 0 = .ok (.iconst 1, 1) := by decide +kernel
theorem dX7_isChoice_1 : decode cX7_isChoice 1 = .ok (.istore_n 2, 1) := by decide +kernel
theorem dX7_isChoice_2 : decode cX7_isChoice 2 = .ok (.iconst 0, 1) := by decide +kernel
theorem dX7_isChoice_3 : decode cX7_isChoice 3 = .ok (.istore_n 3, 1) := by decide +kernel
theorem dX7_isChoice_4 : decode cX7_isChoice 4 = .ok (.iload_n 3, 1) := by decide +kernel
theorem dX7_isChoice_5 : decode cX7_isChoice 5 = .ok (.aload_n 0, 1) := by decide +kernel
theorem dX7_isChoice_6 : decode cX7_isChoice 6 = .ok (.getfield 70, 3) := by decide +kernel
theorem dX7_isChoice_9 : decode cX7_isChoice 9 = .ok (.if_icmp .ge 29, 3) := by decide +kernel
theorem dX7_isChoice_12 : decode cX7_isChoice 12 = .ok (.iload_n 2, 1) := by decide +kernel
theorem dX7_isChoice_13 : decode cX7_isChoice 13 = .ok (.ifCond .eq 17, 3) := by decide +kernel
theorem dX7_isChoice_16 : decode cX7_isChoice 16 = .ok (.aload_n 0, 1) := by decide +kernel
theorem dX7_isChoice_17 : decode cX7_isChoice 17 = .ok (.iload_n 1, 1) := by decide +kernel
theorem dX7_isChoice_18 : decode cX7_isChoice 18 = .ok (.iload_n 3, 1) := by decide +kernel
theorem dX7_isChoice_19 : decode cX7_isChoice 19 = .ok (.invokevirtual 73, 3) := by decide +kernel
theorem dX7_isChoice_22 : decode cX7_isChoice 22 = .ok (.iconst (-1), 1) := by decide +kernel
theorem dX7_isChoice_23 : decode cX7_isChoice 23 = .ok (.if_icmp .eq 7, 3) := by decide +kernel
theorem dX7_isChoice_26 : decode cX7_isChoice 26 = .ok (.iconst 1, 1) := by decide +kernel
theorem dX7_isChoice_27 : decode cX7_isChoice 27 = .ok (.goto 4, 3) := by decide +kernel
theorem dX7_isChoice_30 : decode cX7_isChoice 30 = .ok (.iconst 0, 1) := by decide +kernel
theorem dX7_isChoice_31 : decode cX7_isChoice 31 = .ok (.istore_n 2, 1) := by decide +kernel
theorem dX7_isChoice_32 : decode cX7_isChoice 32 = .ok (.iinc 3 1, 3) := by decide +kernel
theorem dX7_isChoice_35 : decode cX7_isChoice 35 = .ok (.goto (-31), 3) := by decide +kernel
theorem dX7_isChoice_38 : decode cX7_isChoice 38 = .ok (.iload_n 2, 1) := by decide +kernel
theorem dX7_isChoice_39 : decode cX7_isChoice 39 = .ok (.ireturn, 1) := by decide +kernel
set_option maxRecDepth 20000 in
theorem ggX7_costOf_X7_strokeOf : GoodIn wsX7_costOf wsX7_strokeOf := goodIn_r _ [6, 1, 7, 8, 15, 16, 17, 18, 19, 20, 21, 22, 23, 24, 25, 26, 27, 28, 29, 30] (by decide +kernel) (by decide +kernel)
set_option maxRecDepth 20000 in
theorem gX7_costOf_X7_strokeOf : GoodIn wsX7_costOf (wsV RX7 73 RX7 yX7_strokeOf wsX7_strokeOf) := goodIn_app (goodIn_of _ (by decide +kernel)) ggX7_costOf_X7_strokeOf
set_option maxRecDepth 20000 in
theorem ggX7_costOf_X7_joins : GoodIn wsX7_costOf wsX7_joins := goodIn_r _ [11, 12, 13, 5, 14] (by decide +kernel) (by decide +kernel)
set_option maxRecDepth 20000 in
theorem gX7_costOf_X7_joins : GoodIn wsX7_costOf (va_wsS RX7 76 yX7_joins wsX7_joins) := goodIn_app (goodIn_of _ (by decide +kernel)) ggX7_costOf_X7_joins
theorem dX7_costOf_0 : decode cX7_costOf 0 = .ok (.iconst 0, 1) := by decide +kernel
theorem dX7_costOf_1 : decode cX7_costOf 1 = .ok (.istore_n 2, 1) := by decide +kernel
theorem dX7_costOf_2 : decode cX7_costOf 2 = .ok (.iconst 1, 1) := by decide +kernel
theorem dX7_costOf_3 : decode cX7_costOf 3 = .ok (.istore_n 3, 1) := by decide +kernel
theorem dX7_costOf_4 : decode cX7_costOf 4 = .ok (.iload_n 3, 1) := by decide +kernel
theorem dX7_costOf_5 : decode cX7_costOf 5 = .ok (.aload_n 0, 1) := by decide +kernel
theorem dX7_costOf_6 : decode cX7_costOf 6 = .ok (.getfield 70, 3) := by decide +kernel
theorem dX7_costOf_9 : decode cX7_costOf 9 = .ok (.if_icmp .ge 29, 3) := by decide +kernel
theorem dX7_costOf_12 : decode cX7_costOf 12 = .ok (.iload_n 2, 1) := by decide +kernel
theorem dX7_costOf_13 : decode cX7_costOf 13 = .ok (.aload_n 0, 1) := by decide +kernel
theorem dX7_costOf_14 : decode cX7_costOf 14 = .ok (.iload_n 1, 1) := by decide +kernel
theorem dX7_costOf_15 : decode cX7_costOf 15 = .ok (.iload_n 3, 1) := by decide +kernel
theorem dX7_costOf_16 : decode cX7_costOf 16 = .ok (.iconst 1, 1) := by decide +kernel
theorem dX7_costOf_17 : decode cX7_costOf 17 = .ok (.isub, 1) := by decide +kernel
theorem dX7_costOf_18 : decode cX7_costOf 18 = .ok (.invokevirtual 73, 3) := by decide +kernel
theorem dX7_costOf_21 : decode cX7_costOf 21 = .ok (.aload_n 0, 1) := by decide +kernel
theorem dX7_costOf_22 : decode cX7_costOf 22 = .ok (.iload_n 1, 1) := by decide +kernel
theorem dX7_costOf_23 : decode cX7_costOf 23 = .ok (.iload_n 3, 1) := by decide +kernel
theorem dX7_costOf_24 : decode cX7_costOf 24 = .ok (.invokevirtual 73, 3) := by decide +kernel
theorem dX7_costOf_27 : decode cX7_costOf 27 = .ok (.invokestatic 76, 3) := by decide +kernel
theorem dX7_costOf_30 : decode cX7_costOf 30 = .ok (.iadd, 1) := by decide +kernel
theorem dX7_costOf_31 : decode cX7_costOf 31 = .ok (.istore_n 2, 1) := by decide +kernel
theorem dX7_costOf_32 : decode cX7_costOf 32 = .ok (.iinc 3 1, 3) := by decide +kernel
theorem dX7_costOf_35 : decode cX7_costOf 35 = .ok (.goto (-31), 3) := by decide +kernel
theorem dX7_costOf_38 : decode cX7_costOf 38 = .ok (.iload_n 2, 1) := by decide +kernel
theorem dX7_costOf_39 : decode cX7_costOf 39 = .ok (.ireturn, 1) := by decide +kernel
set_option maxRecDepth 20000 in
theorem ggX7_written_X7_laysSounds : GoodIn wsX7_written wsX7_laysSounds := goodIn_r _ [6, 1, 7, 8, 27, 28, 29, 30, 31, 32, 33, 34, 35, 36, 37, 38, 39, 40, 41, 42] (by decide +kernel) (by decide +kernel)
set_option maxRecDepth 20000 in
theorem gX7_written_X7_laysSounds : GoodIn wsX7_written (wsV RX7 79 RX7 yX7_laysSounds wsX7_laysSounds) := goodIn_app (goodIn_of _ (by decide +kernel)) ggX7_written_X7_laysSounds
set_option maxRecDepth 20000 in
theorem ggX7_written_X7_isChoice : GoodIn wsX7_written wsX7_isChoice := goodIn_r _ [12, 1, 13, 14, 15, 5, 16, 7, 8, 27, 28, 29, 30, 31, 32, 33, 34, 35, 36, 37, 38, 39, 40, 41, 42] (by decide +kernel) (by decide +kernel)
set_option maxRecDepth 20000 in
theorem gX7_written_X7_isChoice : GoodIn wsX7_written (wsV RX7 83 RX7 yX7_isChoice wsX7_isChoice) := goodIn_app (goodIn_of _ (by decide +kernel)) ggX7_written_X7_isChoice
set_option maxRecDepth 20000 in
theorem ggX7_written_X7_costOf : GoodIn wsX7_written wsX7_costOf := goodIn_r _ [20, 1, 13, 14, 15, 5, 16, 7, 8, 21, 22, 23, 24, 25, 26, 27, 28, 29, 30, 31, 32, 33, 34, 35, 36, 37, 38, 39, 40, 41, 42] (by decide +kernel) (by decide +kernel)
set_option maxRecDepth 20000 in
theorem gX7_written_X7_costOf : GoodIn wsX7_written (wsV RX7 86 RX7 yX7_costOf wsX7_costOf) := goodIn_app (goodIn_of _ (by decide +kernel)) ggX7_written_X7_costOf
theorem dX7_written_0 : decode cX7_written 0 = .ok (.aload_n 0, 1) := by decide +kernel
theorem dX7_written_1 : decode cX7_written 1 = .ok (.iload_n 1, 1) := by decide +kernel
theorem dX7_written_2 : decode cX7_written 2 = .ok (.invokevirtual 79, 3) := by decide +kernel
theorem dX7_written_5 : decode cX7_written 5 = .ok (.iconst 0, 1) := by decide +kernel
theorem dX7_written_6 : decode cX7_written 6 = .ok (.istore_n 2, 1) := by decide +kernel
theorem dX7_written_7 : decode cX7_written 7 = .ok (.iconst 1, 1) := by decide +kernel
theorem dX7_written_8 : decode cX7_written 8 = .ok (.istore_n 3, 1) := by decide +kernel
theorem dX7_written_9 : decode cX7_written 9 = .ok (.iload_n 3, 1) := by decide +kernel
theorem dX7_written_10 : decode cX7_written 10 = .ok (.iconst 1, 1) := by decide +kernel
theorem dX7_written_11 : decode cX7_written 11 = .ok (.aload_n 0, 1) := by decide +kernel
theorem dX7_written_12 : decode cX7_written 12 = .ok (.getfield 70, 3) := by decide +kernel
theorem dX7_written_15 : decode cX7_written 15 = .ok (.ishl, 1) := by decide +kernel
theorem dX7_written_16 : decode cX7_written 16 = .ok (.if_icmp .ge 36, 3) := by decide +kernel
theorem dX7_written_19 : decode cX7_written 19 = .ok (.aload_n 0, 1) := by decide +kernel
theorem dX7_written_20 : decode cX7_written 20 = .ok (.iload_n 3, 1) := by decide +kernel
theorem dX7_written_21 : decode cX7_written 21 = .ok (.invokevirtual 83, 3) := by decide +kernel
theorem dX7_written_24 : decode cX7_written 24 = .ok (.ifCond .eq 20, 3) := by decide +kernel
theorem dX7_written_27 : decode cX7_written 27 = .ok (.aload_n 0, 1) := by decide +kernel
theorem dX7_written_28 : decode cX7_written 28 = .ok (.iload_n 3, 1) := by decide +kernel
theorem dX7_written_29 : decode cX7_written 29 = .ok (.invokevirtual 86, 3) := by decide +kernel
theorem dX7_written_32 : decode cX7_written 32 = .ok (.aload_n 0, 1) := by decide +kernel
theorem dX7_written_33 : decode cX7_written 33 = .ok (.iload_n 2, 1) := by decide +kernel
theorem dX7_written_34 : decode cX7_written 34 = .ok (.invokevirtual 86, 3) := by decide +kernel
theorem dX7_written_37 : decode cX7_written 37 = .ok (.if_icmp .ge 7, 3) := by decide +kernel
theorem dX7_written_40 : decode cX7_written 40 = .ok (.iload_n 3, 1) := by decide +kernel
theorem dX7_written_41 : decode cX7_written 41 = .ok (.goto 4, 3) := by decide +kernel
theorem dX7_written_44 : decode cX7_written 44 = .ok (.iload_n 2, 1) := by decide +kernel
