theorem dX0_init_0 : decode cX0_init 0 = .ok (.aload_n 0, 1) := by decide +kernel
theorem dX0_init_1 : decode cX0_init 1 = .ok (.invokespecial 3, 3) := by decide +kernel
theorem dX0_init_4 : decode cX0_init 4 = .ok (.aload_n 0, 1) := by decide +kernel
theorem dX0_init_5 : decode cX0_init 5 = .ok (.iconst 5, 1) := by decide +kernel
theorem dX0_init_6 : decode cX0_init 6 = .ok (.anewarray 9, 3) := by decide +kernel
theorem dX0_init_9 : decode cX0_init 9 = .ok (.putfield 11, 3) := by decide +kernel
theorem dX0_init_12 : decode cX0_init 12 = .ok (.aload_n 0, 1) := by decide +kernel
theorem dX0_init_13 : decode cX0_init 13 = .ok (.iconst 0, 1) := by decide +kernel
theorem dX0_init_14 : decode cX0_init 14 = .ok (.putfield 17, 3) := by decide +kernel
theorem dX0_init_17 : decode cX0_init 17 = .ok (.iconst 0, 1) := by decide +kernel
theorem dX0_init_18 : decode cX0_init 18 = .ok (.istore_n 1, 1) := by decide +kernel
theorem dX0_init_19 : decode cX0_init 19 = .ok (.iload_n 1, 1) := by decide +kernel
theorem dX0_init_20 : decode cX0_init 20 = .ok (.iconst 5, 1) := by decide +kernel
theorem dX0_init_21 : decode cX0_init 21 = .ok (.if_icmp .ge 22, 3) := by decide +kernel
theorem dX0_init_24 : decode cX0_init 24 = .ok (.aload_n 0, 1) := by decide +kernel
theorem dX0_init_25 : decode cX0_init 25 = .ok (.getfield 11, 3) := by decide +kernel
theorem dX0_init_28 : decode cX0_init 28 = .ok (.iload_n 1, 1) := by decide +kernel
theorem dX0_init_29 : decode cX0_init 29 = .ok (.new 9, 3) := by decide +kernel
theorem dX0_init_32 : decode cX0_init 32 = .ok (.dup, 1) := by decide +kernel
theorem dX0_init_33 : decode cX0_init 33 = .ok (.invokespecial 21, 3) := by decide +kernel
theorem dX0_init_36 : decode cX0_init 36 = .ok (.aastore, 1) := by decide +kernel
theorem dX0_init_37 : decode cX0_init 37 = .ok (.iinc 1 1, 3) := by decide +kernel
theorem dX0_init_40 : decode cX0_init 40 = .ok (.goto (-21), 3) := by decide +kernel
theorem dX0_init_43 : decode cX0_init 43 = .ok (.return_, 1) := by decide +kernel
set_option maxRecDepth 20000 in
theorem ggX0_save_X0_forgetOldest : GoodIn wsX0_save wsX0_forgetOldest := goodIn_r _ [7, 2, 1, 25, 26] (by decide +kernel) (by decide +kernel)
set_option maxRecDepth 20000 in
theorem gX0_save_X0_forgetOldest : GoodIn wsX0_save (wsV RX0 22 RX0 yX0_forgetOldest wsX0_forgetOldest) := goodIn_app (goodIn_of _ (by decide +kernel)) ggX0_save_X0_forgetOldest
set_option maxRecDepth 20000 in
theorem ggX0_save_X5_copyFrom : GoodIn wsX0_save wsX5_copyFrom := goodIn_r _ [12, 13, 14, 15, 16, 17, 18, 19, 20, 21, 22, 23, 24, 27, 28, 29, 30, 31, 32, 33, 34] (by decide +kernel) (by decide +kernel)
set_option maxRecDepth 20000 in
theorem gX0_save_X5_copyFrom : GoodIn wsX0_save (wsV RX0 25 RX5 yX5_copyFrom wsX5_copyFrom) := goodIn_app (goodIn_of _ (by decide +kernel)) ggX0_save_X5_copyFrom
theorem dX0_save_0 : decode cX0_save 0 = .ok (.aload_n 0, 1) := by decide +kernel
theorem dX0_save_1 : decode cX0_save 1 = .ok (.getfield 17, 3) := by decide +kernel
theorem dX0_save_4 : decode cX0_save 4 = .ok (.iconst 5, 1) := by decide +kernel
theorem dX0_save_5 : decode cX0_save 5 = .ok (.if_icmp .lt 7, 3) := by decide +kernel
theorem dX0_save_8 : decode cX0_save 8 = .ok (.aload_n 0, 1) := by decide +kernel
theorem dX0_save_9 : decode cX0_save 9 = .ok (.invokevirtual 22, 3) := by decide +kernel
theorem dX0_save_12 : decode cX0_save 12 = .ok (.aload_n 0, 1) := by decide +kernel
theorem dX0_save_13 : decode cX0_save 13 = .ok (.getfield 11, 3) := by decide +kernel
theorem dX0_save_16 : decode cX0_save 16 = .ok (.aload_n 0, 1) := by decide +kernel
theorem dX0_save_17 : decode cX0_save 17 = .ok (.getfield 17, 3) := by decide +kernel
theorem dX0_save_20 : decode cX0_save 20 = .ok (.aaload, 1) := by decide +kernel
theorem dX0_save_21 : decode cX0_save 21 = .ok (.astore_n 2, 1) := by decide +kernel
theorem dX0_save_22 : decode cX0_save 22 = .ok (.aload_n 2, 1) := by decide +kernel
theorem dX0_save_23 : decode cX0_save 23 = .ok (.ifnull 18, 3) := by decide +kernel
theorem dX0_save_26 : decode cX0_save 26 = .ok (.aload_n 2, 1) := by decide +kernel
theorem dX0_save_27 : decode cX0_save 27 = .ok (.aload_n 1, 1) := by decide +kernel
theorem dX0_save_28 : decode cX0_save 28 = .ok (.invokevirtual 25, 3) := by decide +kernel
theorem dX0_save_31 : decode cX0_save 31 = .ok (.aload_n 0, 1) := by decide +kernel
theorem dX0_save_32 : decode cX0_save 32 = .ok (.dup, 1) := by decide +kernel
theorem dX0_save_33 : decode cX0_save 33 = .ok (.getfield 17, 3) := by decide +kernel
theorem dX0_save_36 : decode cX0_save 36 = .ok (.iconst 1, 1) := by decide +kernel
theorem dX0_save_37 : decode cX0_save 37 = .ok (.iadd, 1) := by decide +kernel
theorem dX0_save_38 : decode cX0_save 38 = .ok (.putfield 17, 3) := by decide +kernel
theorem dX0_save_41 : decode cX0_save 41 = .ok (.return_, 1) := by decide +kernel
set_option maxRecDepth 20000 in
theorem ggX0_restore_X5_copyFrom : GoodIn wsX0_restore wsX5_copyFrom := goodIn_r _ [7, 8, 9, 10, 11, 12, 13, 14, 15, 16, 17, 18, 19, 22, 23, 24, 25, 26, 27, 28, 29] (by decide +kernel) (by decide +kernel)
set_option maxRecDepth 20000 in
theorem gX0_restore_X5_copyFrom : GoodIn wsX0_restore (wsV RX0 25 RX5 yX5_copyFrom wsX5_copyFrom) := goodIn_app (goodIn_of _ (by decide +kernel)) ggX0_restore_X5_copyFrom
theorem dX0_restore_0 : decode cX0_restore 0 = .ok (.aload_n 0, 1) := by decide +kernel
theorem dX0_restore_1 : decode cX0_restore 1 = .ok (.getfield 17, 3) := by decide +kernel
theorem dX0_restore_4 : decode cX0_restore 4 = .ok (.ifCond .gt 4, 3) := by decide +kernel
theorem dX0_restore_7 : decode cX0_restore 7 = .ok (.return_, 1) := by decide +kernel
theorem dX0_restore_8 : decode cX0_restore 8 = .ok (.aload_n 0, 1) := by decide +kernel
theorem dX0_restore_9 : decode cX0_restore 9 = .ok (.dup, 1) := by decide +kernel
theorem dX0_restore_10 : decode cX0_restore 10 = .ok (.getfield 17, 3) := by decide +kernel
theorem dX0_restore_13 : decode cX0_restore 13 = .ok (.iconst 1, 1) := by decide +kernel
theorem dX0_restore_14 : decode cX0_restore 14 = .ok (.isub, 1) := by decide +kernel
theorem dX0_restore_15 : decode cX0_restore 15 = .ok (.putfield 17, 3) := by decide +kernel
theorem dX0_restore_18 : decode cX0_restore 18 = .ok (.aload_n 0, 1) := by decide +kernel
theorem dX0_restore_19 : decode cX0_restore 19 = .ok (.getfield 11, 3) := by decide +kernel
theorem dX0_restore_22 : decode cX0_restore 22 = .ok (.aload_n 0, 1) := by decide +kernel
theorem dX0_restore_23 : decode cX0_restore 23 = .ok (.getfield 17, 3) := by decide +kernel
theorem dX0_restore_26 : decode cX0_restore 26 = .ok (.aaload, 1) := by decide +kernel
theorem dX0_restore_27 : decode cX0_restore 27 = .ok (.astore_n 2, 1) := by decide +kernel
theorem dX0_restore_28 : decode cX0_restore 28 = .ok (.aload_n 2, 1) := by decide +kernel
theorem dX0_restore_29 : decode cX0_restore 29 = .ok (.ifnull 8, 3) := by decide +kernel
theorem dX0_restore_32 : decode cX0_restore 32 = .ok (.aload_n 1, 1) := by decide +kernel
theorem dX0_restore_33 : decode cX0_restore 33 = .ok (.aload_n 2, 1) := by decide +kernel
theorem dX0_restore_34 : decode cX0_restore 34 = .ok (.invokevirtual 25, 3) := by decide +kernel
theorem dX0_restore_37 : decode cX0_restore 37 = .ok (.return_, 1) := by decide +kernel
theorem dX0_forgetOldest_0 : decode cX0_forgetOldest 0 = .ok (.aload_n 0, 1) := by decide +kernel
theorem dX0_forgetOldest_1 : decode cX0_forgetOldest 1 = .ok (.getfield 11, 3) := by decide +kernel
theorem dX0_forgetOldest_4 : decode cX0_forgetOldest 4 = .ok (.iconst 0, 1) := by decide +kernel
theorem dX0_forgetOldest_5 : decode cX0_forgetOldest 5 = .ok (.aaload, 1) := by decide +kernel
theorem dX0_forgetOldest_6 : decode cX0_forgetOldest 6 = .ok (.astore_n 1, 1) := by decide +kernel
theorem dX0_forgetOldest_7 : decode cX0_forgetOldest 7 = .ok (.iconst 1, 1) := by decide +kernel
theorem dX0_forgetOldest_8 : decode cX0_forgetOldest 8 = .ok (.istore_n 2, 1) := by decide +kernel
theorem dX0_forgetOldest_9 : decode cX0_forgetOldest 9 = .ok (.iload_n 2, 1) := by decide +kernel
theorem dX0_forgetOldest_10 : decode cX0_forgetOldest 10 = .ok (.iconst 5, 1) := by decide +kernel
theorem dX0_forgetOldest_11 : decode cX0_forgetOldest 11 = .ok (.if_icmp .ge 23, 3) := by decide +kernel
theorem dX0_forgetOldest_14 : decode cX0_forgetOldest 14 = .ok (.aload_n 0, 1) := by decide +kernel
theorem dX0_forgetOldest_15 : decode cX0_forgetOldest 15 = .ok (.getfield 11, 3) := by decide +kernel
theorem dX0_forgetOldest_18 : decode cX0_forgetOldest 18 = .ok (.iload_n 2, 1) := by decide +kernel
theorem dX0_forgetOldest_19 : decode cX0_forgetOldest 19 = .ok (.iconst 1, 1) := by decide +kernel
theorem dX0_forgetOldest_20 : decode cX0_forgetOldest 20 = .ok (.isub, 1) := by decide +kernel
theorem dX0_forgetOldest_21 : decode cX0_forgetOldest 21 = .ok (.aload_n 0, 1) := by decide +kernel
theorem dX0_forgetOldest_22 : decode cX0_forgetOldest 22 = .ok (.getfield 11, 3) := by decide +kernel
theorem dX0_forgetOldest_25 : decode cX0_forgetOldest 25 = .ok (.iload_n 2, 1) := by decide +kernel
theorem dX0_forgetOldest_26 : decode cX0_forgetOldest 26 = .ok (.aaload, 1) := by decide +kernel
theorem dX0_forgetOldest_27 : decode cX0_forgetOldest 27 = .ok (.aastore, 1) := by decide +kernel
theorem dX0_forgetOldest_28 : decode cX0_forgetOldest 28 = .ok (.iinc 2 1, 3) := by decide +kernel
theorem dX0_forgetOldest_31 : decode cX0_forgetOldest 31 = .ok (.goto (-22), 3) := by decide +kernel
theorem dX0_forgetOldest_34 : decode cX0_forgetOldest 34 = .ok (.aload_n 0, 1) := by decide +kernel
theorem dX0_forgetOldest_35 : decode cX0_forgetOldest 35 = .ok (.getfield 11, 3) := by decide +kernel
theorem dX0_forgetOldest_38 : decode cX0_forgetOldest 38 = .ok (.iconst 4, 1) := by decide +kernel
theorem dX0_forgetOldest_39 : decode cX0_forgetOldest 39 = .ok (.aload_n 1, 1) := by decide +kernel
theorem dX0_forgetOldest_40 : decode cX0_forgetOldest 40 = .ok (.aastore, 1) := by decide +kernel
theorem dX0_forgetOldest_41 : decode cX0_forgetOldest 41 = .ok (.aload_n 0, 1) := by decide +kernel
theorem dX0_forgetOldest_42 : decode cX0_forgetOldest 42 = .ok (.iconst 4, 1) := by decide +kernel
theorem dX0_forgetOldest_43 : decode cX0_forgetOldest 43 = .ok (.putfield 17, 3) := by decide +kernel
theorem dX0_forgetOldest_46 : decode cX0_forgetOldest 46 = .ok (.return_, 1) := by decide +kernel
theorem dX1_init_0 : decode cX1_init 0 = .ok (.aload_n 0, 1) := by decide +kernel
theorem dX1_init_1 : decode cX1_init 1 = .ok (.invokespecial 3, 3) := by decide +kernel
theorem dX1_init_4 : decode cX1_init 4 = .ok (.aload_n 0, 1) := by decide +kernel
theorem dX1_init_5 : decode cX1_init 5 = .ok (.bipush 8, 2) := by decide +kernel
theorem dX1_init_7 : decode cX1_init 7 = .ok (.newarray .int, 2) := by decide +kernel
theorem dX1_init_9 : decode cX1_init 9 = .ok (.putfield 9, 3) := by decide +kernel
theorem dX1_init_12 : decode cX1_init 12 = .ok (.aload_n 0, 1) := by decide +kernel
theorem dX1_init_13 : decode cX1_init 13 = .ok (.iconst 0, 1) := by decide +kernel
theorem dX1_init_14 : decode cX1_init 14 = .ok (.putfield 15, 3) := by decide +kernel
theorem dX1_init_17 : decode cX1_init 17 = .ok (.aload_n 0, 1) := by decide +kernel
theorem dX1_init_18 : decode cX1_init 18 = .ok (.iconst 0, 1) := by decide +kernel
theorem dX1_init_19 : decode cX1_init 19 = .ok (.putfield 19, 3) := by decide +kernel
theorem dX1_init_22 : decode cX1_init 22 = .ok (.aload_n 0, 1) := by decide +kernel
theorem dX1_init_23 : decode cX1_init 23 = .ok (.bipush 8, 2) := by decide +kernel
theorem dX1_init_25 : decode cX1_init 25 = .ok (.newarray .int, 2) := by decide +kernel
theorem dX1_init_27 : decode cX1_init 27 = .ok (.putfield 22, 3) := by decide +kernel
theorem dX1_init_30 : decode cX1_init 30 = .ok (.aload_n 0, 1) := by decide +kernel
theorem dX1_init_31 : decode cX1_init 31 = .ok (.bipush 8, 2) := by decide +kernel
theorem dX1_init_33 : decode cX1_init 33 = .ok (.newarray .int, 2) := by decide +kernel
theorem dX1_init_35 : decode cX1_init 35 = .ok (.putfield 25, 3) := by decide +kernel
theorem dX1_init_38 : decode cX1_init 38 = .ok (.aload_n 0, 1) := by decide +kernel
theorem dX1_init_39 : decode cX1_init 39 = .ok (.bipush 8, 2) := by decide +kernel
theorem dX1_init_41 : decode cX1_init 41 = .ok (.newarray .int, 2) := by decide +kernel
theorem dX1_init_43 : decode cX1_init 43 = .ok (.putfield 28, 3) := by decide +kernel
theorem dX1_init_46 : decode cX1_init 46 = .ok (.aload_n 0, 1) := by decide +kernel
theorem dX1_init_47 : decode cX1_init 47 = .ok (.bipush 8, 2) := by decide +kernel
theorem dX1_init_49 : decode cX1_init 49 = .ok (.newarray .int, 2) := by decide +kernel
theorem dX1_init_51 : decode cX1_init 51 = .ok (.putfield 31, 3) := by decide +kernel
theorem dX1_init_54 : decode cX1_init 54 = .ok (.return_, 1) := by decide +kernel
set_option maxRecDepth 20000 in
theorem ggX1_build_X1_collectChoices : GoodIn wsX1_build wsX1_collectChoices := goodIn_r _ [10, 1, 11, 3, 12, 5, 13, 14, 15, 16, 17, 18, 19, 20, 21, 22, 23, 24, 25, 58, 59, 60, 61, 62, 63, 64, 65, 66, 67, 68, 69, 70, 71, 72] (by decide +kernel) (by decide +kernel)
set_option maxRecDepth 20000 in
theorem gX1_build_X1_collectChoices : GoodIn wsX1_build (wsV RX1 34 RX1 yX1_collectChoices wsX1_collectChoices) := goodIn_app (goodIn_of _ (by decide +kernel)) ggX1_build_X1_collectChoices
set_option maxRecDepth 20000 in
theorem ggX1_build_X1_leastRest : GoodIn wsX1_build wsX1_leastRest := goodIn_r _ [29, 1, 30, 31, 32, 33, 34, 35, 36, 9, 37, 3, 2, 38, 39, 40, 41, 42, 43, 44, 45, 46, 47, 48, 49, 50, 51, 5, 4, 58, 59, 60, 61, 62, 63, 64] (by decide +kernel) (by decide +kernel)
set_option maxRecDepth 20000 in
theorem gX1_build_X1_leastRest : GoodIn wsX1_build (wsV RX1 38 RX1 yX1_leastRest wsX1_leastRest) := goodIn_app (goodIn_of _ (by decide +kernel)) ggX1_build_X1_leastRest
set_option maxRecDepth 20000 in
theorem ggX1_build_X1_chooseStrokes : GoodIn wsX1_build wsX1_chooseStrokes := goodIn_r _ [55, 2, 4, 30, 31, 32, 33, 56, 57, 5, 3, 1, 48, 49, 50, 9, 51, 38, 39, 40, 41, 42, 43, 44, 45, 46, 47, 34, 35, 36, 37, 58, 59, 60, 61, 62, 63, 64] (by decide +kernel) (by decide +kernel)
set_option maxRecDepth 20000 in
theorem gX1_build_X1_chooseStrokes : GoodIn wsX1_build (wsV RX1 42 RX1 yX1_chooseStrokes wsX1_chooseStrokes) := goodIn_app (goodIn_of _ (by decide +kernel)) ggX1_build_X1_chooseStrokes
theorem dX1_build_0 : decode cX1_build 0 = .ok (.aload_n 0, 1) := by decide +kernel
theorem dX1_build_1 : decode cX1_build 1 = .ok (.aload_n 1, 1) := by decide +kernel
theorem dX1_build_2 : decode cX1_build 2 = .ok (.iload_n 2, 1) := by decide +kernel
theorem dX1_build_3 : decode cX1_build 3 = .ok (.invokevirtual 34, 3) := by decide +kernel
theorem dX1_build_6 : decode cX1_build 6 = .ok (.aload_n 0, 1) := by decide +kernel
theorem dX1_build_7 : decode cX1_build 7 = .ok (.getfield 15, 3) := by decide +kernel
theorem dX1_build_10 : decode cX1_build 10 = .ok (.iconst 1, 1) := by decide +kernel
theorem dX1_build_11 : decode cX1_build 11 = .ok (.isub, 1) := by decide +kernel
theorem dX1_build_12 : decode cX1_build 12 = .ok (.istore_n 3, 1) := by decide +kernel
theorem dX1_build_13 : decode cX1_build 13 = .ok (.iload_n 3, 1) := by decide +kernel
theorem dX1_build_14 : decode cX1_build 14 = .ok (.ifCond .lt 63, 3) := by decide +kernel
theorem dX1_build_17 : decode cX1_build 17 = .ok (.aload_n 0, 1) := by decide +kernel
theorem dX1_build_18 : decode cX1_build 18 = .ok (.getfield 28, 3) := by decide +kernel
theorem dX1_build_21 : decode cX1_build 21 = .ok (.iload_n 3, 1) := by decide +kernel
theorem dX1_build_22 : decode cX1_build 22 = .ok (.aload_n 0, 1) := by decide +kernel
theorem dX1_build_23 : decode cX1_build 23 = .ok (.aload_n 0, 1) := by decide +kernel
theorem dX1_build_24 : decode cX1_build 24 = .ok (.getfield 22, 3) := by decide +kernel
theorem dX1_build_27 : decode cX1_build 27 = .ok (.iload_n 3, 1) := by decide +kernel
theorem dX1_build_28 : decode cX1_build 28 = .ok (.iaload, 1) := by decide +kernel
theorem dX1_build_29 : decode cX1_build 29 = .ok (.iload_n 3, 1) := by decide +kernel
theorem dX1_build_30 : decode cX1_build 30 = .ok (.iconst 1, 1) := by decide +kernel
theorem dX1_build_31 : decode cX1_build 31 = .ok (.iadd, 1) := by decide +kernel
theorem dX1_build_32 : decode cX1_build 32 = .ok (.invokevirtual 38, 3) := by decide +kernel
theorem dX1_build_35 : decode cX1_build 35 = .ok (.iastore, 1) := by decide +kernel
theorem dX1_build_36 : decode cX1_build 36 = .ok (.aload_n 0, 1) := by decide +kernel
theorem dX1_build_37 : decode cX1_build 37 = .ok (.getfield 31, 3) := by decide +kernel
theorem dX1_build_40 : decode cX1_build 40 = .ok (.iload_n 3, 1) := by decide +kernel
theorem dX1_build_41 : decode cX1_build 41 = .ok (.aload_n 0, 1) := by decide +kernel
theorem dX1_build_42 : decode cX1_build 42 = .ok (.getfield 25, 3) := by decide +kernel
theorem dX1_build_45 : decode cX1_build 45 = .ok (.iload_n 3, 1) := by decide +kernel
theorem dX1_build_46 : decode cX1_build 46 = .ok (.iaload, 1) := by decide +kernel
theorem dX1_build_47 : decode cX1_build 47 = .ok (.iconst (-1), 1) := by decide +kernel
theorem dX1_build_48 : decode cX1_build 48 = .ok (.if_icmp .ne 9, 3) := by decide +kernel
theorem dX1_build_51 : decode cX1_build 51 = .ok (.sipush 1000, 3) := by decide +kernel
theorem dX1_build_54 : decode cX1_build 54 = .ok (.goto 16, 3) := by decide +kernel
theorem dX1_build_57 : decode cX1_build 57 = .ok (.aload_n 0, 1) := by decide +kernel
theorem dX1_build_58 : decode cX1_build 58 = .ok (.aload_n 0, 1) := by decide +kernel
theorem dX1_build_59 : decode cX1_build 59 = .ok (.getfield 25, 3) := by decide +kernel
theorem dX1_build_62 : decode cX1_build 62 = .ok (.iload_n 3, 1) := by decide +kernel
theorem dX1_build_63 : decode cX1_build 63 = .ok (.iaload, 1) := by decide +kernel
theorem dX1_build_64 : decode cX1_build 64 = .ok (.iload_n 3, 1) := by decide +kernel
theorem dX1_build_65 : decode cX1_build 65 = .ok (.iconst 1, 1) := by decide +kernel
theorem dX1_build_66 : decode cX1_build 66 = .ok (.iadd, 1) := by decide +kernel
theorem dX1_build_67 : decode cX1_build 67 = .ok (.invokevirtual 38, 3) := by decide +kernel
theorem dX1_build_70 : decode cX1_build 70 = .ok (.iastore, 1) := by decide +kernel
theorem dX1_build_71 : decode cX1_build 71 = .ok (.iinc 3 (-1), 3) := by decide +kernel
theorem dX1_build_74 : decode cX1_build 74 = .ok (.goto (-61), 3) := by decide +kernel
theorem dX1_build_77 : decode cX1_build 77 = .ok (.aload_n 0, 1) := by decide +kernel
theorem dX1_build_78 : decode cX1_build 78 = .ok (.invokevirtual 42, 3) := by decide +kernel
theorem dX1_build_81 : decode cX1_build 81 = .ok (.return_, 1) := by decide +kernel
theorem dX1_ways_0 : decode cX1_ways 0 = .ok (.iconst 1, 1) := by decide +kernel
theorem dX1_ways_1 : decode cX1_ways 1 = .ok (.istore_n 1, 1) := by decide +kernel
theorem dX1_ways_2 : decode cX1_ways 2 = .ok (.iconst 0, 1) := by decide +kernel
theorem dX1_ways_3 : decode cX1_ways 3 = .ok (.istore_n 2, 1) := by decide +kernel
theorem dX1_ways_4 : decode cX1_ways 4 = .ok (.iload_n 2, 1) := by decide +kernel
theorem dX1_ways_5 : decode cX1_ways 5 = .ok (.aload_n 0, 1) := by decide +kernel
theorem dX1_ways_6 : decode cX1_ways 6 = .ok (.getfield 15, 3) := by decide +kernel
theorem dX1_ways_9 : decode cX1_ways 9 = .ok (.if_icmp .ge 23, 3) := by decide +kernel
theorem dX1_ways_12 : decode cX1_ways 12 = .ok (.aload_n 0, 1) := by decide +kernel
theorem dX1_ways_13 : decode cX1_ways 13 = .ok (.getfield 25, 3) := by decide +kernel
theorem dX1_ways_16 : decode cX1_ways 16 = .ok (.iload_n 2, 1) := by decide +kernel
theorem dX1_ways_17 : decode cX1_ways 17 = .ok (.iaload, 1) := by decide +kernel
theorem dX1_ways_18 : decode cX1_ways 18 = .ok (.iconst (-1), 1) := by decide +kernel
theorem dX1_ways_19 : decode cX1_ways 19 = .ok (.if_icmp .eq 7, 3) := by decide +kernel
theorem dX1_ways_22 : decode cX1_ways 22 = .ok (.iload_n 1, 1) := by decide +kernel
theorem dX1_ways_23 : decode cX1_ways 23 = .ok (.iconst 2, 1) := by decide +kernel
theorem dX1_ways_24 : decode cX1_ways 24 = .ok (.imul, 1) := by decide +kernel
theorem dX1_ways_25 : decode cX1_ways 25 = .ok (.istore_n 1, 1) := by decide +kernel
theorem dX1_ways_26 : decode cX1_ways 26 = .ok (.iinc 2 1, 3) := by decide +kernel
theorem dX1_ways_29 : decode cX1_ways 29 = .ok (.goto (-25), 3) := by decide +kernel
theorem dX1_ways_32 : decode cX1_ways 32 = .ok (.iload_n 1, 1) := by decide +kernel
theorem dX1_ways_33 : decode cX1_ways 33 = .ok (.ireturn, 1) := by decide +kernel
set_option maxRecDepth 20000 in
theorem ggX1_collectChoices_X5_isWritten : GoodIn wsX1_collectChoices wsX5_isWritten := goodIn_r _ [11, 12, 13, 14, 15, 10, 16, 17, 26, 27, 28, 29, 30, 31, 32, 33] (by decide +kernel) (by decide +kernel)
set_option maxRecDepth 20000 in
theorem gX1_collectChoices_X5_isWritten : GoodIn wsX1_collectChoices (wsV RX1 50 RX5 yX5_isWritten wsX5_isWritten) := goodIn_app (goodIn_of _ (by decide +kernel)) ggX1_collectChoices_X5_isWritten
set_option maxRecDepth 20000 in
theorem ggX1_collectChoices_X5_soundAt : GoodIn wsX1_collectChoices wsX5_soundAt := goodIn_r _ [16, 17, 26, 27, 28, 29, 30, 31, 32, 33] (by decide +kernel) (by decide +kernel)
set_option maxRecDepth 20000 in
theorem gX1_collectChoices_X5_soundAt : GoodIn wsX1_collectChoices (wsV RX1 54 RX5 yX5_soundAt wsX5_soundAt) := goodIn_app (goodIn_of _ (by decide +kernel)) ggX1_collectChoices_X5_soundAt
theorem dX1_collectChoices_0 : decode cX1_collectChoices 0 = .ok (.aload_n 0, 1) := by decide +kernel
theorem dX1_collectChoices_1 : decode cX1_collectChoices 1 = .ok (.iconst 0, 1) := by decide +kernel
theorem dX1_collectChoices_2 : decode cX1_collectChoices 2 = .ok (.putfield 15, 3) := by decide +kernel
theorem dX1_collectChoices_5 : decode cX1_collectChoices 5 = .ok (.iconst 0, 1) := by decide +kernel
theorem dX1_collectChoices_6 : decode cX1_collectChoices 6 = .ok (.istore_n 3, 1) := by decide +kernel
theorem dX1_collectChoices_7 : decode cX1_collectChoices 7 = .ok (.iload_n 3, 1) := by decide +kernel
theorem dX1_collectChoices_8 : decode cX1_collectChoices 8 = .ok (.aload_n 1, 1) := by decide +kernel
theorem dX1_collectChoices_9 : decode cX1_collectChoices 9 = .ok (.getfield 45, 3) := by decide +kernel
theorem dX1_collectChoices_12 : decode cX1_collectChoices 12 = .ok (.iload_n 2, 1) := by decide +kernel
theorem dX1_collectChoices_13 : decode cX1_collectChoices 13 = .ok (.iaload, 1) := by decide +kernel
theorem dX1_collectChoices_14 : decode cX1_collectChoices 14 = .ok (.if_icmp .ge 68, 3) := by decide +kernel
theorem dX1_collectChoices_17 : decode cX1_collectChoices 17 = .ok (.aload_n 1, 1) := by decide +kernel
theorem dX1_collectChoices_18 : decode cX1_collectChoices 18 = .ok (.iload_n 2, 1) := by decide +kernel
theorem dX1_collectChoices_19 : decode cX1_collectChoices 19 = .ok (.iload_n 3, 1) := by decide +kernel
theorem dX1_collectChoices_20 : decode cX1_collectChoices 20 = .ok (.invokevirtual 50, 3) := by decide +kernel
theorem dX1_collectChoices_23 : decode cX1_collectChoices 23 = .ok (.ifCond .eq 53, 3) := by decide +kernel
theorem dX1_collectChoices_26 : decode cX1_collectChoices 26 = .ok (.aload_n 1, 1) := by decide +kernel
theorem dX1_collectChoices_27 : decode cX1_collectChoices 27 = .ok (.iload_n 2, 1) := by decide +kernel
theorem dX1_collectChoices_28 : decode cX1_collectChoices 28 = .ok (.iload_n 3, 1) := by decide +kernel
theorem dX1_collectChoices_29 : decode cX1_collectChoices 29 = .ok (.invokevirtual 54, 3) := by decide +kernel
theorem dX1_collectChoices_32 : decode cX1_collectChoices 32 = .ok (.istore 4, 2) := by decide +kernel
theorem dX1_collectChoices_34 : decode cX1_collectChoices 34 = .ok (.aload_n 0, 1) := by decide +kernel
theorem dX1_collectChoices_35 : decode cX1_collectChoices 35 = .ok (.getfield 22, 3) := by decide +kernel
theorem dX1_collectChoices_38 : decode cX1_collectChoices 38 = .ok (.aload_n 0, 1) := by decide +kernel
theorem dX1_collectChoices_39 : decode cX1_collectChoices 39 = .ok (.getfield 15, 3) := by decide +kernel
theorem dX1_collectChoices_42 : decode cX1_collectChoices 42 = .ok (.aload_n 1, 1) := by decide +kernel
theorem dX1_collectChoices_43 : decode cX1_collectChoices 43 = .ok (.getfield 57, 3) := by decide +kernel
theorem dX1_collectChoices_46 : decode cX1_collectChoices 46 = .ok (.iload 4, 2) := by decide +kernel
theorem dX1_collectChoices_48 : decode cX1_collectChoices 48 = .ok (.iaload, 1) := by decide +kernel
theorem dX1_collectChoices_49 : decode cX1_collectChoices 49 = .ok (.iastore, 1) := by decide +kernel
theorem dX1_collectChoices_50 : decode cX1_collectChoices 50 = .ok (.aload_n 0, 1) := by decide +kernel
theorem dX1_collectChoices_51 : decode cX1_collectChoices 51 = .ok (.getfield 25, 3) := by decide +kernel
theorem dX1_collectChoices_54 : decode cX1_collectChoices 54 = .ok (.aload_n 0, 1) := by decide +kernel
theorem dX1_collectChoices_55 : decode cX1_collectChoices 55 = .ok (.getfield 15, 3) := by decide +kernel
theorem dX1_collectChoices_58 : decode cX1_collectChoices 58 = .ok (.aload_n 1, 1) := by decide +kernel
theorem dX1_collectChoices_59 : decode cX1_collectChoices 59 = .ok (.getfield 60, 3) := by decide +kernel
theorem dX1_collectChoices_62 : decode cX1_collectChoices 62 = .ok (.iload 4, 2) := by decide +kernel
theorem dX1_collectChoices_64 : decode cX1_collectChoices 64 = .ok (.iaload, 1) := by decide +kernel
theorem dX1_collectChoices_65 : decode cX1_collectChoices 65 = .ok (.iastore, 1) := by decide +kernel
theorem dX1_collectChoices_66 : decode cX1_collectChoices 66 = .ok (.aload_n 0, 1) := by decide +kernel
theorem dX1_collectChoices_67 : decode cX1_collectChoices 67 = .ok (.dup, 1) := by decide +kernel
theorem dX1_collectChoices_68 : decode cX1_collectChoices 68 = .ok (.getfield 15, 3) := by decide +kernel
theorem dX1_collectChoices_71 : decode cX1_collectChoices 71 = .ok (.iconst 1, 1) := by decide +kernel
theorem dX1_collectChoices_72 : decode cX1_collectChoices 72 = .ok (.iadd, 1) := by decide +kernel
theorem dX1_collectChoices_73 : decode cX1_collectChoices 73 = .ok (.putfield 15, 3) := by decide +kernel
theorem dX1_collectChoices_76 : decode cX1_collectChoices 76 = .ok (.iinc 3 1, 3) := by decide +kernel
theorem dX1_collectChoices_79 : decode cX1_collectChoices 79 = .ok (.goto (-72), 3) := by decide +kernel
theorem dX1_collectChoices_82 : decode cX1_collectChoices 82 = .ok (.return_, 1) := by decide +kernel
set_option maxRecDepth 20000 in
theorem ggX1_leastRest_X1_costOverFirst : GoodIn wsX1_leastRest wsX1_costOverFirst := goodIn_r _ [10, 11, 12, 13, 14, 15, 16, 17, 18, 19, 20, 4, 21, 22, 3, 5, 29, 30, 31, 32, 33, 34, 35] (by decide +kernel) (by decide +kernel)
set_option maxRecDepth 20000 in
theorem gX1_leastRest_X1_costOverFirst : GoodIn wsX1_leastRest (wsV RX1 63 RX1 yX1_costOverFirst wsX1_costOverFirst) := goodIn_app (goodIn_of _ (by decide +kernel)) ggX1_leastRest_X1_costOverFirst
set_option maxRecDepth 20000 in
theorem ggX1_leastRest_X1_costOverSecond : GoodIn wsX1_leastRest wsX1_costOverSecond := goodIn_r _ [26, 27, 28, 13, 14, 15, 16, 17, 18, 19, 20, 4, 21, 22, 3, 5, 29, 30, 31, 32, 33, 34, 35] (by decide +kernel) (by decide +kernel)
set_option maxRecDepth 20000 in
theorem gX1_leastRest_X1_costOverSecond : GoodIn wsX1_leastRest (wsV RX1 66 RX1 yX1_costOverSecond wsX1_costOverSecond) := goodIn_app (goodIn_of _ (by decide +kernel)) ggX1_leastRest_X1_costOverSecond
theorem dX1_leastRest_0 : decode cX1_leastRest 0 = .ok (.iload_n 2, 1) := by decide +kernel
theorem dX1_leastRest_1 : decode cX1_leastRest 1 = .ok (.aload_n 0, 1) := by decide +kernel
theorem dX1_leastRest_2 : decode cX1_leastRest 2 = .ok (.getfield 15, 3) := by decide +kernel
theorem dX1_leastRest_5 : decode cX1_leastRest 5 = .ok (.if_icmp .lt 5, 3) := by decide +kernel
theorem dX1_leastRest_8 : decode cX1_leastRest 8 = .ok (.iconst 0, 1) := by decide +kernel
theorem dX1_leastRest_9 : decode cX1_leastRest 9 = .ok (.ireturn, 1) := by decide +kernel
theorem dX1_leastRest_10 : decode cX1_leastRest 10 = .ok (.aload_n 0, 1) := by decide +kernel
theorem dX1_leastRest_11 : decode cX1_leastRest 11 = .ok (.iload_n 1, 1) := by decide +kernel
theorem dX1_leastRest_12 : decode cX1_leastRest 12 = .ok (.iload_n 2, 1) := by decide +kernel
theorem dX1_leastRest_13 : decode cX1_leastRest 13 = .ok (.invokevirtual 63, 3) := by decide +kernel
theorem dX1_leastRest_16 : decode cX1_leastRest 16 = .ok (.aload_n 0, 1) := by decide +kernel
theorem dX1_leastRest_17 : decode cX1_leastRest 17 = .ok (.iload_n 1, 1) := by decide +kernel
theorem dX1_leastRest_18 : decode cX1_leastRest 18 = .ok (.iload_n 2, 1) := by decide +kernel
theorem dX1_leastRest_19 : decode cX1_leastRest 19 = .ok (.invokevirtual 66, 3) := by decide +kernel
theorem dX1_leastRest_22 : decode cX1_leastRest 22 = .ok (.invokestatic 69, 3) := by decide +kernel
theorem dX1_leastRest_25 : decode cX1_leastRest 25 = .ok (.ireturn, 1) := by decide +kernel
set_option maxRecDepth 20000 in
theorem ggX1_costOverFirst_X6_join : GoodIn wsX1_costOverFirst wsX6_join := goodIn_r _ [5, 6, 7, 4, 8, 9, 10, 11, 12, 13, 14, 15] (by decide +kernel) (by decide +kernel)
set_option maxRecDepth 20000 in
theorem gX1_costOverFirst_X6_join_n74 : GoodIn wsX1_costOverFirst (wsX6_join) := ggX1_costOverFirst_X6_join
theorem dX1_costOverFirst_0 : decode cX1_costOverFirst 0 = .ok (.iload_n 1, 1) := by decide +kernel
theorem dX1_costOverFirst_1 : decode cX1_costOverFirst 1 = .ok (.aload_n 0, 1) := by decide +kernel
theorem dX1_costOverFirst_2 : decode cX1_costOverFirst 2 = .ok (.getfield 22, 3) := by decide +kernel
theorem dX1_costOverFirst_5 : decode cX1_costOverFirst 5 = .ok (.iload_n 2, 1) := by decide +kernel
theorem dX1_costOverFirst_6 : decode cX1_costOverFirst 6 = .ok (.iaload, 1) := by decide +kernel
theorem dX1_costOverFirst_7 : decode cX1_costOverFirst 7 = .ok (.invokestatic 74, 3) := by decide +kernel
theorem dX1_costOverFirst_10 : decode cX1_costOverFirst 10 = .ok (.aload_n 0, 1) := by decide +kernel
theorem dX1_costOverFirst_11 : decode cX1_costOverFirst 11 = .ok (.getfield 28, 3) := by decide +kernel
theorem dX1_costOverFirst_14 : decode cX1_costOverFirst 14 = .ok (.iload_n 2, 1) := by decide +kernel
theorem dX1_costOverFirst_15 : decode cX1_costOverFirst 15 = .ok (.iaload, 1) := by decide +kernel
theorem dX1_costOverFirst_16 : decode cX1_costOverFirst 16 = .ok (.iadd, 1) := by decide +kernel
theorem dX1_costOverFirst_17 : decode cX1_costOverFirst 17 = .ok (.ireturn, 1) := by decide +kernel
set_option maxRecDepth 20000 in
theorem ggX1_costOverSecond_X6_join : GoodIn wsX1_costOverSecond wsX6_join := goodIn_r _ [5, 6, 7, 4, 8, 9, 10, 11, 12, 13, 14, 15] (by decide +kernel) (by decide +kernel)
set_option maxRecDepth 20000 in
theorem gX1_costOverSecond_X6_join_n74 : GoodIn wsX1_costOverSecond (wsX6_join) := ggX1_costOverSecond_X6_join
theorem dX1_costOverSecond_0 : decode cX1_costOverSecond 0 = .ok (.aload_n 0, 1) := by decide +kernel
theorem dX1_costOverSecond_1 : decode cX1_costOverSecond 1 = .ok (.getfield 25, 3) := by decide +kernel
theorem dX1_costOverSecond_4 : decode cX1_costOverSecond 4 = .ok (.iload_n 2, 1) := by decide +kernel
theorem dX1_costOverSecond_5 : decode cX1_costOverSecond 5 = .ok (.iaload, 1) := by decide +kernel
theorem dX1_costOverSecond_6 : decode cX1_costOverSecond 6 = .ok (.iconst (-1), 1) := by decide +kernel
theorem dX1_costOverSecond_7 : decode cX1_costOverSecond 7 = .ok (.if_icmp .ne 9, 3) := by decide +kernel
theorem dX1_costOverSecond_10 : decode cX1_costOverSecond 10 = .ok (.sipush 1000, 3) := by decide +kernel
theorem dX1_costOverSecond_13 : decode cX1_costOverSecond 13 = .ok (.goto 20, 3) := by decide +kernel
theorem dX1_costOverSecond_16 : decode cX1_costOverSecond 16 = .ok (.iload_n 1, 1) := by decide +kernel
theorem dX1_costOverSecond_17 : decode cX1_costOverSecond 17 = .ok (.aload_n 0, 1) := by decide +kernel
theorem dX1_costOverSecond_18 : decode cX1_costOverSecond 18 = .ok (.getfield 25, 3) := by decide +kernel
theorem dX1_costOverSecond_21 : decode cX1_costOverSecond 21 = .ok (.iload_n 2, 1) := by decide +kernel
theorem dX1_costOverSecond_22 : decode cX1_costOverSecond 22 = .ok (.iaload, 1) := by decide +kernel
theorem dX1_costOverSecond_23 : decode cX1_costOverSecond 23 = .ok (.invokestatic 74, 3) := by decide +kernel
theorem dX1_costOverSecond_26 : decode cX1_costOverSecond 26 = .ok (.aload_n 0, 1) := by decide +kernel
theorem dX1_costOverSecond_27 : decode cX1_costOverSecond 27 = .ok (.getfield 31, 3) := by decide +kernel
theorem dX1_costOverSecond_30 : decode cX1_costOverSecond 30 = .ok (.iload_n 2, 1) := by decide +kernel
theorem dX1_costOverSecond_31 : decode cX1_costOverSecond 31 = .ok (.iaload, 1) := by decide +kernel
theorem dX1_costOverSecond_32 : decode cX1_costOverSecond 32 = .ok (.iadd, 1) := by decide +kernel
theorem dX1_costOverSecond_33 : decode cX1_costOverSecond 33 = .ok (.ireturn, 1) := by decide +kernel
set_option maxRecDepth 20000 in
theorem ggX1_chooseStrokes_X1_costOverSecond : GoodIn wsX1_chooseStrokes wsX1_costOverSecond := goodIn_r _ [16, 9, 2, 17, 18, 19, 20, 21, 22, 23, 24, 5, 25, 26, 4, 6, 31, 32, 33, 34, 35, 36, 37] (by decide +kernel) (by decide +kernel)
set_option maxRecDepth 20000 in
theorem gX1_chooseStrokes_X1_costOverSecond : GoodIn wsX1_chooseStrokes (wsV RX1 66 RX1 yX1_costOverSecond wsX1_costOverSecond) := goodIn_app (goodIn_of _ (by decide +kernel)) ggX1_chooseStrokes_X1_costOverSecond
set_option maxRecDepth 20000 in
theorem ggX1_chooseStrokes_X1_costOverFirst : GoodIn wsX1_chooseStrokes wsX1_costOverFirst := goodIn_r _ [30, 10, 1, 17, 18, 19, 20, 21, 22, 23, 24, 5, 25, 26, 4, 6, 31, 32, 33, 34, 35, 36, 37] (by decide +kernel) (by decide +kernel)
set_option maxRecDepth 20000 in
theorem gX1_chooseStrokes_X1_costOverFirst : GoodIn wsX1_chooseStrokes (wsV RX1 63 RX1 yX1_costOverFirst wsX1_costOverFirst) := goodIn_app (goodIn_of _ (by decide +kernel)) ggX1_chooseStrokes_X1_costOverFirst
theorem dX1_chooseStrokes_0 : decode cX1_chooseStrokes 0 = .ok (.aload_n 0, 1) := by decide +kernel
theorem dX1_chooseStrokes_1 : decode cX1_chooseStrokes 1 = .ok (.aload_n 0, 1) := by decide +kernel
theorem dX1_chooseStrokes_2 : decode cX1_chooseStrokes 2 = .ok (.getfield 28, 3) := by decide +kernel
theorem dX1_chooseStrokes_5 : decode cX1_chooseStrokes 5 = .ok (.iconst 0, 1) := by decide +kernel
theorem dX1_chooseStrokes_6 : decode cX1_chooseStrokes 6 = .ok (.iaload, 1) := by decide +kernel
theorem dX1_chooseStrokes_7 : decode cX1_chooseStrokes 7 = .ok (.aload_n 0, 1) := by decide +kernel
theorem dX1_chooseStrokes_8 : decode cX1_chooseStrokes 8 = .ok (.getfield 31, 3) := by decide +kernel
theorem dX1_chooseStrokes_11 : decode cX1_chooseStrokes 11 = .ok (.iconst 0, 1) := by decide +kernel
theorem dX1_chooseStrokes_12 : decode cX1_chooseStrokes 12 = .ok (.iaload, 1) := by decide +kernel
theorem dX1_chooseStrokes_13 : decode cX1_chooseStrokes 13 = .ok (.invokestatic 69, 3) := by decide +kernel
theorem dX1_chooseStrokes_16 : decode cX1_chooseStrokes 16 = .ok (.putfield 19, 3) := by decide +kernel
theorem dX1_chooseStrokes_19 : decode cX1_chooseStrokes 19 = .ok (.aload_n 0, 1) := by decide +kernel
theorem dX1_chooseStrokes_20 : decode cX1_chooseStrokes 20 = .ok (.getfield 9, 3) := by decide +kernel
theorem dX1_chooseStrokes_23 : decode cX1_chooseStrokes 23 = .ok (.iconst 0, 1) := by decide +kernel
theorem dX1_chooseStrokes_24 : decode cX1_chooseStrokes 24 = .ok (.aload_n 0, 1) := by decide +kernel
theorem dX1_chooseStrokes_25 : decode cX1_chooseStrokes 25 = .ok (.getfield 31, 3) := by decide +kernel
theorem dX1_chooseStrokes_28 : decode cX1_chooseStrokes 28 = .ok (.iconst 0, 1) := by decide +kernel
theorem dX1_chooseStrokes_29 : decode cX1_chooseStrokes 29 = .ok (.iaload, 1) := by decide +kernel
theorem dX1_chooseStrokes_30 : decode cX1_chooseStrokes 30 = .ok (.aload_n 0, 1) := by decide +kernel
theorem dX1_chooseStrokes_31 : decode cX1_chooseStrokes 31 = .ok (.getfield 28, 3) := by decide +kernel
theorem dX1_chooseStrokes_34 : decode cX1_chooseStrokes 34 = .ok (.iconst 0, 1) := by decide +kernel
theorem dX1_chooseStrokes_35 : decode cX1_chooseStrokes 35 = .ok (.iaload, 1) := by decide +kernel
theorem dX1_chooseStrokes_36 : decode cX1_chooseStrokes 36 = .ok (.if_icmp .ge 12, 3) := by decide +kernel
theorem dX1_chooseStrokes_39 : decode cX1_chooseStrokes 39 = .ok (.aload_n 0, 1) := by decide +kernel
theorem dX1_chooseStrokes_40 : decode cX1_chooseStrokes 40 = .ok (.getfield 25, 3) := by decide +kernel
theorem dX1_chooseStrokes_43 : decode cX1_chooseStrokes 43 = .ok (.iconst 0, 1) := by decide +kernel
theorem dX1_chooseStrokes_44 : decode cX1_chooseStrokes 44 = .ok (.iaload, 1) := by decide +kernel
theorem dX1_chooseStrokes_45 : decode cX1_chooseStrokes 45 = .ok (.goto 9, 3) := by decide +kernel
theorem dX1_chooseStrokes_48 : decode cX1_chooseStrokes 48 = .ok (.aload_n 0, 1) := by decide +kernel
theorem dX1_chooseStrokes_49 : decode cX1_chooseStrokes 49 = .ok (.getfield 22, 3) := by decide +kernel
theorem dX1_chooseStrokes_52 : decode cX1_chooseStrokes 52 = .ok (.iconst 0, 1) := by decide +kernel
theorem dX1_chooseStrokes_53 : decode cX1_chooseStrokes 53 = .ok (.iaload, 1) := by decide +kernel
theorem dX1_chooseStrokes_54 : decode cX1_chooseStrokes 54 = .ok (.iastore, 1) := by decide +kernel
theorem dX1_chooseStrokes_55 : decode cX1_chooseStrokes 55 = .ok (.iconst 1, 1) := by decide +kernel
theorem dX1_chooseStrokes_56 : decode cX1_chooseStrokes 56 = .ok (.istore_n 1, 1) := by decide +kernel
theorem dX1_chooseStrokes_57 : decode cX1_chooseStrokes 57 = .ok (.iload_n 1, 1) := by decide +kernel
theorem dX1_chooseStrokes_58 : decode cX1_chooseStrokes 58 = .ok (.aload_n 0, 1) := by decide +kernel
theorem dX1_chooseStrokes_59 : decode cX1_chooseStrokes 59 = .ok (.getfield 15, 3) := by decide +kernel
theorem dX1_chooseStrokes_62 : decode cX1_chooseStrokes 62 = .ok (.if_icmp .ge 64, 3) := by decide +kernel
theorem dX1_chooseStrokes_65 : decode cX1_chooseStrokes 65 = .ok (.aload_n 0, 1) := by decide +kernel
theorem dX1_chooseStrokes_66 : decode cX1_chooseStrokes 66 = .ok (.getfield 9, 3) := by decide +kernel
theorem dX1_chooseStrokes_69 : decode cX1_chooseStrokes 69 = .ok (.iload_n 1, 1) := by decide +kernel
theorem dX1_chooseStrokes_70 : decode cX1_chooseStrokes 70 = .ok (.iconst 1, 1) := by decide +kernel
theorem dX1_chooseStrokes_71 : decode cX1_chooseStrokes 71 = .ok (.isub, 1) := by decide +kernel
theorem dX1_chooseStrokes_72 : decode cX1_chooseStrokes 72 = .ok (.iaload, 1) := by decide +kernel
theorem dX1_chooseStrokes_73 : decode cX1_chooseStrokes 73 = .ok (.istore_n 2, 1) := by decide +kernel
theorem dX1_chooseStrokes_74 : decode cX1_chooseStrokes 74 = .ok (.aload_n 0, 1) := by decide +kernel
theorem dX1_chooseStrokes_75 : decode cX1_chooseStrokes 75 = .ok (.iload_n 2, 1) := by decide +kernel
theorem dX1_chooseStrokes_76 : decode cX1_chooseStrokes 76 = .ok (.iload_n 1, 1) := by decide +kernel
theorem dX1_chooseStrokes_77 : decode cX1_chooseStrokes 77 = .ok (.invokevirtual 66, 3) := by decide +kernel
theorem dX1_chooseStrokes_80 : decode cX1_chooseStrokes 80 = .ok (.aload_n 0, 1) := by decide +kernel
theorem dX1_chooseStrokes_81 : decode cX1_chooseStrokes 81 = .ok (.iload_n 2, 1) := by decide +kernel
theorem dX1_chooseStrokes_82 : decode cX1_chooseStrokes 82 = .ok (.iload_n 1, 1) := by decide +kernel
theorem dX1_chooseStrokes_83 : decode cX1_chooseStrokes 83 = .ok (.invokevirtual 63, 3) := by decide +kernel
theorem dX1_chooseStrokes_86 : decode cX1_chooseStrokes 86 = .ok (.if_icmp .ge 7, 3) := by decide +kernel
theorem dX1_chooseStrokes_89 : decode cX1_chooseStrokes 89 = .ok (.iconst 1, 1) := by decide +kernel
theorem dX1_chooseStrokes_90 : decode cX1_chooseStrokes 90 = .ok (.goto 4, 3) := by decide +kernel
theorem dX1_chooseStrokes_93 : decode cX1_chooseStrokes 93 = .ok (.iconst 0, 1) := by decide +kernel
theorem dX1_chooseStrokes_94 : decode cX1_chooseStrokes 94 = .ok (.istore_n 3, 1) := by decide +kernel
theorem dX1_chooseStrokes_95 : decode cX1_chooseStrokes 95 = .ok (.aload_n 0, 1) := by decide +kernel
theorem dX1_chooseStrokes_96 : decode cX1_chooseStrokes 96 = .ok (.getfield 9, 3) := by decide +kernel
theorem dX1_chooseStrokes_99 : decode cX1_chooseStrokes 99 = .ok (.iload_n 1, 1) := by decide +kernel
theorem dX1_chooseStrokes_100 : decode cX1_chooseStrokes 100 = .ok (.iload_n 3, 1) := by decide +kernel
theorem dX1_chooseStrokes_101 : decode cX1_chooseStrokes 101 = .ok (.ifCond .eq 12, 3) := by decide +kernel
theorem dX1_chooseStrokes_104 : decode cX1_chooseStrokes 104 = .ok (.aload_n 0, 1) := by decide +kernel
theorem dX1_chooseStrokes_105 : decode cX1_chooseStrokes 105 = .ok (.getfield 25, 3) := by decide +kernel
theorem dX1_chooseStrokes_108 : decode cX1_chooseStrokes 108 = .ok (.iload_n 1, 1) := by decide +kernel
theorem dX1_chooseStrokes_109 : decode cX1_chooseStrokes 109 = .ok (.iaload, 1) := by decide +kernel
theorem dX1_chooseStrokes_110 : decode cX1_chooseStrokes 110 = .ok (.goto 9, 3) := by decide +kernel
theorem dX1_chooseStrokes_113 : decode cX1_chooseStrokes 113 = .ok (.aload_n 0, 1) := by decide +kernel
theorem dX1_chooseStrokes_114 : decode cX1_chooseStrokes 114 = .ok (.getfield 22, 3) := by decide +kernel
theorem dX1_chooseStrokes_117 : decode cX1_chooseStrokes 117 = .ok (.iload_n 1, 1) := by decide +kernel
theorem dX1_chooseStrokes_118 : decode cX1_chooseStrokes 118 = .ok (.iaload, 1) := by decide +kernel
theorem dX1_chooseStrokes_119 : decode cX1_chooseStrokes 119 = .ok (.iastore, 1) := by decide +kernel
theorem dX1_chooseStrokes_120 : decode cX1_chooseStrokes 120 = .ok (.iinc 1 1, 3) := by decide +kernel
theorem dX1_chooseStrokes_123 : decode cX1_chooseStrokes 123 = .ok (.goto (-66), 3) := by decide +kernel
theorem dX1_chooseStrokes_126 : decode cX1_chooseStrokes 126 = .ok (.return_, 1) := by decide +kernel
set_option maxRecDepth 20000 in
theorem ggX2_init_X4_init : GoodIn wsX2_init wsX4_init := goodIn_r _ [12, 13, 2, 3, 4, 14, 15, 16, 17, 21, 22, 23, 24] (by decide +kernel) (by decide +kernel)
set_option maxRecDepth 20000 in
theorem gX2_init_X4_init_n21 : GoodIn wsX2_init (wsX4_init) := ggX2_init_X4_init
theorem dX2_init_0 : decode cX2_init 0 = .ok (.aload_n 0, 1) := by decide +kernel
theorem dX2_init_1 : decode cX2_init 1 = .ok (.invokespecial 3, 3) := by decide +kernel
theorem dX2_init_4 : decode cX2_init 4 = .ok (.aload_n 0, 1) := by decide +kernel
theorem dX2_init_5 : decode cX2_init 5 = .ok (.bipush 8, 2) := by decide +kernel
theorem dX2_init_7 : decode cX2_init 7 = .ok (.newarray .int, 2) := by decide +kernel
theorem dX2_init_9 : decode cX2_init 9 = .ok (.putfield 9, 3) := by decide +kernel
theorem dX2_init_12 : decode cX2_init 12 = .ok (.aload_n 0, 1) := by decide +kernel
theorem dX2_init_13 : decode cX2_init 13 = .ok (.iconst 0, 1) := by decide +kernel
theorem dX2_init_14 : decode cX2_init 14 = .ok (.putfield 15, 3) := by decide +kernel
theorem dX2_init_17 : decode cX2_init 17 = .ok (.aload_n 0, 1) := by decide +kernel
theorem dX2_init_18 : decode cX2_init 18 = .ok (.new 19, 3) := by decide +kernel
theorem dX2_init_21 : decode cX2_init 21 = .ok (.dup, 1) := by decide +kernel
theorem dX2_init_22 : decode cX2_init 22 = .ok (.invokespecial 21, 3) := by decide +kernel
theorem dX2_init_25 : decode cX2_init 25 = .ok (.putfield 22, 3) := by decide +kernel
theorem dX2_init_28 : decode cX2_init 28 = .ok (.return_, 1) := by decide +kernel
set_option maxRecDepth 20000 in
theorem ggX2_read_X4_empty : GoodIn wsX2_read wsX4_empty := goodIn_r _ [8, 9, 82, 83, 84, 85] (by decide +kernel) (by decide +kernel)
set_option maxRecDepth 20000 in
theorem gX2_read_X4_empty : GoodIn wsX2_read (wsV RX2 26 RX4 yX4_empty wsX4_empty) := goodIn_app (goodIn_of _ (by decide +kernel)) ggX2_read_X4_empty
set_option maxRecDepth 20000 in
theorem ggX2_read_X2_candidateOf : GoodIn wsX2_read wsX2_candidateOf := goodIn_r _ [14, 15, 16, 17, 18, 19, 20, 21, 22, 23, 24, 25, 26, 27, 28, 29, 30, 31, 32, 33, 34, 35, 36, 37, 38, 39, 40, 41, 42, 43, 44, 45, 46, 47, 48, 49, 13, 50, 51, 52, 53, 54, 55, 56, 57, 58, 59, 60, 74, 75, 76, 77, 78, 79, 80, 81, 71, 72, 73] (by decide +kernel) (by decide +kernel)
set_option maxRecDepth 20000 in
theorem gX2_read_X2_candidateOf : GoodIn wsX2_read (wsV RX2 34 RX2 yX2_candidateOf wsX2_candidateOf) := goodIn_app (goodIn_of _ (by decide +kernel)) ggX2_read_X2_candidateOf
set_option maxRecDepth 20000 in
theorem ggX2_read_X2_readingWeight : GoodIn wsX2_read wsX2_readingWeight := goodIn_r _ [63] (by decide +kernel) (by decide +kernel)
set_option maxRecDepth 20000 in
theorem gX2_read_X2_readingWeight : GoodIn wsX2_read (va_wsS RX2 41 yX2_readingWeight wsX2_readingWeight) := goodIn_app (goodIn_of _ (by decide +kernel)) ggX2_read_X2_readingWeight
set_option maxRecDepth 20000 in
theorem ggX2_read_X4_insert : GoodIn wsX2_read wsX4_insert := goodIn_r _ [67, 9, 68, 69, 70, 82, 83, 84, 85] (by decide +kernel) (by decide +kernel)
set_option maxRecDepth 20000 in
theorem gX2_read_X4_insert : GoodIn wsX2_read (wsV RX2 45 RX4 yX4_insert wsX4_insert) := goodIn_app (goodIn_of _ (by decide +kernel)) ggX2_read_X4_insert
theorem dX2_read_0 : decode cX2_read 0 = .ok (.aload_n 0, 1) := by decide +kernel
theorem dX2_read_1 : decode cX2_read 1 = .ok (.getfield 22, 3) := by decide +kernel
theorem dX2_read_4 : decode cX2_read 4 = .ok (.invokevirtual 26, 3) := by decide +kernel
theorem dX2_read_7 : decode cX2_read 7 = .ok (.iconst 0, 1) := by decide +kernel
theorem dX2_read_8 : decode cX2_read 8 = .ok (.istore_n 2, 1) := by decide +kernel
theorem dX2_read_9 : decode cX2_read 9 = .ok (.iload_n 2, 1) := by decide +kernel
theorem dX2_read_10 : decode cX2_read 10 = .ok (.aload_n 1, 1) := by decide +kernel
theorem dX2_read_11 : decode cX2_read 11 = .ok (.getfield 29, 3) := by decide +kernel
theorem dX2_read_14 : decode cX2_read 14 = .ok (.if_icmp .ge 45, 3) := by decide +kernel
theorem dX2_read_17 : decode cX2_read 17 = .ok (.aload_n 0, 1) := by decide +kernel
theorem dX2_read_18 : decode cX2_read 18 = .ok (.aload_n 1, 1) := by decide +kernel
theorem dX2_read_19 : decode cX2_read 19 = .ok (.iload_n 2, 1) := by decide +kernel
theorem dX2_read_20 : decode cX2_read 20 = .ok (.invokevirtual 34, 3) := by decide +kernel
theorem dX2_read_23 : decode cX2_read 23 = .ok (.istore_n 3, 1) := by decide +kernel
theorem dX2_read_24 : decode cX2_read 24 = .ok (.iload_n 3, 1) := by decide +kernel
theorem dX2_read_25 : decode cX2_read 25 = .ok (.iconst (-1), 1) := by decide +kernel
theorem dX2_read_26 : decode cX2_read 26 = .ok (.if_icmp .eq 27, 3) := by decide +kernel
theorem dX2_read_29 : decode cX2_read 29 = .ok (.iload_n 3, 1) := by decide +kernel
theorem dX2_read_30 : decode cX2_read 30 = .ok (.iconst 3, 1) := by decide +kernel
theorem dX2_read_31 : decode cX2_read 31 = .ok (.if_icmp .gt 22, 3) := by decide +kernel
theorem dX2_read_34 : decode cX2_read 34 = .ok (.aload_n 0, 1) := by decide +kernel
theorem dX2_read_35 : decode cX2_read 35 = .ok (.getfield 22, 3) := by decide +kernel
theorem dX2_read_38 : decode cX2_read 38 = .ok (.iload_n 2, 1) := by decide +kernel
theorem dX2_read_39 : decode cX2_read 39 = .ok (.iload_n 3, 1) := by decide +kernel
theorem dX2_read_40 : decode cX2_read 40 = .ok (.iload_n 3, 1) := by decide +kernel
theorem dX2_read_41 : decode cX2_read 41 = .ok (.aload_n 1, 1) := by decide +kernel
theorem dX2_read_42 : decode cX2_read 42 = .ok (.getfield 38, 3) := by decide +kernel
theorem dX2_read_45 : decode cX2_read 45 = .ok (.iload_n 2, 1) := by decide +kernel
theorem dX2_read_46 : decode cX2_read 46 = .ok (.iaload, 1) := by decide +kernel
theorem dX2_read_47 : decode cX2_read 47 = .ok (.invokestatic 41, 3) := by decide +kernel
theorem dX2_read_50 : decode cX2_read 50 = .ok (.invokevirtual 45, 3) := by decide +kernel
theorem dX2_read_53 : decode cX2_read 53 = .ok (.iinc 2 1, 3) := by decide +kernel
theorem dX2_read_56 : decode cX2_read 56 = .ok (.goto (-47), 3) := by decide +kernel
theorem dX2_read_59 : decode cX2_read 59 = .ok (.return_, 1) := by decide +kernel
theorem dX2_readingWeight_0 : decode cX2_readingWeight 0 = .ok (.iconst 3, 1) := by decide +kernel
theorem dX2_readingWeight_1 : decode cX2_readingWeight 1 = .ok (.iload_n 0, 1) := by decide +kernel
theorem dX2_readingWeight_2 : decode cX2_readingWeight 2 = .ok (.isub, 1) := by decide +kernel
theorem dX2_readingWeight_3 : decode cX2_readingWeight 3 = .ok (.sipush 1000, 3) := by decide +kernel
theorem dX2_readingWeight_6 : decode cX2_readingWeight 6 = .ok (.imul, 1) := by decide +kernel
theorem dX2_readingWeight_7 : decode cX2_readingWeight 7 = .ok (.iload_n 1, 1) := by decide +kernel
theorem dX2_readingWeight_8 : decode cX2_readingWeight 8 = .ok (.iadd, 1) := by decide +kernel
theorem dX2_readingWeight_9 : decode cX2_readingWeight 9 = .ok (.ireturn, 1) := by decide +kernel
set_option maxRecDepth 20000 in
theorem ggX2_candidateOf_X6_difference : GoodIn wsX2_candidateOf wsX6_difference := goodIn_r _ [6, 7, 8, 9, 10, 11, 12, 5, 13, 14, 15, 16] (by decide +kernel) (by decide +kernel)
set_option maxRecDepth 20000 in
theorem gX2_candidateOf_X6_difference_n52 : GoodIn wsX2_candidateOf (wsX6_difference) := ggX2_candidateOf_X6_difference
set_option maxRecDepth 20000 in
theorem ggX2_candidateOf_X5_writtenCount : GoodIn wsX2_candidateOf wsX5_writtenCount := goodIn_r _ [21, 22, 23, 24, 25, 20, 26, 27, 28, 29, 30, 31, 32, 48, 49, 50, 51, 52, 53, 54, 55] (by decide +kernel) (by decide +kernel)
set_option maxRecDepth 20000 in
theorem gX2_candidateOf_X5_writtenCount : GoodIn wsX2_candidateOf (wsV RX2 55 RX5 yX5_writtenCount wsX5_writtenCount) := goodIn_app (goodIn_of _ (by decide +kernel)) ggX2_candidateOf_X5_writtenCount
set_option maxRecDepth 20000 in
theorem ggX2_candidateOf_X2_differenceFromWord : GoodIn wsX2_candidateOf wsX2_differenceFromWord := goodIn_r _ [37, 38, 2, 3, 39, 24, 25, 20, 26, 27, 28, 29, 30, 31, 32, 40, 41, 42, 43, 44, 45, 46, 47, 15, 9, 16, 4, 5, 6, 7, 8, 10, 11, 12, 13, 14, 48, 49, 50, 51, 52, 53, 54, 55, 56, 57, 58] (by decide +kernel) (by decide +kernel)
set_option maxRecDepth 20000 in
theorem gX2_candidateOf_X2_differenceFromWord : GoodIn wsX2_candidateOf (wsV RX2 59 RX2 yX2_differenceFromWord wsX2_differenceFromWord) := goodIn_app (goodIn_of _ (by decide +kernel)) ggX2_candidateOf_X2_differenceFromWord
theorem dX2_candidateOf_0 : decode cX2_candidateOf 0 = .ok (.aload_n 1, 1) := by decide +kernel
theorem dX2_candidateOf_1 : decode cX2_candidateOf 1 = .ok (.getfield 49, 3) := by decide +kernel
theorem dX2_candidateOf_4 : decode cX2_candidateOf 4 = .ok (.iload_n 2, 1) := by decide +kernel
theorem dX2_candidateOf_5 : decode cX2_candidateOf 5 = .ok (.iaload, 1) := by decide +kernel
theorem dX2_candidateOf_6 : decode cX2_candidateOf 6 = .ok (.istore_n 3, 1) := by decide +kernel
theorem dX2_candidateOf_7 : decode cX2_candidateOf 7 = .ok (.iload_n 3, 1) := by decide +kernel
theorem dX2_candidateOf_8 : decode cX2_candidateOf 8 = .ok (.iconst (-1), 1) := by decide +kernel
theorem dX2_candidateOf_9 : decode cX2_candidateOf 9 = .ok (.if_icmp .eq 26, 3) := by decide +kernel
theorem dX2_candidateOf_12 : decode cX2_candidateOf 12 = .ok (.aload_n 0, 1) := by decide +kernel
theorem dX2_candidateOf_13 : decode cX2_candidateOf 13 = .ok (.getfield 15, 3) := by decide +kernel
theorem dX2_candidateOf_16 : decode cX2_candidateOf 16 = .ok (.iconst 1, 1) := by decide +kernel
theorem dX2_candidateOf_17 : decode cX2_candidateOf 17 = .ok (.if_icmp .ne 16, 3) := by decide +kernel
theorem dX2_candidateOf_20 : decode cX2_candidateOf 20 = .ok (.aload_n 0, 1) := by decide +kernel
theorem dX2_candidateOf_21 : decode cX2_candidateOf 21 = .ok (.getfield 9, 3) := by decide +kernel
theorem dX2_candidateOf_24 : decode cX2_candidateOf 24 = .ok (.iconst 0, 1) := by decide +kernel
theorem dX2_candidateOf_25 : decode cX2_candidateOf 25 = .ok (.iaload, 1) := by decide +kernel
theorem dX2_candidateOf_26 : decode cX2_candidateOf 26 = .ok (.iload_n 3, 1) := by decide +kernel
theorem dX2_candidateOf_27 : decode cX2_candidateOf 27 = .ok (.invokestatic 52, 3) := by decide +kernel
theorem dX2_candidateOf_30 : decode cX2_candidateOf 30 = .ok (.goto 4, 3) := by decide +kernel
theorem dX2_candidateOf_33 : decode cX2_candidateOf 33 = .ok (.iconst (-1), 1) := by decide +kernel
theorem dX2_candidateOf_34 : decode cX2_candidateOf 34 = .ok (.ireturn, 1) := by decide +kernel
theorem dX2_candidateOf_35 : decode cX2_candidateOf 35 = .ok (.aload_n 1, 1) := by decide +kernel
theorem dX2_candidateOf_36 : decode cX2_candidateOf 36 = .ok (.iload_n 2, 1) := by decide +kernel
theorem dX2_candidateOf_37 : decode cX2_candidateOf 37 = .ok (.invokevirtual 55, 3) := by decide +kernel
theorem dX2_candidateOf_40 : decode cX2_candidateOf 40 = .ok (.aload_n 0, 1) := by decide +kernel
theorem dX2_candidateOf_41 : decode cX2_candidateOf 41 = .ok (.getfield 15, 3) := by decide +kernel
theorem dX2_candidateOf_44 : decode cX2_candidateOf 44 = .ok (.if_icmp .ne 12, 3) := by decide +kernel
theorem dX2_candidateOf_47 : decode cX2_candidateOf 47 = .ok (.aload_n 0, 1) := by decide +kernel
theorem dX2_candidateOf_48 : decode cX2_candidateOf 48 = .ok (.aload_n 1, 1) := by decide +kernel
theorem dX2_candidateOf_49 : decode cX2_candidateOf 49 = .ok (.iload_n 2, 1) := by decide +kernel
theorem dX2_candidateOf_50 : decode cX2_candidateOf 50 = .ok (.invokevirtual 59, 3) := by decide +kernel
theorem dX2_candidateOf_53 : decode cX2_candidateOf 53 = .ok (.goto 4, 3) := by decide +kernel
theorem dX2_candidateOf_56 : decode cX2_candidateOf 56 = .ok (.iconst (-1), 1) := by decide +kernel
theorem dX2_candidateOf_57 : decode cX2_candidateOf 57 = .ok (.ireturn, 1) := by decide +kernel
set_option maxRecDepth 20000 in
theorem ggX2_differenceFromWord_X5_isWritten : GoodIn wsX2_differenceFromWord wsX5_isWritten := goodIn_r _ [8, 9, 10, 11, 12, 7, 13, 14, 36, 37, 38, 39, 40, 41, 42, 43] (by decide +kernel) (by decide +kernel)
set_option maxRecDepth 20000 in
theorem gX2_differenceFromWord_X5_isWritten : GoodIn wsX2_differenceFromWord (wsV RX2 65 RX5 yX5_isWritten wsX5_isWritten) := goodIn_app (goodIn_of _ (by decide +kernel)) ggX2_differenceFromWord_X5_isWritten
set_option maxRecDepth 20000 in
theorem ggX2_differenceFromWord_X5_soundAt : GoodIn wsX2_differenceFromWord wsX5_soundAt := goodIn_r _ [13, 14, 36, 37, 38, 39, 40, 41, 42, 43] (by decide +kernel) (by decide +kernel)
set_option maxRecDepth 20000 in
theorem gX2_differenceFromWord_X5_soundAt : GoodIn wsX2_differenceFromWord (wsV RX2 69 RX5 yX5_soundAt wsX5_soundAt) := goodIn_app (goodIn_of _ (by decide +kernel)) ggX2_differenceFromWord_X5_soundAt
set_option maxRecDepth 20000 in
theorem ggX2_differenceFromWord_X5_differenceFromSound : GoodIn wsX2_differenceFromWord wsX5_differenceFromSound := goodIn_r _ [19, 20, 21, 22, 23, 24, 25, 26, 27, 28, 29, 30, 31, 32, 33, 34, 35, 36, 37, 38, 39, 40, 41, 42, 43] (by decide +kernel) (by decide +kernel)
set_option maxRecDepth 20000 in
theorem gX2_differenceFromWord_X5_differenceFromSound : GoodIn wsX2_differenceFromWord (wsV RX2 72 RX5 yX5_differenceFromSound wsX5_differenceFromSound) := goodIn_app (goodIn_of _ (by decide +kernel)) ggX2_differenceFromWord_X5_differenceFromSound
theorem dX2_differenceFromWord_0 : decode cX2_differenceFromWord 0 = .ok (.iconst 0, 1) := by decide +kernel
theorem dX2_differenceFromWord_1 : decode cX2_differenceFromWord 1 = .ok (.istore_n 3, 1) := by decide +kernel
theorem dX2_differenceFromWord_2 : decode cX2_differenceFromWord 2 = .ok (.iconst 0, 1) := by decide +kernel
theorem dX2_differenceFromWord_3 : decode cX2_differenceFromWord 3 = .ok (.istore 4, 2) := by decide +kernel
theorem dX2_differenceFromWord_5 : decode cX2_differenceFromWord 5 = .ok (.iconst 0, 1) := by decide +kernel
theorem dX2_differenceFromWord_6 : decode cX2_differenceFromWord 6 = .ok (.istore 5, 2) := by decide +kernel
theorem dX2_differenceFromWord_8 : decode cX2_differenceFromWord 8 = .ok (.iload 5, 2) := by decide +kernel
theorem dX2_differenceFromWord_10 : decode cX2_differenceFromWord 10 = .ok (.aload_n 1, 1) := by decide +kernel
theorem dX2_differenceFromWord_11 : decode cX2_differenceFromWord 11 = .ok (.getfield 62, 3) := by decide +kernel
theorem dX2_differenceFromWord_14 : decode cX2_differenceFromWord 14 = .ok (.iload_n 2, 1) := by decide +kernel
theorem dX2_differenceFromWord_15 : decode cX2_differenceFromWord 15 = .ok (.iaload, 1) := by decide +kernel
theorem dX2_differenceFromWord_16 : decode cX2_differenceFromWord 16 = .ok (.if_icmp .ge 52, 3) := by decide +kernel
theorem dX2_differenceFromWord_19 : decode cX2_differenceFromWord 19 = .ok (.iload 4, 2) := by decide +kernel
theorem dX2_differenceFromWord_21 : decode cX2_differenceFromWord 21 = .ok (.aload_n 0, 1) := by decide +kernel
theorem dX2_differenceFromWord_22 : decode cX2_differenceFromWord 22 = .ok (.getfield 15, 3) := by decide +kernel
theorem dX2_differenceFromWord_25 : decode cX2_differenceFromWord 25 = .ok (.if_icmp .ge 43, 3) := by decide +kernel
theorem dX2_differenceFromWord_28 : decode cX2_differenceFromWord 28 = .ok (.aload_n 1, 1) := by decide +kernel
theorem dX2_differenceFromWord_29 : decode cX2_differenceFromWord 29 = .ok (.iload_n 2, 1) := by decide +kernel
theorem dX2_differenceFromWord_30 : decode cX2_differenceFromWord 30 = .ok (.iload 5, 2) := by decide +kernel
theorem dX2_differenceFromWord_32 : decode cX2_differenceFromWord 32 = .ok (.invokevirtual 65, 3) := by decide +kernel
theorem dX2_differenceFromWord_35 : decode cX2_differenceFromWord 35 = .ok (.ifCond .eq 27, 3) := by decide +kernel
theorem dX2_differenceFromWord_38 : decode cX2_differenceFromWord 38 = .ok (.iload_n 3, 1) := by decide +kernel
theorem dX2_differenceFromWord_39 : decode cX2_differenceFromWord 39 = .ok (.aload_n 1, 1) := by decide +kernel
theorem dX2_differenceFromWord_40 : decode cX2_differenceFromWord 40 = .ok (.aload_n 0, 1) := by decide +kernel
theorem dX2_differenceFromWord_41 : decode cX2_differenceFromWord 41 = .ok (.getfield 9, 3) := by decide +kernel
theorem dX2_differenceFromWord_44 : decode cX2_differenceFromWord 44 = .ok (.iload 4, 2) := by decide +kernel
theorem dX2_differenceFromWord_46 : decode cX2_differenceFromWord 46 = .ok (.iaload, 1) := by decide +kernel
theorem dX2_differenceFromWord_47 : decode cX2_differenceFromWord 47 = .ok (.aload_n 1, 1) := by decide +kernel
theorem dX2_differenceFromWord_48 : decode cX2_differenceFromWord 48 = .ok (.iload_n 2, 1) := by decide +kernel
theorem dX2_differenceFromWord_49 : decode cX2_differenceFromWord 49 = .ok (.iload 5, 2) := by decide +kernel
theorem dX2_differenceFromWord_51 : decode cX2_differenceFromWord 51 = .ok (.invokevirtual 69, 3) := by decide +kernel
theorem dX2_differenceFromWord_54 : decode cX2_differenceFromWord 54 = .ok (.invokevirtual 72, 3) := by decide +kernel
theorem dX2_differenceFromWord_57 : decode cX2_differenceFromWord 57 = .ok (.iadd, 1) := by decide +kernel
theorem dX2_differenceFromWord_58 : decode cX2_differenceFromWord 58 = .ok (.istore_n 3, 1) := by decide +kernel
theorem dX2_differenceFromWord_59 : decode cX2_differenceFromWord 59 = .ok (.iinc 4 1, 3) := by decide +kernel
theorem dX2_differenceFromWord_62 : decode cX2_differenceFromWord 62 = .ok (.iinc 5 1, 3) := by decide +kernel
theorem dX2_differenceFromWord_65 : decode cX2_differenceFromWord 65 = .ok (.goto (-57), 3) := by decide +kernel
theorem dX2_differenceFromWord_68 : decode cX2_differenceFromWord 68 = .ok (.iload_n 3, 1) := by decide +kernel
theorem dX2_differenceFromWord_69 : decode cX2_differenceFromWord 69 = .ok (.ireturn, 1) := by decide +kernel
set_option maxRecDepth 20000 in
theorem ggX3_init_X4_init : GoodIn wsX3_init wsX4_init := goodIn_r _ [12, 13, 2, 3, 14, 15, 16, 17, 18, 19, 20, 21, 22] (by decide +kernel) (by decide +kernel)
set_option maxRecDepth 20000 in
theorem gX3_init_X4_init_n11 : GoodIn wsX3_init (wsX4_init) := ggX3_init_X4_init
theorem dX3_init_0 : decode cX3_init 0 = .ok (.aload_n 0, 1) := by decide +kernel
theorem dX3_init_1 : decode cX3_init 1 = .ok (.invokespecial 3, 3) := by decide +kernel
theorem dX3_init_4 : decode cX3_init 4 = .ok (.aload_n 0, 1) := by decide +kernel
theorem dX3_init_5 : decode cX3_init 5 = .ok (.new 9, 3) := by decide +kernel
theorem dX3_init_8 : decode cX3_init 8 = .ok (.dup, 1) := by decide +kernel
theorem dX3_init_9 : decode cX3_init 9 = .ok (.invokespecial 11, 3) := by decide +kernel
theorem dX3_init_12 : decode cX3_init 12 = .ok (.putfield 12, 3) := by decide +kernel
theorem dX3_init_15 : decode cX3_init 15 = .ok (.aload_n 0, 1) := by decide +kernel
theorem dX3_init_16 : decode cX3_init 16 = .ok (.new 9, 3) := by decide +kernel
theorem dX3_init_19 : decode cX3_init 19 = .ok (.dup, 1) := by decide +kernel
theorem dX3_init_20 : decode cX3_init 20 = .ok (.invokespecial 11, 3) := by decide +kernel
theorem dX3_init_23 : decode cX3_init 23 = .ok (.putfield 18, 3) := by decide +kernel
theorem dX3_init_26 : decode cX3_init 26 = .ok (.aload_n 0, 1) := by decide +kernel
theorem dX3_init_27 : decode cX3_init 27 = .ok (.bipush 24, 2) := by decide +kernel
theorem dX3_init_29 : decode cX3_init 29 = .ok (.newarray .boolean, 2) := by decide +kernel
theorem dX3_init_31 : decode cX3_init 31 = .ok (.putfield 21, 3) := by decide +kernel
theorem dX3_init_34 : decode cX3_init 34 = .ok (.return_, 1) := by decide +kernel
set_option maxRecDepth 20000 in
theorem ggX3_make_X3_rankCandidates : GoodIn wsX3_make wsX3_rankCandidates := goodIn_r _ [10, 2, 11, 12, 13, 14, 15, 16, 17, 18, 19, 20, 21, 22, 23, 24, 25, 26, 27, 28, 29, 30, 31, 32, 33, 34, 35, 36, 37, 38, 39, 40, 41, 42, 43, 44, 45, 46, 61, 62, 63, 68, 69, 70, 71, 72, 73, 74, 75, 64, 65, 66, 67] (by decide +kernel) (by decide +kernel)
set_option maxRecDepth 20000 in
theorem gX3_make_X3_rankCandidates : GoodIn wsX3_make (wsV RX3 25 RX3 yX3_rankCandidates wsX3_rankCandidates) := goodIn_app (goodIn_of _ (by decide +kernel)) ggX3_make_X3_rankCandidates
set_option maxRecDepth 20000 in
theorem ggX3_make_X3_markKeptStrokes : GoodIn wsX3_make wsX3_markKeptStrokes := goodIn_r _ [50, 4, 11, 51, 52, 53, 22, 54, 55, 56, 25, 26, 27, 28, 29, 30, 31, 32, 33, 34, 35, 36, 37, 38, 39, 61, 62, 63, 68, 69, 70, 71, 72, 73, 74, 75] (by decide +kernel) (by decide +kernel)
set_option maxRecDepth 20000 in
theorem gX3_make_X3_markKeptStrokes : GoodIn wsX3_make (wsV RX3 29 RX3 yX3_markKeptStrokes wsX3_markKeptStrokes) := goodIn_app (goodIn_of _ (by decide +kernel)) ggX3_make_X3_markKeptStrokes
set_option maxRecDepth 20000 in
theorem ggX3_make_X4_empty : GoodIn wsX3_make wsX4_empty := goodIn_r _ [17, 18, 64, 65, 66, 67] (by decide +kernel) (by decide +kernel)
set_option maxRecDepth 20000 in
theorem gX3_make_X4_empty : GoodIn wsX3_make (wsV RX3 32 RX4 yX4_empty wsX4_empty) := goodIn_app (goodIn_of _ (by decide +kernel)) ggX3_make_X4_empty
set_option maxRecDepth 20000 in
theorem ggX3_make_X3_lowestUntaken : GoodIn wsX3_make wsX3_lowestUntaken := goodIn_r _ [60, 4, 61, 62, 63] (by decide +kernel) (by decide +kernel)
set_option maxRecDepth 20000 in
theorem gX3_make_X3_lowestUntaken : GoodIn wsX3_make (wsV RX3 39 RX3 yX3_lowestUntaken wsX3_lowestUntaken) := goodIn_app (goodIn_of _ (by decide +kernel)) ggX3_make_X3_lowestUntaken
set_option maxRecDepth 20000 in
theorem ggX3_make_X4_insert : GoodIn wsX3_make wsX4_insert := goodIn_r _ [43, 18, 44, 45, 46, 64, 65, 66, 67] (by decide +kernel) (by decide +kernel)
set_option maxRecDepth 20000 in
theorem gX3_make_X4_insert : GoodIn wsX3_make (wsV RX3 47 RX4 yX4_insert wsX4_insert) := goodIn_app (goodIn_of _ (by decide +kernel)) ggX3_make_X4_insert
theorem dX3_make_0 : decode cX3_make 0 = .ok (.aload_n 0, 1) := by decide +kernel
theorem dX3_make_1 : decode cX3_make 1 = .ok (.aload_n 1, 1) := by decide +kernel
theorem dX3_make_2 : decode cX3_make 2 = .ok (.invokevirtual 25, 3) := by decide +kernel
theorem dX3_make_5 : decode cX3_make 5 = .ok (.aload_n 0, 1) := by decide +kernel
theorem dX3_make_6 : decode cX3_make 6 = .ok (.aload_n 1, 1) := by decide +kernel
theorem dX3_make_7 : decode cX3_make 7 = .ok (.invokevirtual 29, 3) := by decide +kernel
theorem dX3_make_10 : decode cX3_make 10 = .ok (.aload_n 0, 1) := by decide +kernel
theorem dX3_make_11 : decode cX3_make 11 = .ok (.getfield 12, 3) := by decide +kernel
theorem dX3_make_14 : decode cX3_make 14 = .ok (.invokevirtual 32, 3) := by decide +kernel
theorem dX3_make_17 : decode cX3_make 17 = .ok (.iconst 0, 1) := by decide +kernel
theorem dX3_make_18 : decode cX3_make 18 = .ok (.istore_n 2, 1) := by decide +kernel
theorem dX3_make_19 : decode cX3_make 19 = .ok (.iload_n 2, 1) := by decide +kernel
theorem dX3_make_20 : decode cX3_make 20 = .ok (.aload_n 0, 1) := by decide +kernel
theorem dX3_make_21 : decode cX3_make 21 = .ok (.getfield 18, 3) := by decide +kernel
theorem dX3_make_24 : decode cX3_make 24 = .ok (.getfield 35, 3) := by decide +kernel
theorem dX3_make_27 : decode cX3_make 27 = .ok (.if_icmp .ge 44, 3) := by decide +kernel
theorem dX3_make_30 : decode cX3_make 30 = .ok (.aload_n 0, 1) := by decide +kernel
theorem dX3_make_31 : decode cX3_make 31 = .ok (.invokevirtual 39, 3) := by decide +kernel
theorem dX3_make_34 : decode cX3_make 34 = .ok (.istore_n 3, 1) := by decide +kernel
theorem dX3_make_35 : decode cX3_make 35 = .ok (.iload_n 3, 1) := by decide +kernel
theorem dX3_make_36 : decode cX3_make 36 = .ok (.iconst (-1), 1) := by decide +kernel
theorem dX3_make_37 : decode cX3_make 37 = .ok (.if_icmp .eq 28, 3) := by decide +kernel
theorem dX3_make_40 : decode cX3_make 40 = .ok (.aload_n 0, 1) := by decide +kernel
theorem dX3_make_41 : decode cX3_make 41 = .ok (.getfield 21, 3) := by decide +kernel
theorem dX3_make_44 : decode cX3_make 44 = .ok (.iload_n 3, 1) := by decide +kernel
theorem dX3_make_45 : decode cX3_make 45 = .ok (.iconst 1, 1) := by decide +kernel
theorem dX3_make_46 : decode cX3_make 46 = .ok (.bastore, 1) := by decide +kernel
theorem dX3_make_47 : decode cX3_make 47 = .ok (.aload_n 0, 1) := by decide +kernel
theorem dX3_make_48 : decode cX3_make 48 = .ok (.getfield 12, 3) := by decide +kernel
theorem dX3_make_51 : decode cX3_make 51 = .ok (.aload_n 0, 1) := by decide +kernel
theorem dX3_make_52 : decode cX3_make 52 = .ok (.getfield 18, 3) := by decide +kernel
theorem dX3_make_55 : decode cX3_make 55 = .ok (.getfield 43, 3) := by decide +kernel
theorem dX3_make_58 : decode cX3_make 58 = .ok (.iload_n 2, 1) := by decide +kernel
theorem dX3_make_59 : decode cX3_make 59 = .ok (.iaload, 1) := by decide +kernel
theorem dX3_make_60 : decode cX3_make 60 = .ok (.iload_n 3, 1) := by decide +kernel
theorem dX3_make_61 : decode cX3_make 61 = .ok (.iconst 0, 1) := by decide +kernel
theorem dX3_make_62 : decode cX3_make 62 = .ok (.invokevirtual 47, 3) := by decide +kernel
theorem dX3_make_65 : decode cX3_make 65 = .ok (.iinc 2 1, 3) := by decide +kernel
theorem dX3_make_68 : decode cX3_make 68 = .ok (.goto (-49), 3) := by decide +kernel
theorem dX3_make_71 : decode cX3_make 71 = .ok (.return_, 1) := by decide +kernel
set_option maxRecDepth 20000 in
theorem ggX3_rankCandidates_X4_empty : GoodIn wsX3_rankCandidates wsX4_empty := goodIn_r _ [8, 9, 49, 50, 51, 52] (by decide +kernel) (by decide +kernel)
set_option maxRecDepth 20000 in
theorem gX3_rankCandidates_X4_empty : GoodIn wsX3_rankCandidates (wsV RX3 32 RX4 yX4_empty wsX4_empty) := goodIn_app (goodIn_of _ (by decide +kernel)) ggX3_rankCandidates_X4_empty
set_option maxRecDepth 20000 in
theorem ggX3_rankCandidates_X5_gainOf : GoodIn wsX3_rankCandidates wsX5_gainOf := goodIn_r _ [14, 15, 16, 17, 18, 13, 19, 20, 21, 22, 23, 24, 25, 26, 27, 28, 29, 30, 41, 42, 43, 44, 45, 46, 47, 48] (by decide +kernel) (by decide +kernel)
set_option maxRecDepth 20000 in
theorem gX3_rankCandidates_X5_gainOf : GoodIn wsX3_rankCandidates (wsV RX3 56 RX5 yX5_gainOf wsX5_gainOf) := goodIn_app (goodIn_of _ (by decide +kernel)) ggX3_rankCandidates_X5_gainOf
set_option maxRecDepth 20000 in
theorem ggX3_rankCandidates_X4_insert : GoodIn wsX3_rankCandidates wsX4_insert := goodIn_r _ [34, 9, 35, 36, 37, 49, 50, 51, 52] (by decide +kernel) (by decide +kernel)
set_option maxRecDepth 20000 in
theorem gX3_rankCandidates_X4_insert : GoodIn wsX3_rankCandidates (wsV RX3 47 RX4 yX4_insert wsX4_insert) := goodIn_app (goodIn_of _ (by decide +kernel)) ggX3_rankCandidates_X4_insert
theorem dX3_rankCandidates_0 : decode cX3_rankCandidates 0 = .ok (.aload_n 0, 1) := by decide +kernel
theorem dX3_rankCandidates_1 : decode cX3_rankCandidates 1 = .ok (.getfield 18, 3) := by decide +kernel
theorem dX3_rankCandidates_4 : decode cX3_rankCandidates 4 = .ok (.invokevirtual 32, 3) := by decide +kernel
theorem dX3_rankCandidates_7 : decode cX3_rankCandidates 7 = .ok (.iconst 0, 1) := by decide +kernel
theorem dX3_rankCandidates_8 : decode cX3_rankCandidates 8 = .ok (.istore_n 2, 1) := by decide +kernel
theorem dX3_rankCandidates_9 : decode cX3_rankCandidates 9 = .ok (.iload_n 2, 1) := by decide +kernel
theorem dX3_rankCandidates_10 : decode cX3_rankCandidates 10 = .ok (.aload_n 1, 1) := by decide +kernel
theorem dX3_rankCandidates_11 : decode cX3_rankCandidates 11 = .ok (.getfield 51, 3) := by decide +kernel
theorem dX3_rankCandidates_14 : decode cX3_rankCandidates 14 = .ok (.if_icmp .ge 40, 3) := by decide +kernel
theorem dX3_rankCandidates_17 : decode cX3_rankCandidates 17 = .ok (.aload_n 1, 1) := by decide +kernel
theorem dX3_rankCandidates_18 : decode cX3_rankCandidates 18 = .ok (.iload_n 2, 1) := by decide +kernel
theorem dX3_rankCandidates_19 : decode cX3_rankCandidates 19 = .ok (.invokevirtual 56, 3) := by decide +kernel
theorem dX3_rankCandidates_22 : decode cX3_rankCandidates 22 = .ok (.istore_n 3, 1) := by decide +kernel
theorem dX3_rankCandidates_23 : decode cX3_rankCandidates 23 = .ok (.aload_n 1, 1) := by decide +kernel
theorem dX3_rankCandidates_24 : decode cX3_rankCandidates 24 = .ok (.getfield 60, 3) := by decide +kernel
theorem dX3_rankCandidates_27 : decode cX3_rankCandidates 27 = .ok (.iload_n 2, 1) := by decide +kernel
theorem dX3_rankCandidates_28 : decode cX3_rankCandidates 28 = .ok (.iaload, 1) := by decide +kernel
theorem dX3_rankCandidates_29 : decode cX3_rankCandidates 29 = .ok (.iconst (-1), 1) := by decide +kernel
theorem dX3_rankCandidates_30 : decode cX3_rankCandidates 30 = .ok (.if_icmp .ne 18, 3) := by decide +kernel
theorem dX3_rankCandidates_33 : decode cX3_rankCandidates 33 = .ok (.iload_n 3, 1) := by decide +kernel
theorem dX3_rankCandidates_34 : decode cX3_rankCandidates 34 = .ok (.iconst 1, 1) := by decide +kernel
theorem dX3_rankCandidates_35 : decode cX3_rankCandidates 35 = .ok (.if_icmp .lt 13, 3) := by decide +kernel
theorem dX3_rankCandidates_38 : decode cX3_rankCandidates 38 = .ok (.aload_n 0, 1) := by decide +kernel
theorem dX3_rankCandidates_39 : decode cX3_rankCandidates 39 = .ok (.getfield 18, 3) := by decide +kernel
theorem dX3_rankCandidates_42 : decode cX3_rankCandidates 42 = .ok (.iload_n 2, 1) := by decide +kernel
theorem dX3_rankCandidates_43 : decode cX3_rankCandidates 43 = .ok (.iconst (-1), 1) := by decide +kernel
theorem dX3_rankCandidates_44 : decode cX3_rankCandidates 44 = .ok (.iload_n 3, 1) := by decide +kernel
theorem dX3_rankCandidates_45 : decode cX3_rankCandidates 45 = .ok (.invokevirtual 47, 3) := by decide +kernel
theorem dX3_rankCandidates_48 : decode cX3_rankCandidates 48 = .ok (.iinc 2 1, 3) := by decide +kernel
theorem dX3_rankCandidates_51 : decode cX3_rankCandidates 51 = .ok (.goto (-42), 3) := by decide +kernel
theorem dX3_rankCandidates_54 : decode cX3_rankCandidates 54 = .ok (.return_, 1) := by decide +kernel
set_option maxRecDepth 20000 in
theorem ggX3_markKeptStrokes_X5_keptStroke : GoodIn wsX3_markKeptStrokes wsX5_keptStroke := goodIn_r _ [7, 8, 9, 10, 11, 12, 6, 13, 14, 15, 16, 17, 18, 19, 20, 21, 22, 23, 24, 28, 29, 30, 31, 32, 33, 34, 35] (by decide +kernel) (by decide +kernel)
set_option maxRecDepth 20000 in
theorem gX3_markKeptStrokes_X5_keptStroke : GoodIn wsX3_markKeptStrokes (wsV RX3 63 RX5 yX5_keptStroke wsX5_keptStroke) := goodIn_app (goodIn_of _ (by decide +kernel)) ggX3_markKeptStrokes_X5_keptStroke
theorem dX3_markKeptStrokes_0 : decode cX3_markKeptStrokes 0 = .ok (.iconst 0, 1) := by decide +kernel
theorem dX3_markKeptStrokes_1 : decode cX3_markKeptStrokes 1 = .ok (.istore_n 2, 1) := by decide +kernel
theorem dX3_markKeptStrokes_2 : decode cX3_markKeptStrokes 2 = .ok (.iload_n 2, 1) := by decide +kernel
theorem dX3_markKeptStrokes_3 : decode cX3_markKeptStrokes 3 = .ok (.bipush 24, 2) := by decide +kernel
theorem dX3_markKeptStrokes_5 : decode cX3_markKeptStrokes 5 = .ok (.if_icmp .ge 16, 3) := by decide +kernel
theorem dX3_markKeptStrokes_8 : decode cX3_markKeptStrokes 8 = .ok (.aload_n 0, 1) := by decide +kernel
theorem dX3_markKeptStrokes_9 : decode cX3_markKeptStrokes 9 = .ok (.getfield 21, 3) := by decide +kernel
theorem dX3_markKeptStrokes_12 : decode cX3_markKeptStrokes 12 = .ok (.iload_n 2, 1) := by decide +kernel
theorem dX3_markKeptStrokes_13 : decode cX3_markKeptStrokes 13 = .ok (.iconst 0, 1) := by decide +kernel
theorem dX3_markKeptStrokes_14 : decode cX3_markKeptStrokes 14 = .ok (.bastore, 1) := by decide +kernel
theorem dX3_markKeptStrokes_15 : decode cX3_markKeptStrokes 15 = .ok (.iinc 2 1, 3) := by decide +kernel
theorem dX3_markKeptStrokes_18 : decode cX3_markKeptStrokes 18 = .ok (.goto (-16), 3) := by decide +kernel
theorem dX3_markKeptStrokes_21 : decode cX3_markKeptStrokes 21 = .ok (.iconst 0, 1) := by decide +kernel
theorem dX3_markKeptStrokes_22 : decode cX3_markKeptStrokes 22 = .ok (.istore_n 2, 1) := by decide +kernel
theorem dX3_markKeptStrokes_23 : decode cX3_markKeptStrokes 23 = .ok (.iload_n 2, 1) := by decide +kernel
theorem dX3_markKeptStrokes_24 : decode cX3_markKeptStrokes 24 = .ok (.aload_n 1, 1) := by decide +kernel
theorem dX3_markKeptStrokes_25 : decode cX3_markKeptStrokes 25 = .ok (.getfield 51, 3) := by decide +kernel
theorem dX3_markKeptStrokes_28 : decode cX3_markKeptStrokes 28 = .ok (.if_icmp .ge 27, 3) := by decide +kernel
theorem dX3_markKeptStrokes_31 : decode cX3_markKeptStrokes 31 = .ok (.aload_n 1, 1) := by decide +kernel
theorem dX3_markKeptStrokes_32 : decode cX3_markKeptStrokes 32 = .ok (.iload_n 2, 1) := by decide +kernel
theorem dX3_markKeptStrokes_33 : decode cX3_markKeptStrokes 33 = .ok (.invokevirtual 63, 3) := by decide +kernel
theorem dX3_markKeptStrokes_36 : decode cX3_markKeptStrokes 36 = .ok (.istore_n 3, 1) := by decide +kernel
theorem dX3_markKeptStrokes_37 : decode cX3_markKeptStrokes 37 = .ok (.iload_n 3, 1) := by decide +kernel
theorem dX3_markKeptStrokes_38 : decode cX3_markKeptStrokes 38 = .ok (.iconst (-1), 1) := by decide +kernel
theorem dX3_markKeptStrokes_39 : decode cX3_markKeptStrokes 39 = .ok (.if_icmp .eq 10, 3) := by decide +kernel
theorem dX3_markKeptStrokes_42 : decode cX3_markKeptStrokes 42 = .ok (.aload_n 0, 1) := by decide +kernel
theorem dX3_markKeptStrokes_43 : decode cX3_markKeptStrokes 43 = .ok (.getfield 21, 3) := by decide +kernel
theorem dX3_markKeptStrokes_46 : decode cX3_markKeptStrokes 46 = .ok (.iload_n 3, 1) := by decide +kernel
theorem dX3_markKeptStrokes_47 : decode cX3_markKeptStrokes 47 = .ok (.iconst 1, 1) := by decide +kernel
theorem dX3_markKeptStrokes_48 : decode cX3_markKeptStrokes 48 = .ok (.bastore, 1) := by decide +kernel
theorem dX3_markKeptStrokes_49 : decode cX3_markKeptStrokes 49 = .ok (.iinc 2 1, 3) := by decide +kernel
theorem dX3_markKeptStrokes_52 : decode cX3_markKeptStrokes 52 = .ok (.goto (-29), 3) := by decide +kernel
theorem dX3_markKeptStrokes_55 : decode cX3_markKeptStrokes 55 = .ok (.return_, 1) := by decide +kernel
theorem dX3_lowestUntaken_0 : decode cX3_lowestUntaken 0 = .ok (.iconst 0, 1) := by decide +kernel
theorem dX3_lowestUntaken_1 : decode cX3_lowestUntaken 1 = .ok (.istore_n 1, 1) := by decide +kernel
theorem dX3_lowestUntaken_2 : decode cX3_lowestUntaken 2 = .ok (.iload_n 1, 1) := by decide +kernel
theorem dX3_lowestUntaken_3 : decode cX3_lowestUntaken 3 = .ok (.bipush 24, 2) := by decide +kernel
theorem dX3_lowestUntaken_5 : decode cX3_lowestUntaken 5 = .ok (.if_icmp .ge 20, 3) := by decide +kernel
theorem dX3_lowestUntaken_8 : decode cX3_lowestUntaken 8 = .ok (.aload_n 0, 1) := by decide +kernel
theorem dX3_lowestUntaken_9 : decode cX3_lowestUntaken 9 = .ok (.getfield 21, 3) := by decide +kernel
theorem dX3_lowestUntaken_12 : decode cX3_lowestUntaken 12 = .ok (.iload_n 1, 1) := by decide +kernel
theorem dX3_lowestUntaken_13 : decode cX3_lowestUntaken 13 = .ok (.baload, 1) := by decide +kernel
theorem dX3_lowestUntaken_14 : decode cX3_lowestUntaken 14 = .ok (.ifCond .ne 5, 3) := by decide +kernel
theorem dX3_lowestUntaken_17 : decode cX3_lowestUntaken 17 = .ok (.iload_n 1, 1) := by decide +kernel
theorem dX3_lowestUntaken_18 : decode cX3_lowestUntaken 18 = .ok (.ireturn, 1) := by decide +kernel
theorem dX3_lowestUntaken_19 : decode cX3_lowestUntaken 19 = .ok (.iinc 1 1, 3) := by decide +kernel
theorem dX3_lowestUntaken_22 : decode cX3_lowestUntaken 22 = .ok (.goto (-20), 3) := by decide +kernel
theorem dX3_lowestUntaken_25 : decode cX3_lowestUntaken 25 = .ok (.iconst (-1), 1) := by decide +kernel
theorem dX3_lowestUntaken_26 : decode cX3_lowestUntaken 26 = .ok (.ireturn, 1) := by decide +kernel
theorem dX4_init_0 : decode cX4_init 0 = .ok (.aload_n 0, 1) := by decide +kernel
theorem dX4_init_1 : decode cX4_init 1 = .ok (.invokespecial 3, 3) := by decide +kernel
theorem dX4_init_4 : decode cX4_init 4 = .ok (.aload_n 0, 1) := by decide +kernel
theorem dX4_init_5 : decode cX4_init 5 = .ok (.bipush 12, 2) := by decide +kernel
theorem dX4_init_7 : decode cX4_init 7 = .ok (.newarray .int, 2) := by decide +kernel
theorem dX4_init_9 : decode cX4_init 9 = .ok (.putfield 9, 3) := by decide +kernel
theorem dX4_init_12 : decode cX4_init 12 = .ok (.aload_n 0, 1) := by decide +kernel
theorem dX4_init_13 : decode cX4_init 13 = .ok (.bipush 12, 2) := by decide +kernel
theorem dX4_init_15 : decode cX4_init 15 = .ok (.newarray .int, 2) := by decide +kernel
theorem dX4_init_17 : decode cX4_init 17 = .ok (.putfield 15, 3) := by decide +kernel
theorem dX4_init_20 : decode cX4_init 20 = .ok (.aload_n 0, 1) := by decide +kernel
theorem dX4_init_21 : decode cX4_init 21 = .ok (.bipush 12, 2) := by decide +kernel
theorem dX4_init_23 : decode cX4_init 23 = .ok (.newarray .int, 2) := by decide +kernel
theorem dX4_init_25 : decode cX4_init 25 = .ok (.putfield 18, 3) := by decide +kernel
theorem dX4_init_28 : decode cX4_init 28 = .ok (.aload_n 0, 1) := by decide +kernel
theorem dX4_init_29 : decode cX4_init 29 = .ok (.iconst 0, 1) := by decide +kernel
theorem dX4_init_30 : decode cX4_init 30 = .ok (.putfield 21, 3) := by decide +kernel
theorem dX4_init_33 : decode cX4_init 33 = .ok (.return_, 1) := by decide +kernel
theorem dX4_empty_0 : decode cX4_empty 0 = .ok (.aload_n 0, 1) := by decide +kernel
theorem dX4_empty_1 : decode cX4_empty 1 = .ok (.iconst 0, 1) := by decide +kernel
theorem dX4_empty_2 : decode cX4_empty 2 = .ok (.putfield 21, 3) := by decide +kernel
theorem dX4_empty_5 : decode cX4_empty 5 = .ok (.return_, 1) := by decide +kernel
theorem dX4_insert_0 : decode cX4_insert 0 = .ok (.aload_n 0, 1) := by decide +kernel
theorem dX4_insert_1 : decode cX4_insert 1 = .ok (.getfield 21, 3) := by decide +kernel
theorem dX4_insert_4 : decode cX4_insert 4 = .ok (.bipush 12, 2) := by decide +kernel
theorem dX4_insert_6 : decode cX4_insert 6 = .ok (.if_icmp .lt 4, 3) := by decide +kernel
theorem dX4_insert_9 : decode cX4_insert 9 = .ok (.return_, 1) := by decide +kernel
theorem dX4_insert_10 : decode cX4_insert 10 = .ok (.aload_n 0, 1) := by decide +kernel
theorem dX4_insert_11 : decode cX4_insert 11 = .ok (.getfield 21, 3) := by decide +kernel
theorem dX4_insert_14 : decode cX4_insert 14 = .ok (.istore 4, 2) := by decide +kernel
theorem dX4_insert_16 : decode cX4_insert 16 = .ok (.iload 4, 2) := by decide +kernel
theorem dX4_insert_18 : decode cX4_insert 18 = .ok (.ifCond .le 70, 3) := by decide +kernel
theorem dX4_insert_21 : decode cX4_insert 21 = .ok (.aload_n 0, 1) := by decide +kernel
theorem dX4_insert_22 : decode cX4_insert 22 = .ok (.getfield 18, 3) := by decide +kernel
theorem dX4_insert_25 : decode cX4_insert 25 = .ok (.iload 4, 2) := by decide +kernel
theorem dX4_insert_27 : decode cX4_insert 27 = .ok (.iconst 1, 1) := by decide +kernel
theorem dX4_insert_28 : decode cX4_insert 28 = .ok (.isub, 1) := by decide +kernel
theorem dX4_insert_29 : decode cX4_insert 29 = .ok (.iaload, 1) := by decide +kernel
theorem dX4_insert_30 : decode cX4_insert 30 = .ok (.iload_n 3, 1) := by decide +kernel
theorem dX4_insert_31 : decode cX4_insert 31 = .ok (.if_icmp .ge 57, 3) := by decide +kernel
theorem dX4_insert_34 : decode cX4_insert 34 = .ok (.aload_n 0, 1) := by decide +kernel
theorem dX4_insert_35 : decode cX4_insert 35 = .ok (.getfield 9, 3) := by decide +kernel
theorem dX4_insert_38 : decode cX4_insert 38 = .ok (.iload 4, 2) := by decide +kernel
theorem dX4_insert_40 : decode cX4_insert 40 = .ok (.aload_n 0, 1) := by decide +kernel
theorem dX4_insert_41 : decode cX4_insert 41 = .ok (.getfield 9, 3) := by decide +kernel
theorem dX4_insert_44 : decode cX4_insert 44 = .ok (.iload 4, 2) := by decide +kernel
theorem dX4_insert_46 : decode cX4_insert 46 = .ok (.iconst 1, 1) := by decide +kernel
theorem dX4_insert_47 : decode cX4_insert 47 = .ok (.isub, 1) := by decide +kernel
theorem dX4_insert_48 : decode cX4_insert 48 = .ok (.iaload, 1) := by decide +kernel
theorem dX4_insert_49 : decode cX4_insert 49 = .ok (.iastore, 1) := by decide +kernel
theorem dX4_insert_50 : decode cX4_insert 50 = .ok (.aload_n 0, 1) := by decide +kernel
theorem dX4_insert_51 : decode cX4_insert 51 = .ok (.getfield 15, 3) := by decide +kernel
theorem dX4_insert_54 : decode cX4_insert 54 = .ok (.iload 4, 2) := by decide +kernel
theorem dX4_insert_56 : decode cX4_insert 56 = .ok (.aload_n 0, 1) := by decide +kernel
theorem dX4_insert_57 : decode cX4_insert 57 = .ok (.getfield 15, 3) := by decide +kernel
theorem dX4_insert_60 : decode cX4_insert 60 = .ok (.iload 4, 2) := by decide +kernel
theorem dX4_insert_62 : decode cX4_insert 62 = .ok (.iconst 1, 1) := by decide +kernel
theorem dX4_insert_63 : decode cX4_insert 63 = .ok (.isub, 1) := by decide +kernel
theorem dX4_insert_64 : decode cX4_insert 64 = .ok (.iaload, 1) := by decide +kernel
theorem dX4_insert_65 : decode cX4_insert 65 = .ok (.iastore, 1) := by decide +kernel
theorem dX4_insert_66 : decode cX4_insert 66 = .ok (.aload_n 0, 1) := by decide +kernel
theorem dX4_insert_67 : decode cX4_insert 67 = .ok (.getfield 18, 3) := by decide +kernel
theorem dX4_insert_70 : decode cX4_insert 70 = .ok (.iload 4, 2) := by decide +kernel
theorem dX4_insert_72 : decode cX4_insert 72 = .ok (.aload_n 0, 1) := by decide +kernel
theorem dX4_insert_73 : decode cX4_insert 73 = .ok (.getfield 18, 3) := by decide +kernel
theorem dX4_insert_76 : decode cX4_insert 76 = .ok (.iload 4, 2) := by decide +kernel
theorem dX4_insert_78 : decode cX4_insert 78 = .ok (.iconst 1, 1) := by decide +kernel
theorem dX4_insert_79 : decode cX4_insert 79 = .ok (.isub, 1) := by decide +kernel
theorem dX4_insert_80 : decode cX4_insert 80 = .ok (.iaload, 1) := by decide +kernel
theorem dX4_insert_81 : decode cX4_insert 81 = .ok (.iastore, 1) := by decide +kernel
theorem dX4_insert_82 : decode cX4_insert 82 = .ok (.iinc 4 (-1), 3) := by decide +kernel
theorem dX4_insert_85 : decode cX4_insert 85 = .ok (.goto (-69), 3) := by decide +kernel
theorem dX4_insert_88 : decode cX4_insert 88 = .ok (.aload_n 0, 1) := by decide +kernel
theorem dX4_insert_89 : decode cX4_insert 89 = .ok (.getfield 9, 3) := by decide +kernel
theorem dX4_insert_92 : decode cX4_insert 92 = .ok (.iload 4, 2) := by decide +kernel
theorem dX4_insert_94 : decode cX4_insert 94 = .ok (.iload_n 1, 1) := by decide +kernel
theorem dX4_insert_95 : decode cX4_insert 95 = .ok (.iastore, 1) := by decide +kernel
theorem dX4_insert_96 : decode cX4_insert 96 = .ok (.aload_n 0, 1) := by decide +kernel
theorem dX4_insert_97 : decode cX4_insert 97 = .ok (.getfield 15, 3) := by decide +kernel
theorem dX4_insert_100 : decode cX4_insert 100 = .ok (.iload 4, 2) := by decide +kernel
theorem dX4_insert_102 : decode cX4_insert 102 = .ok (.iload_n 2, 1) := by decide +kernel
theorem dX4_insert_103 : decode cX4_insert 103 = .ok (.iastore, 1) := by decide +kernel
theorem dX4_insert_104 : decode cX4_insert 104 = .ok (.aload_n 0, 1) := by decide +kernel
theorem dX4_insert_105 : decode cX4_insert 105 = .ok (.getfield 18, 3) := by decide +kernel
theorem dX4_insert_108 : decode cX4_insert 108 = .ok (.iload 4, 2) := by decide +kernel
theorem dX4_insert_110 : decode cX4_insert 110 = .ok (.iload_n 3, 1) := by decide +kernel
theorem dX4_insert_111 : decode cX4_insert 111 = .ok (.iastore, 1) := by decide +kernel
theorem dX4_insert_112 : decode cX4_insert 112 = .ok (.aload_n 0, 1) := by decide +kernel
theorem dX4_insert_113 : decode cX4_insert 113 = .ok (.dup, 1) := by decide +kernel
theorem dX4_insert_114 : decode cX4_insert 114 = .ok (.getfield 21, 3) := by decide +kernel
theorem dX4_insert_117 : decode cX4_insert 117 = .ok (.iconst 1, 1) := by decide +kernel
theorem dX4_insert_118 : decode cX4_insert 118 = .ok (.iadd, 1) := by decide +kernel
theorem dX4_insert_119 : decode cX4_insert 119 = .ok (.putfield 21, 3) := by decide +kernel
theorem dX4_insert_122 : decode cX4_insert 122 = .ok (.return_, 1) := by decide +kernel
theorem dX4_sizeOrWord_0 : decode cX4_sizeOrWord 0 = .ok (.iload_n 1, 1) := by decide +kernel
theorem dX4_sizeOrWord_1 : decode cX4_sizeOrWord 1 = .ok (.iconst (-1), 1) := by decide +kernel
theorem dX4_sizeOrWord_2 : decode cX4_sizeOrWord 2 = .ok (.if_icmp .ne 8, 3) := by decide +kernel
theorem dX4_sizeOrWord_5 : decode cX4_sizeOrWord 5 = .ok (.aload_n 0, 1) := by decide +kernel
theorem dX4_sizeOrWord_6 : decode cX4_sizeOrWord 6 = .ok (.getfield 21, 3) := by decide +kernel
theorem dX4_sizeOrWord_9 : decode cX4_sizeOrWord 9 = .ok (.ireturn, 1) := by decide +kernel
theorem dX4_sizeOrWord_10 : decode cX4_sizeOrWord 10 = .ok (.iload_n 1, 1) := by decide +kernel
theorem dX4_sizeOrWord_11 : decode cX4_sizeOrWord 11 = .ok (.ifCond .lt 20, 3) := by decide +kernel
theorem dX4_sizeOrWord_14 : decode cX4_sizeOrWord 14 = .ok (.iload_n 1, 1) := by decide +kernel
theorem dX4_sizeOrWord_15 : decode cX4_sizeOrWord 15 = .ok (.aload_n 0, 1) := by decide +kernel
theorem dX4_sizeOrWord_16 : decode cX4_sizeOrWord 16 = .ok (.getfield 21, 3) := by decide +kernel
theorem dX4_sizeOrWord_19 : decode cX4_sizeOrWord 19 = .ok (.if_icmp .ge 12, 3) := by decide +kernel
theorem dX4_sizeOrWord_22 : decode cX4_sizeOrWord 22 = .ok (.aload_n 0, 1) := by decide +kernel
theorem dX4_sizeOrWord_23 : decode cX4_sizeOrWord 23 = .ok (.getfield 9, 3) := by decide +kernel
theorem dX4_sizeOrWord_26 : decode cX4_sizeOrWord 26 = .ok (.iload_n 1, 1) := by decide +kernel
theorem dX4_sizeOrWord_27 : decode cX4_sizeOrWord 27 = .ok (.iaload, 1) := by decide +kernel
theorem dX4_sizeOrWord_28 : decode cX4_sizeOrWord 28 = .ok (.goto 4, 3) := by decide +kernel
theorem dX4_sizeOrWord_31 : decode cX4_sizeOrWord 31 = .ok (.iconst (-1), 1) := by decide +kernel
theorem dX4_sizeOrWord_32 : decode cX4_sizeOrWord 32 = .ok (.ireturn, 1) := by decide +kernel
theorem dX4_valueAt_0 : decode cX4_valueAt 0 = .ok (.iload_n 1, 1) := by decide +kernel
theorem dX4_valueAt_1 : decode cX4_valueAt 1 = .ok (.ifCond .lt 20, 3) := by decide +kernel
theorem dX4_valueAt_4 : decode cX4_valueAt 4 = .ok (.iload_n 1, 1) := by decide +kernel
theorem dX4_valueAt_5 : decode cX4_valueAt 5 = .ok (.aload_n 0, 1) := by decide +kernel
theorem dX4_valueAt_6 : decode cX4_valueAt 6 = .ok (.getfield 21, 3) := by decide +kernel
theorem dX4_valueAt_9 : decode cX4_valueAt 9 = .ok (.if_icmp .ge 12, 3) := by decide +kernel
theorem dX4_valueAt_12 : decode cX4_valueAt 12 = .ok (.aload_n 0, 1) := by decide +kernel
theorem dX4_valueAt_13 : decode cX4_valueAt 13 = .ok (.getfield 15, 3) := by decide +kernel
theorem dX4_valueAt_16 : decode cX4_valueAt 16 = .ok (.iload_n 1, 1) := by decide +kernel
theorem dX4_valueAt_17 : decode cX4_valueAt 17 = .ok (.iaload, 1) := by decide +kernel
theorem dX4_valueAt_18 : decode cX4_valueAt 18 = .ok (.goto 4, 3) := by decide +kernel
theorem dX4_valueAt_21 : decode cX4_valueAt 21 = .ok (.iconst (-1), 1) := by decide +kernel
theorem dX4_valueAt_22 : decode cX4_valueAt 22 = .ok (.ireturn, 1) := by decide +kernel
theorem dX5_init_0 : decode cX5_init 0 = .ok (.aload_n 0, 1) := by decide +kernel
theorem dX5_init_1 : decode cX5_init 1 = .ok (.invokespecial 3, 3) := by decide +kernel
theorem dX5_init_4 : decode cX5_init 4 = .ok (.aload_n 0, 1) := by decide +kernel
theorem dX5_init_5 : decode cX5_init 5 = .ok (.bipush 8, 2) := by decide +kernel
theorem dX5_init_7 : decode cX5_init 7 = .ok (.newarray .int, 2) := by decide +kernel
theorem dX5_init_9 : decode cX5_init 9 = .ok (.putfield 9, 3) := by decide +kernel
theorem dX5_init_12 : decode cX5_init 12 = .ok (.aload_n 0, 1) := by decide +kernel
theorem dX5_init_13 : decode cX5_init 13 = .ok (.bipush 8, 2) := by decide +kernel
theorem dX5_init_15 : decode cX5_init 15 = .ok (.newarray .int, 2) := by decide +kernel
theorem dX5_init_17 : decode cX5_init 17 = .ok (.putfield 15, 3) := by decide +kernel
theorem dX5_init_20 : decode cX5_init 20 = .ok (.aload_n 0, 1) := by decide +kernel
theorem dX5_init_21 : decode cX5_init 21 = .ok (.bipush 17, 2) := by decide +kernel
theorem dX5_init_23 : decode cX5_init 23 = .ok (.putfield 18, 3) := by decide +kernel
theorem dX5_init_26 : decode cX5_init 26 = .ok (.aload_n 0, 1) := by decide +kernel
theorem dX5_init_27 : decode cX5_init 27 = .ok (.iconst 0, 1) := by decide +kernel
theorem dX5_init_28 : decode cX5_init 28 = .ok (.putfield 22, 3) := by decide +kernel
theorem dX5_init_31 : decode cX5_init 31 = .ok (.aload_n 0, 1) := by decide +kernel
theorem dX5_init_32 : decode cX5_init 32 = .ok (.bipush 96, 2) := by decide +kernel
theorem dX5_init_34 : decode cX5_init 34 = .ok (.newarray .int, 2) := by decide +kernel
theorem dX5_init_36 : decode cX5_init 36 = .ok (.putfield 25, 3) := by decide +kernel
theorem dX5_init_39 : decode cX5_init 39 = .ok (.aload_n 0, 1) := by decide +kernel
theorem dX5_init_40 : decode cX5_init 40 = .ok (.bipush 12, 2) := by decide +kernel
theorem dX5_init_42 : decode cX5_init 42 = .ok (.newarray .int, 2) := by decide +kernel
theorem dX5_init_44 : decode cX5_init 44 = .ok (.putfield 28, 3) := by decide +kernel
theorem dX5_init_47 : decode cX5_init 47 = .ok (.aload_n 0, 1) := by decide +kernel
theorem dX5_init_48 : decode cX5_init 48 = .ok (.bipush 12, 2) := by decide +kernel
theorem dX5_init_50 : decode cX5_init 50 = .ok (.newarray .int, 2) := by decide +kernel
theorem dX5_init_52 : decode cX5_init 52 = .ok (.putfield 31, 3) := by decide +kernel
theorem dX5_init_55 : decode cX5_init 55 = .ok (.aload_n 0, 1) := by decide +kernel
theorem dX5_init_56 : decode cX5_init 56 = .ok (.bipush 12, 2) := by decide +kernel
theorem dX5_init_58 : decode cX5_init 58 = .ok (.newarray .int, 2) := by decide +kernel
theorem dX5_init_60 : decode cX5_init 60 = .ok (.putfield 34, 3) := by decide +kernel
theorem dX5_init_63 : decode cX5_init 63 = .ok (.iconst 0, 1) := by decide +kernel
theorem dX5_init_64 : decode cX5_init 64 = .ok (.istore_n 1, 1) := by decide +kernel
theorem dX5_init_65 : decode cX5_init 65 = .ok (.iload_n 1, 1) := by decide +kernel
theorem dX5_init_66 : decode cX5_init 66 = .ok (.bipush 8, 2) := by decide +kernel
theorem dX5_init_68 : decode cX5_init 68 = .ok (.if_icmp .ge 25, 3) := by decide +kernel
theorem dX5_init_71 : decode cX5_init 71 = .ok (.aload_n 0, 1) := by decide +kernel
theorem dX5_init_72 : decode cX5_init 72 = .ok (.getfield 9, 3) := by decide +kernel
theorem dX5_init_75 : decode cX5_init 75 = .ok (.iload_n 1, 1) := by decide +kernel
theorem dX5_init_76 : decode cX5_init 76 = .ok (.iconst 3, 1) := by decide +kernel
theorem dX5_init_77 : decode cX5_init 77 = .ok (.iload_n 1, 1) := by decide +kernel
theorem dX5_init_78 : decode cX5_init 78 = .ok (.imul, 1) := by decide +kernel
theorem dX5_init_79 : decode cX5_init 79 = .ok (.iastore, 1) := by decide +kernel
theorem dX5_init_80 : decode cX5_init 80 = .ok (.aload_n 0, 1) := by decide +kernel
theorem dX5_init_81 : decode cX5_init 81 = .ok (.getfield 15, 3) := by decide +kernel
theorem dX5_init_84 : decode cX5_init 84 = .ok (.iload_n 1, 1) := by decide +kernel
theorem dX5_init_85 : decode cX5_init 85 = .ok (.iconst (-1), 1) := by decide +kernel
theorem dX5_init_86 : decode cX5_init 86 = .ok (.iastore, 1) := by decide +kernel
theorem dX5_init_87 : decode cX5_init 87 = .ok (.iinc 1 1, 3) := by decide +kernel
theorem dX5_init_90 : decode cX5_init 90 = .ok (.goto (-25), 3) := by decide +kernel
theorem dX5_init_93 : decode cX5_init 93 = .ok (.return_, 1) := by decide +kernel
theorem dX5_copyFrom_0 : decode cX5_copyFrom 0 = .ok (.aload_n 1, 1) := by decide +kernel
theorem dX5_copyFrom_1 : decode cX5_copyFrom 1 = .ok (.getfield 9, 3) := by decide +kernel
theorem dX5_copyFrom_4 : decode cX5_copyFrom 4 = .ok (.iconst 0, 1) := by decide +kernel
theorem dX5_copyFrom_5 : decode cX5_copyFrom 5 = .ok (.aload_n 0, 1) := by decide +kernel
theorem dX5_copyFrom_6 : decode cX5_copyFrom 6 = .ok (.getfield 9, 3) := by decide +kernel
theorem dX5_copyFrom_9 : decode cX5_copyFrom 9 = .ok (.iconst 0, 1) := by decide +kernel
theorem dX5_copyFrom_10 : decode cX5_copyFrom 10 = .ok (.bipush 8, 2) := by decide +kernel
theorem dX5_copyFrom_12 : decode cX5_copyFrom 12 = .ok (.invokestatic 37, 3) := by decide +kernel
theorem dX5_copyFrom_15 : decode cX5_copyFrom 15 = .ok (.aload_n 1, 1) := by decide +kernel
theorem dX5_copyFrom_16 : decode cX5_copyFrom 16 = .ok (.getfield 15, 3) := by decide +kernel
theorem dX5_copyFrom_19 : decode cX5_copyFrom 19 = .ok (.iconst 0, 1) := by decide +kernel
theorem dX5_copyFrom_20 : decode cX5_copyFrom 20 = .ok (.aload_n 0, 1) := by decide +kernel
theorem dX5_copyFrom_21 : decode cX5_copyFrom 21 = .ok (.getfield 15, 3) := by decide +kernel
theorem dX5_copyFrom_24 : decode cX5_copyFrom 24 = .ok (.iconst 0, 1) := by decide +kernel
theorem dX5_copyFrom_25 : decode cX5_copyFrom 25 = .ok (.bipush 8, 2) := by decide +kernel
theorem dX5_copyFrom_27 : decode cX5_copyFrom 27 = .ok (.invokestatic 37, 3) := by decide +kernel
theorem dX5_copyFrom_30 : decode cX5_copyFrom 30 = .ok (.aload_n 0, 1) := by decide +kernel
theorem dX5_copyFrom_31 : decode cX5_copyFrom 31 = .ok (.aload_n 1, 1) := by decide +kernel
theorem dX5_copyFrom_32 : decode cX5_copyFrom 32 = .ok (.getfield 18, 3) := by decide +kernel
theorem dX5_copyFrom_35 : decode cX5_copyFrom 35 = .ok (.putfield 18, 3) := by decide +kernel
theorem dX5_copyFrom_38 : decode cX5_copyFrom 38 = .ok (.aload_n 0, 1) := by decide +kernel
theorem dX5_copyFrom_39 : decode cX5_copyFrom 39 = .ok (.aload_n 1, 1) := by decide +kernel
theorem dX5_copyFrom_40 : decode cX5_copyFrom 40 = .ok (.getfield 22, 3) := by decide +kernel
theorem dX5_copyFrom_43 : decode cX5_copyFrom 43 = .ok (.putfield 22, 3) := by decide +kernel
theorem dX5_copyFrom_46 : decode cX5_copyFrom 46 = .ok (.aload_n 1, 1) := by decide +kernel
theorem dX5_copyFrom_47 : decode cX5_copyFrom 47 = .ok (.getfield 25, 3) := by decide +kernel
theorem dX5_copyFrom_50 : decode cX5_copyFrom 50 = .ok (.iconst 0, 1) := by decide +kernel
theorem dX5_copyFrom_51 : decode cX5_copyFrom 51 = .ok (.aload_n 0, 1) := by decide +kernel
theorem dX5_copyFrom_52 : decode cX5_copyFrom 52 = .ok (.getfield 25, 3) := by decide +kernel
theorem dX5_copyFrom_55 : decode cX5_copyFrom 55 = .ok (.iconst 0, 1) := by decide +kernel
theorem dX5_copyFrom_56 : decode cX5_copyFrom 56 = .ok (.bipush 96, 2) := by decide +kernel
theorem dX5_copyFrom_58 : decode cX5_copyFrom 58 = .ok (.invokestatic 37, 3) := by decide +kernel
theorem dX5_copyFrom_61 : decode cX5_copyFrom 61 = .ok (.aload_n 1, 1) := by decide +kernel
theorem dX5_copyFrom_62 : decode cX5_copyFrom 62 = .ok (.getfield 28, 3) := by decide +kernel
theorem dX5_copyFrom_65 : decode cX5_copyFrom 65 = .ok (.iconst 0, 1) := by decide +kernel
theorem dX5_copyFrom_66 : decode cX5_copyFrom 66 = .ok (.aload_n 0, 1) := by decide +kernel
theorem dX5_copyFrom_67 : decode cX5_copyFrom 67 = .ok (.getfield 28, 3) := by decide +kernel
theorem dX5_copyFrom_70 : decode cX5_copyFrom 70 = .ok (.iconst 0, 1) := by decide +kernel
theorem dX5_copyFrom_71 : decode cX5_copyFrom 71 = .ok (.bipush 12, 2) := by decide +kernel
theorem dX5_copyFrom_73 : decode cX5_copyFrom 73 = .ok (.invokestatic 37, 3) := by decide +kernel
theorem dX5_copyFrom_76 : decode cX5_copyFrom 76 = .ok (.aload_n 1, 1) := by decide +kernel
theorem dX5_copyFrom_77 : decode cX5_copyFrom 77 = .ok (.getfield 31, 3) := by decide +kernel
theorem dX5_copyFrom_80 : decode cX5_copyFrom 80 = .ok (.iconst 0, 1) := by decide +kernel
theorem dX5_copyFrom_81 : decode cX5_copyFrom 81 = .ok (.aload_n 0, 1) := by decide +kernel
theorem dX5_copyFrom_82 : decode cX5_copyFrom 82 = .ok (.getfield 31, 3) := by decide +kernel
theorem dX5_copyFrom_85 : decode cX5_copyFrom 85 = .ok (.iconst 0, 1) := by decide +kernel
theorem dX5_copyFrom_86 : decode cX5_copyFrom 86 = .ok (.bipush 12, 2) := by decide +kernel
theorem dX5_copyFrom_88 : decode cX5_copyFrom 88 = .ok (.invokestatic 37, 3) := by decide +kernel
theorem dX5_copyFrom_91 : decode cX5_copyFrom 91 = .ok (.aload_n 1, 1) := by decide +kernel
theorem dX5_copyFrom_92 : decode cX5_copyFrom 92 = .ok (.getfield 34, 3) := by decide +kernel
theorem dX5_copyFrom_95 : decode cX5_copyFrom 95 = .ok (.iconst 0, 1) := by decide +kernel
theorem dX5_copyFrom_96 : decode cX5_copyFrom 96 = .ok (.aload_n 0, 1) := by decide +kernel
theorem dX5_copyFrom_97 : decode cX5_copyFrom 97 = .ok (.getfield 34, 3) := by decide +kernel
theorem dX5_copyFrom_100 : decode cX5_copyFrom 100 = .ok (.iconst 0, 1) := by decide +kernel
theorem dX5_copyFrom_101 : decode cX5_copyFrom 101 = .ok (.bipush 12, 2) := by decide +kernel
theorem dX5_copyFrom_103 : decode cX5_copyFrom 103 = .ok (.invokestatic 37, 3) := by decide +kernel
theorem dX5_copyFrom_106 : decode cX5_copyFrom 106 = .ok (.return_, 1) := by decide +kernel
theorem dX5_hasWord_0 : decode cX5_hasWord 0 = .ok (.iload_n 1, 1) := by decide +kernel
theorem dX5_hasWord_1 : decode cX5_hasWord 1 = .ok (.ifCond .lt 15, 3) := by decide +kernel
theorem dX5_hasWord_4 : decode cX5_hasWord 4 = .ok (.iload_n 1, 1) := by decide +kernel
theorem dX5_hasWord_5 : decode cX5_hasWord 5 = .ok (.aload_n 0, 1) := by decide +kernel
theorem dX5_hasWord_6 : decode cX5_hasWord 6 = .ok (.getfield 22, 3) := by decide +kernel
theorem dX5_hasWord_9 : decode cX5_hasWord 9 = .ok (.if_icmp .ge 7, 3) := by decide +kernel
theorem dX5_hasWord_12 : decode cX5_hasWord 12 = .ok (.iconst 1, 1) := by decide +kernel
theorem dX5_hasWord_13 : decode cX5_hasWord 13 = .ok (.goto 4, 3) := by decide +kernel
theorem dX5_hasWord_16 : decode cX5_hasWord 16 = .ok (.iconst 0, 1) := by decide +kernel
theorem dX5_hasWord_17 : decode cX5_hasWord 17 = .ok (.ireturn, 1) := by decide +kernel
theorem dX5_enter_0 : decode cX5_enter 0 = .ok (.aload_n 0, 1) := by decide +kernel
theorem dX5_enter_1 : decode cX5_enter 1 = .ok (.getfield 22, 3) := by decide +kernel
theorem dX5_enter_4 : decode cX5_enter 4 = .ok (.istore 4, 2) := by decide +kernel
theorem dX5_enter_6 : decode cX5_enter 6 = .ok (.iconst 0, 1) := by decide +kernel
theorem dX5_enter_7 : decode cX5_enter 7 = .ok (.istore 5, 2) := by decide +kernel
theorem dX5_enter_9 : decode cX5_enter 9 = .ok (.iload 5, 2) := by decide +kernel
theorem dX5_enter_11 : decode cX5_enter 11 = .ok (.iload_n 2, 1) := by decide +kernel
theorem dX5_enter_12 : decode cX5_enter 12 = .ok (.if_icmp .ge 29, 3) := by decide +kernel
theorem dX5_enter_15 : decode cX5_enter 15 = .ok (.aload_n 0, 1) := by decide +kernel
theorem dX5_enter_16 : decode cX5_enter 16 = .ok (.getfield 25, 3) := by decide +kernel
theorem dX5_enter_19 : decode cX5_enter 19 = .ok (.iload 4, 2) := by decide +kernel
theorem dX5_enter_21 : decode cX5_enter 21 = .ok (.bipush 8, 2) := by decide +kernel
theorem dX5_enter_23 : decode cX5_enter 23 = .ok (.imul, 1) := by decide +kernel
theorem dX5_enter_24 : decode cX5_enter 24 = .ok (.iload 5, 2) := by decide +kernel
theorem dX5_enter_26 : decode cX5_enter 26 = .ok (.iadd, 1) := by decide +kernel
theorem dX5_enter_27 : decode cX5_enter 27 = .ok (.aload_n 1, 1) := by decide +kernel
theorem dX5_enter_28 : decode cX5_enter 28 = .ok (.iload 5, 2) := by decide +kernel
theorem dX5_enter_30 : decode cX5_enter 30 = .ok (.iaload, 1) := by decide +kernel
theorem dX5_enter_31 : decode cX5_enter 31 = .ok (.bipush 97, 2) := by decide +kernel
theorem dX5_enter_33 : decode cX5_enter 33 = .ok (.isub, 1) := by decide +kernel
theorem dX5_enter_34 : decode cX5_enter 34 = .ok (.iastore, 1) := by decide +kernel
theorem dX5_enter_35 : decode cX5_enter 35 = .ok (.iinc 5 1, 3) := by decide +kernel
theorem dX5_enter_38 : decode cX5_enter 38 = .ok (.goto (-29), 3) := by decide +kernel
theorem dX5_enter_41 : decode cX5_enter 41 = .ok (.aload_n 0, 1) := by decide +kernel
theorem dX5_enter_42 : decode cX5_enter 42 = .ok (.getfield 28, 3) := by decide +kernel
theorem dX5_enter_45 : decode cX5_enter 45 = .ok (.iload 4, 2) := by decide +kernel
theorem dX5_enter_47 : decode cX5_enter 47 = .ok (.iload_n 2, 1) := by decide +kernel
theorem dX5_enter_48 : decode cX5_enter 48 = .ok (.iastore, 1) := by decide +kernel
theorem dX5_enter_49 : decode cX5_enter 49 = .ok (.aload_n 0, 1) := by decide +kernel
theorem dX5_enter_50 : decode cX5_enter 50 = .ok (.getfield 31, 3) := by decide +kernel
theorem dX5_enter_53 : decode cX5_enter 53 = .ok (.iload 4, 2) := by decide +kernel
theorem dX5_enter_55 : decode cX5_enter 55 = .ok (.iload_n 3, 1) := by decide +kernel
theorem dX5_enter_56 : decode cX5_enter 56 = .ok (.iastore, 1) := by decide +kernel
theorem dX5_enter_57 : decode cX5_enter 57 = .ok (.aload_n 0, 1) := by decide +kernel
theorem dX5_enter_58 : decode cX5_enter 58 = .ok (.getfield 34, 3) := by decide +kernel
theorem dX5_enter_61 : decode cX5_enter 61 = .ok (.iload 4, 2) := by decide +kernel
theorem dX5_enter_63 : decode cX5_enter 63 = .ok (.iconst (-1), 1) := by decide +kernel
theorem dX5_enter_64 : decode cX5_enter 64 = .ok (.iastore, 1) := by decide +kernel
theorem dX5_enter_65 : decode cX5_enter 65 = .ok (.aload_n 0, 1) := by decide +kernel
theorem dX5_enter_66 : decode cX5_enter 66 = .ok (.dup, 1) := by decide +kernel
theorem dX5_enter_67 : decode cX5_enter 67 = .ok (.getfield 22, 3) := by decide +kernel
theorem dX5_enter_70 : decode cX5_enter 70 = .ok (.iconst 1, 1) := by decide +kernel
theorem dX5_enter_71 : decode cX5_enter 71 = .ok (.iadd, 1) := by decide +kernel
theorem dX5_enter_72 : decode cX5_enter 72 = .ok (.putfield 22, 3) := by decide +kernel
theorem dX5_enter_75 : decode cX5_enter 75 = .ok (.iload 4, 2) := by decide +kernel
theorem dX5_enter_77 : decode cX5_enter 77 = .ok (.ireturn, 1) := by decide +kernel
set_option maxRecDepth 20000 in
theorem ggX5_drop_X5_moveDown : GoodIn wsX5_drop wsX5_moveDown := goodIn_r _ [6, 7, 8, 9, 10, 11, 12, 13, 14, 15, 16, 17, 18] (by decide +kernel) (by decide +kernel)
set_option maxRecDepth 20000 in
theorem gX5_drop_X5_moveDown : GoodIn wsX5_drop (wsV RX5 43 RX5 yX5_moveDown wsX5_moveDown) := goodIn_app (goodIn_of _ (by decide +kernel)) ggX5_drop_X5_moveDown
theorem dX5_drop_0 : decode cX5_drop 0 = .ok (.iload_n 1, 1) := by decide +kernel
theorem dX5_drop_1 : decode cX5_drop 1 = .ok (.iconst 1, 1) := by decide +kernel
theorem dX5_drop_2 : decode cX5_drop 2 = .ok (.iadd, 1) := by decide +kernel
theorem dX5_drop_3 : decode cX5_drop 3 = .ok (.istore_n 2, 1) := by decide +kernel
theorem dX5_drop_4 : decode cX5_drop 4 = .ok (.iload_n 2, 1) := by decide +kernel
theorem dX5_drop_5 : decode cX5_drop 5 = .ok (.aload_n 0, 1) := by decide +kernel
theorem dX5_drop_6 : decode cX5_drop 6 = .ok (.getfield 22, 3) := by decide +kernel
theorem dX5_drop_9 : decode cX5_drop 9 = .ok (.if_icmp .ge 14, 3) := by decide +kernel
theorem dX5_drop_12 : decode cX5_drop 12 = .ok (.aload_n 0, 1) := by decide +kernel
theorem dX5_drop_13 : decode cX5_drop 13 = .ok (.iload_n 2, 1) := by decide +kernel
theorem dX5_drop_14 : decode cX5_drop 14 = .ok (.invokevirtual 43, 3) := by decide +kernel
theorem dX5_drop_17 : decode cX5_drop 17 = .ok (.iinc 2 1, 3) := by decide +kernel
theorem dX5_drop_20 : decode cX5_drop 20 = .ok (.goto (-16), 3) := by decide +kernel
theorem dX5_drop_23 : decode cX5_drop 23 = .ok (.aload_n 0, 1) := by decide +kernel
theorem dX5_drop_24 : decode cX5_drop 24 = .ok (.dup, 1) := by decide +kernel
theorem dX5_drop_25 : decode cX5_drop 25 = .ok (.getfield 22, 3) := by decide +kernel
theorem dX5_drop_28 : decode cX5_drop 28 = .ok (.iconst 1, 1) := by decide +kernel
theorem dX5_drop_29 : decode cX5_drop 29 = .ok (.isub, 1) := by decide +kernel
theorem dX5_drop_30 : decode cX5_drop 30 = .ok (.putfield 22, 3) := by decide +kernel
theorem dX5_drop_33 : decode cX5_drop 33 = .ok (.return_, 1) := by decide +kernel
theorem dX5_moveDown_0 : decode cX5_moveDown 0 = .ok (.iload_n 1, 1) := by decide +kernel
theorem dX5_moveDown_1 : decode cX5_moveDown 1 = .ok (.iconst 1, 1) := by decide +kernel
theorem dX5_moveDown_2 : decode cX5_moveDown 2 = .ok (.isub, 1) := by decide +kernel
theorem dX5_moveDown_3 : decode cX5_moveDown 3 = .ok (.istore_n 2, 1) := by decide +kernel
theorem dX5_moveDown_4 : decode cX5_moveDown 4 = .ok (.iconst 0, 1) := by decide +kernel
theorem dX5_moveDown_5 : decode cX5_moveDown 5 = .ok (.istore_n 3, 1) := by decide +kernel
theorem dX5_moveDown_6 : decode cX5_moveDown 6 = .ok (.iload_n 3, 1) := by decide +kernel
theorem dX5_moveDown_7 : decode cX5_moveDown 7 = .ok (.bipush 8, 2) := by decide +kernel
theorem dX5_moveDown_9 : decode cX5_moveDown 9 = .ok (.if_icmp .ge 31, 3) := by decide +kernel
theorem dX5_moveDown_12 : decode cX5_moveDown 12 = .ok (.aload_n 0, 1) := by decide +kernel
theorem dX5_moveDown_13 : decode cX5_moveDown 13 = .ok (.getfield 25, 3) := by decide +kernel
theorem dX5_moveDown_16 : decode cX5_moveDown 16 = .ok (.iload_n 2, 1) := by decide +kernel
theorem dX5_moveDown_17 : decode cX5_moveDown 17 = .ok (.bipush 8, 2) := by decide +kernel
theorem dX5_moveDown_19 : decode cX5_moveDown 19 = .ok (.imul, 1) := by decide +kernel
theorem dX5_moveDown_20 : decode cX5_moveDown 20 = .ok (.iload_n 3, 1) := by decide +kernel
theorem dX5_moveDown_21 : decode cX5_moveDown 21 = .ok (.iadd, 1) := by decide +kernel
theorem dX5_moveDown_22 : decode cX5_moveDown 22 = .ok (.aload_n 0, 1) := by decide +kernel
theorem dX5_moveDown_23 : decode cX5_moveDown 23 = .ok (.getfield 25, 3) := by decide +kernel
theorem dX5_moveDown_26 : decode cX5_moveDown 26 = .ok (.iload_n 1, 1) := by decide +kernel
theorem dX5_moveDown_27 : decode cX5_moveDown 27 = .ok (.bipush 8, 2) := by decide +kernel
theorem dX5_moveDown_29 : decode cX5_moveDown 29 = .ok (.imul, 1) := by decide +kernel
theorem dX5_moveDown_30 : decode cX5_moveDown 30 = .ok (.iload_n 3, 1) := by decide +kernel
theorem dX5_moveDown_31 : decode cX5_moveDown 31 = .ok (.iadd, 1) := by decide +kernel
theorem dX5_moveDown_32 : decode cX5_moveDown 32 = .ok (.iaload, 1) := by decide +kernel
theorem dX5_moveDown_33 : decode cX5_moveDown 33 = .ok (.iastore, 1) := by decide +kernel
theorem dX5_moveDown_34 : decode cX5_moveDown 34 = .ok (.iinc 3 1, 3) := by decide +kernel
theorem dX5_moveDown_37 : decode cX5_moveDown 37 = .ok (.goto (-31), 3) := by decide +kernel
theorem dX5_moveDown_40 : decode cX5_moveDown 40 = .ok (.aload_n 0, 1) := by decide +kernel
theorem dX5_moveDown_41 : decode cX5_moveDown 41 = .ok (.getfield 28, 3) := by decide +kernel
theorem dX5_moveDown_44 : decode cX5_moveDown 44 = .ok (.iload_n 2, 1) := by decide +kernel
theorem dX5_moveDown_45 : decode cX5_moveDown 45 = .ok (.aload_n 0, 1) := by decide +kernel
theorem dX5_moveDown_46 : decode cX5_moveDown 46 = .ok (.getfield 28, 3) := by decide +kernel
theorem dX5_moveDown_49 : decode cX5_moveDown 49 = .ok (.iload_n 1, 1) := by decide +kernel
theorem dX5_moveDown_50 : decode cX5_moveDown 50 = .ok (.iaload, 1) := by decide +kernel
theorem dX5_moveDown_51 : decode cX5_moveDown 51 = .ok (.iastore, 1) := by decide +kernel
theorem dX5_moveDown_52 : decode cX5_moveDown 52 = .ok (.aload_n 0, 1) := by decide +kernel
theorem dX5_moveDown_53 : decode cX5_moveDown 53 = .ok (.getfield 31, 3) := by decide +kernel
theorem dX5_moveDown_56 : decode cX5_moveDown 56 = .ok (.iload_n 2, 1) := by decide +kernel
theorem dX5_moveDown_57 : decode cX5_moveDown 57 = .ok (.aload_n 0, 1) := by decide +kernel
theorem dX5_moveDown_58 : decode cX5_moveDown 58 = .ok (.getfield 31, 3) := by decide +kernel
theorem dX5_moveDown_61 : decode cX5_moveDown 61 = .ok (.iload_n 1, 1) := by decide +kernel
theorem dX5_moveDown_62 : decode cX5_moveDown 62 = .ok (.iaload, 1) := by decide +kernel
theorem dX5_moveDown_63 : decode cX5_moveDown 63 = .ok (.iastore, 1) := by decide +kernel
theorem dX5_moveDown_64 : decode cX5_moveDown 64 = .ok (.aload_n 0, 1) := by decide +kernel
theorem dX5_moveDown_65 : decode cX5_moveDown 65 = .ok (.getfield 34, 3) := by decide +kernel
theorem dX5_moveDown_68 : decode cX5_moveDown 68 = .ok (.iload_n 2, 1) := by decide +kernel
theorem dX5_moveDown_69 : decode cX5_moveDown 69 = .ok (.aload_n 0, 1) := by decide +kernel
theorem dX5_moveDown_70 : decode cX5_moveDown 70 = .ok (.getfield 34, 3) := by decide +kernel
theorem dX5_moveDown_73 : decode cX5_moveDown 73 = .ok (.iload_n 1, 1) := by decide +kernel
theorem dX5_moveDown_74 : decode cX5_moveDown 74 = .ok (.iaload, 1) := by decide +kernel
theorem dX5_moveDown_75 : decode cX5_moveDown 75 = .ok (.iastore, 1) := by decide +kernel
theorem dX5_moveDown_76 : decode cX5_moveDown 76 = .ok (.return_, 1) := by decide +kernel
theorem dX5_soundAt_0 : decode cX5_soundAt 0 = .ok (.aload_n 0, 1) := by decide +kernel
