theorem dX5_soundAt_1 : decode cX5_soundAt 1 = .ok (.getfield 25, 3) := by decide +kernel
theorem dX5_soundAt_4 : decode cX5_soundAt 4 = .ok (.iload_n 1, 1) := by decide +kernel
theorem dX5_soundAt_5 : decode cX5_soundAt 5 = .ok (.bipush 8, 2) := by decide +kernel
theorem dX5_soundAt_7 : decode cX5_soundAt 7 = .ok (.imul, 1) := by decide +kernel
theorem dX5_soundAt_8 : decode cX5_soundAt 8 = .ok (.iload_n 2, 1) := by decide +kernel
theorem dX5_soundAt_9 : decode cX5_soundAt 9 = .ok (.iadd, 1) := by decide +kernel
theorem dX5_soundAt_10 : decode cX5_soundAt 10 = .ok (.iaload, 1) := by decide +kernel
theorem dX5_soundAt_11 : decode cX5_soundAt 11 = .ok (.ireturn, 1) := by decide +kernel
set_option maxRecDepth 20000 in
theorem ggX5_isWritten_X5_soundAt : GoodIn wsX5_isWritten wsX5_soundAt := goodIn_r _ [6, 7, 8, 9, 10, 11, 12, 13, 14, 15] (by decide +kernel) (by decide +kernel)
set_option maxRecDepth 20000 in
theorem gX5_isWritten_X5_soundAt : GoodIn wsX5_isWritten (wsV RX5 47 RX5 yX5_soundAt wsX5_soundAt) := goodIn_app (goodIn_of _ (by decide +kernel)) ggX5_isWritten_X5_soundAt
theorem dX5_isWritten_0 : decode cX5_isWritten 0 = .ok (.iload_n 2, 1) := by decide +kernel
theorem dX5_isWritten_1 : decode cX5_isWritten 1 = .ok (.ifCond .eq 19, 3) := by decide +kernel
theorem dX5_isWritten_4 : decode cX5_isWritten 4 = .ok (.aload_n 0, 1) := by decide +kernel
theorem dX5_isWritten_5 : decode cX5_isWritten 5 = .ok (.getfield 18, 3) := by decide +kernel
theorem dX5_isWritten_8 : decode cX5_isWritten 8 = .ok (.aload_n 0, 1) := by decide +kernel
theorem dX5_isWritten_9 : decode cX5_isWritten 9 = .ok (.iload_n 1, 1) := by decide +kernel
theorem dX5_isWritten_10 : decode cX5_isWritten 10 = .ok (.iload_n 2, 1) := by decide +kernel
theorem dX5_isWritten_11 : decode cX5_isWritten 11 = .ok (.invokevirtual 47, 3) := by decide +kernel
theorem dX5_isWritten_14 : decode cX5_isWritten 14 = .ok (.ishr, 1) := by decide +kernel
theorem dX5_isWritten_15 : decode cX5_isWritten 15 = .ok (.iconst 1, 1) := by decide +kernel
theorem dX5_isWritten_16 : decode cX5_isWritten 16 = .ok (.iand, 1) := by decide +kernel
theorem dX5_isWritten_17 : decode cX5_isWritten 17 = .ok (.ifCond .ne 7, 3) := by decide +kernel
theorem dX5_isWritten_20 : decode cX5_isWritten 20 = .ok (.iconst 1, 1) := by decide +kernel
theorem dX5_isWritten_21 : decode cX5_isWritten 21 = .ok (.goto 4, 3) := by decide +kernel
theorem dX5_isWritten_24 : decode cX5_isWritten 24 = .ok (.iconst 0, 1) := by decide +kernel
theorem dX5_isWritten_25 : decode cX5_isWritten 25 = .ok (.ireturn, 1) := by decide +kernel
set_option maxRecDepth 20000 in
theorem ggX5_writtenCount_X5_isWritten : GoodIn wsX5_writtenCount wsX5_isWritten := goodIn_r _ [6, 7, 8, 9, 10, 5, 11, 12, 13, 14, 15, 16, 17, 18, 19, 20] (by decide +kernel) (by decide +kernel)
set_option maxRecDepth 20000 in
theorem gX5_writtenCount_X5_isWritten : GoodIn wsX5_writtenCount (wsV RX5 51 RX5 yX5_isWritten wsX5_isWritten) := goodIn_app (goodIn_of _ (by decide +kernel)) ggX5_writtenCount_X5_isWritten
theorem dX5_writtenCount_0 : decode cX5_writtenCount 0 = .ok (.iconst 0, 1) := by decide +kernel
theorem dX5_writtenCount_1 : decode cX5_writtenCount 1 = .ok (.istore_n 2, 1) := by decide +kernel
theorem dX5_writtenCount_2 : decode cX5_writtenCount 2 = .ok (.iconst 0, 1) := by decide +kernel
theorem dX5_writtenCount_3 : decode cX5_writtenCount 3 = .ok (.istore_n 3, 1) := by decide +kernel
theorem dX5_writtenCount_4 : decode cX5_writtenCount 4 = .ok (.iload_n 3, 1) := by decide +kernel
theorem dX5_writtenCount_5 : decode cX5_writtenCount 5 = .ok (.aload_n 0, 1) := by decide +kernel
theorem dX5_writtenCount_6 : decode cX5_writtenCount 6 = .ok (.getfield 28, 3) := by decide +kernel
theorem dX5_writtenCount_9 : decode cX5_writtenCount 9 = .ok (.iload_n 1, 1) := by decide +kernel
theorem dX5_writtenCount_10 : decode cX5_writtenCount 10 = .ok (.iaload, 1) := by decide +kernel
theorem dX5_writtenCount_11 : decode cX5_writtenCount 11 = .ok (.if_icmp .ge 21, 3) := by decide +kernel
theorem dX5_writtenCount_14 : decode cX5_writtenCount 14 = .ok (.aload_n 0, 1) := by decide +kernel
theorem dX5_writtenCount_15 : decode cX5_writtenCount 15 = .ok (.iload_n 1, 1) := by decide +kernel
theorem dX5_writtenCount_16 : decode cX5_writtenCount 16 = .ok (.iload_n 3, 1) := by decide +kernel
theorem dX5_writtenCount_17 : decode cX5_writtenCount 17 = .ok (.invokevirtual 51, 3) := by decide +kernel
theorem dX5_writtenCount_20 : decode cX5_writtenCount 20 = .ok (.ifCond .eq 6, 3) := by decide +kernel
theorem dX5_writtenCount_23 : decode cX5_writtenCount 23 = .ok (.iinc 2 1, 3) := by decide +kernel
theorem dX5_writtenCount_26 : decode cX5_writtenCount 26 = .ok (.iinc 3 1, 3) := by decide +kernel
theorem dX5_writtenCount_29 : decode cX5_writtenCount 29 = .ok (.goto (-25), 3) := by decide +kernel
theorem dX5_writtenCount_32 : decode cX5_writtenCount 32 = .ok (.iload_n 2, 1) := by decide +kernel
theorem dX5_writtenCount_33 : decode cX5_writtenCount 33 = .ok (.ireturn, 1) := by decide +kernel
set_option maxRecDepth 20000 in
theorem ggX5_gainOf_X5_writtenCount : GoodIn wsX5_gainOf wsX5_writtenCount := goodIn_r _ [6, 7, 8, 9, 10, 5, 11, 12, 13, 14, 15, 16, 17, 18, 19, 20, 21, 22, 23, 24, 25] (by decide +kernel) (by decide +kernel)
set_option maxRecDepth 20000 in
theorem gX5_gainOf_X5_writtenCount : GoodIn wsX5_gainOf (wsV RX5 55 RX5 yX5_writtenCount wsX5_writtenCount) := goodIn_app (goodIn_of _ (by decide +kernel)) ggX5_gainOf_X5_writtenCount
theorem dX5_gainOf_0 : decode cX5_gainOf 0 = .ok (.aload_n 0, 1) := by decide +kernel
theorem dX5_gainOf_1 : decode cX5_gainOf 1 = .ok (.getfield 31, 3) := by decide +kernel
theorem dX5_gainOf_4 : decode cX5_gainOf 4 = .ok (.iload_n 1, 1) := by decide +kernel
theorem dX5_gainOf_5 : decode cX5_gainOf 5 = .ok (.iaload, 1) := by decide +kernel
theorem dX5_gainOf_6 : decode cX5_gainOf 6 = .ok (.aload_n 0, 1) := by decide +kernel
theorem dX5_gainOf_7 : decode cX5_gainOf 7 = .ok (.iload_n 1, 1) := by decide +kernel
theorem dX5_gainOf_8 : decode cX5_gainOf 8 = .ok (.invokevirtual 55, 3) := by decide +kernel
theorem dX5_gainOf_11 : decode cX5_gainOf 11 = .ok (.iconst 1, 1) := by decide +kernel
theorem dX5_gainOf_12 : decode cX5_gainOf 12 = .ok (.isub, 1) := by decide +kernel
theorem dX5_gainOf_13 : decode cX5_gainOf 13 = .ok (.imul, 1) := by decide +kernel
theorem dX5_gainOf_14 : decode cX5_gainOf 14 = .ok (.ireturn, 1) := by decide +kernel
set_option maxRecDepth 20000 in
theorem ggX5_keptStroke_X5_writtenCount : GoodIn wsX5_keptStroke wsX5_writtenCount := goodIn_r _ [7, 8, 9, 10, 11, 6, 12, 13, 14, 15, 16, 17, 18, 19, 20, 21, 22, 23, 24, 25, 26] (by decide +kernel) (by decide +kernel)
set_option maxRecDepth 20000 in
theorem gX5_keptStroke_X5_writtenCount : GoodIn wsX5_keptStroke (wsV RX5 55 RX5 yX5_writtenCount wsX5_writtenCount) := goodIn_app (goodIn_of _ (by decide +kernel)) ggX5_keptStroke_X5_writtenCount
set_option maxRecDepth 20000 in
theorem ggX5_keptStroke_X5_soundAt : GoodIn wsX5_keptStroke wsX5_soundAt := goodIn_r _ [17, 18, 19, 20, 21, 22, 23, 24, 25, 26] (by decide +kernel) (by decide +kernel)
set_option maxRecDepth 20000 in
theorem gX5_keptStroke_X5_soundAt : GoodIn wsX5_keptStroke (wsV RX5 47 RX5 yX5_soundAt wsX5_soundAt) := goodIn_app (goodIn_of _ (by decide +kernel)) ggX5_keptStroke_X5_soundAt
theorem dX5_keptStroke_0 : decode cX5_keptStroke 0 = .ok (.aload_n 0, 1) := by decide +kernel
theorem dX5_keptStroke_1 : decode cX5_keptStroke 1 = .ok (.getfield 34, 3) := by decide +kernel
theorem dX5_keptStroke_4 : decode cX5_keptStroke 4 = .ok (.iload_n 1, 1) := by decide +kernel
theorem dX5_keptStroke_5 : decode cX5_keptStroke 5 = .ok (.iaload, 1) := by decide +kernel
theorem dX5_keptStroke_6 : decode cX5_keptStroke 6 = .ok (.iconst (-1), 1) := by decide +kernel
theorem dX5_keptStroke_7 : decode cX5_keptStroke 7 = .ok (.if_icmp .eq 10, 3) := by decide +kernel
theorem dX5_keptStroke_10 : decode cX5_keptStroke 10 = .ok (.aload_n 0, 1) := by decide +kernel
theorem dX5_keptStroke_11 : decode cX5_keptStroke 11 = .ok (.getfield 34, 3) := by decide +kernel
theorem dX5_keptStroke_14 : decode cX5_keptStroke 14 = .ok (.iload_n 1, 1) := by decide +kernel
theorem dX5_keptStroke_15 : decode cX5_keptStroke 15 = .ok (.iaload, 1) := by decide +kernel
theorem dX5_keptStroke_16 : decode cX5_keptStroke 16 = .ok (.ireturn, 1) := by decide +kernel
theorem dX5_keptStroke_17 : decode cX5_keptStroke 17 = .ok (.aload_n 0, 1) := by decide +kernel
theorem dX5_keptStroke_18 : decode cX5_keptStroke 18 = .ok (.iload_n 1, 1) := by decide +kernel
theorem dX5_keptStroke_19 : decode cX5_keptStroke 19 = .ok (.invokevirtual 55, 3) := by decide +kernel
theorem dX5_keptStroke_22 : decode cX5_keptStroke 22 = .ok (.iconst 1, 1) := by decide +kernel
theorem dX5_keptStroke_23 : decode cX5_keptStroke 23 = .ok (.if_icmp .ne 17, 3) := by decide +kernel
theorem dX5_keptStroke_26 : decode cX5_keptStroke 26 = .ok (.aload_n 0, 1) := by decide +kernel
theorem dX5_keptStroke_27 : decode cX5_keptStroke 27 = .ok (.getfield 9, 3) := by decide +kernel
theorem dX5_keptStroke_30 : decode cX5_keptStroke 30 = .ok (.aload_n 0, 1) := by decide +kernel
theorem dX5_keptStroke_31 : decode cX5_keptStroke 31 = .ok (.iload_n 1, 1) := by decide +kernel
theorem dX5_keptStroke_32 : decode cX5_keptStroke 32 = .ok (.iconst 0, 1) := by decide +kernel
theorem dX5_keptStroke_33 : decode cX5_keptStroke 33 = .ok (.invokevirtual 47, 3) := by decide +kernel
theorem dX5_keptStroke_36 : decode cX5_keptStroke 36 = .ok (.iaload, 1) := by decide +kernel
theorem dX5_keptStroke_37 : decode cX5_keptStroke 37 = .ok (.goto 4, 3) := by decide +kernel
theorem dX5_keptStroke_40 : decode cX5_keptStroke 40 = .ok (.iconst (-1), 1) := by decide +kernel
theorem dX5_keptStroke_41 : decode cX5_keptStroke 41 = .ok (.ireturn, 1) := by decide +kernel
set_option maxRecDepth 20000 in
theorem ggX5_isFree_X5_keptStroke : GoodIn wsX5_isFree wsX5_keptStroke := goodIn_r _ [6, 7, 8, 9, 10, 11, 5, 12, 13, 14, 15, 16, 17, 18, 19, 20, 21, 22, 23, 24, 25, 26, 27, 28, 29, 30, 31] (by decide +kernel) (by decide +kernel)
set_option maxRecDepth 20000 in
theorem gX5_isFree_X5_keptStroke : GoodIn wsX5_isFree (wsV RX5 59 RX5 yX5_keptStroke wsX5_keptStroke) := goodIn_app (goodIn_of _ (by decide +kernel)) ggX5_isFree_X5_keptStroke
theorem dX5_isFree_0 : decode cX5_isFree 0 = .ok (.iconst 0, 1) := by decide +kernel
theorem dX5_isFree_1 : decode cX5_isFree 1 = .ok (.istore_n 3, 1) := by decide +kernel
theorem dX5_isFree_2 : decode cX5_isFree 2 = .ok (.iload_n 3, 1) := by decide +kernel
theorem dX5_isFree_3 : decode cX5_isFree 3 = .ok (.aload_n 0, 1) := by decide +kernel
theorem dX5_isFree_4 : decode cX5_isFree 4 = .ok (.getfield 22, 3) := by decide +kernel
theorem dX5_isFree_7 : decode cX5_isFree 7 = .ok (.if_icmp .ge 25, 3) := by decide +kernel
theorem dX5_isFree_10 : decode cX5_isFree 10 = .ok (.iload_n 3, 1) := by decide +kernel
theorem dX5_isFree_11 : decode cX5_isFree 11 = .ok (.iload_n 2, 1) := by decide +kernel
theorem dX5_isFree_12 : decode cX5_isFree 12 = .ok (.if_icmp .eq 14, 3) := by decide +kernel
theorem dX5_isFree_15 : decode cX5_isFree 15 = .ok (.aload_n 0, 1) := by decide +kernel
theorem dX5_isFree_16 : decode cX5_isFree 16 = .ok (.iload_n 3, 1) := by decide +kernel
theorem dX5_isFree_17 : decode cX5_isFree 17 = .ok (.invokevirtual 59, 3) := by decide +kernel
theorem dX5_isFree_20 : decode cX5_isFree 20 = .ok (.iload_n 1, 1) := by decide +kernel
theorem dX5_isFree_21 : decode cX5_isFree 21 = .ok (.if_icmp .ne 5, 3) := by decide +kernel
theorem dX5_isFree_24 : decode cX5_isFree 24 = .ok (.iconst 0, 1) := by decide +kernel
theorem dX5_isFree_25 : decode cX5_isFree 25 = .ok (.ireturn, 1) := by decide +kernel
theorem dX5_isFree_26 : decode cX5_isFree 26 = .ok (.iinc 3 1, 3) := by decide +kernel
theorem dX5_isFree_29 : decode cX5_isFree 29 = .ok (.goto (-27), 3) := by decide +kernel
theorem dX5_isFree_32 : decode cX5_isFree 32 = .ok (.iconst 1, 1) := by decide +kernel
theorem dX5_isFree_33 : decode cX5_isFree 33 = .ok (.ireturn, 1) := by decide +kernel
set_option maxRecDepth 20000 in
theorem ggX5_differenceFromSound_X6_difference : GoodIn wsX5_differenceFromSound wsX6_difference := goodIn_r _ [9, 10, 11, 5, 12, 13, 14, 8, 15, 16, 4, 6] (by decide +kernel) (by decide +kernel)
set_option maxRecDepth 20000 in
theorem gX5_differenceFromSound_X6_difference_n62 : GoodIn wsX5_differenceFromSound (wsX6_difference) := ggX5_differenceFromSound_X6_difference
theorem dX5_differenceFromSound_0 : decode cX5_differenceFromSound 0 = .ok (.iload_n 1, 1) := by decide +kernel
theorem dX5_differenceFromSound_1 : decode cX5_differenceFromSound 1 = .ok (.aload_n 0, 1) := by decide +kernel
theorem dX5_differenceFromSound_2 : decode cX5_differenceFromSound 2 = .ok (.getfield 9, 3) := by decide +kernel
theorem dX5_differenceFromSound_5 : decode cX5_differenceFromSound 5 = .ok (.iload_n 2, 1) := by decide +kernel
theorem dX5_differenceFromSound_6 : decode cX5_differenceFromSound 6 = .ok (.iaload, 1) := by decide +kernel
theorem dX5_differenceFromSound_7 : decode cX5_differenceFromSound 7 = .ok (.invokestatic 62, 3) := by decide +kernel
theorem dX5_differenceFromSound_10 : decode cX5_differenceFromSound 10 = .ok (.istore_n 3, 1) := by decide +kernel
theorem dX5_differenceFromSound_11 : decode cX5_differenceFromSound 11 = .ok (.aload_n 0, 1) := by decide +kernel
theorem dX5_differenceFromSound_12 : decode cX5_differenceFromSound 12 = .ok (.getfield 15, 3) := by decide +kernel
theorem dX5_differenceFromSound_15 : decode cX5_differenceFromSound 15 = .ok (.iload_n 2, 1) := by decide +kernel
theorem dX5_differenceFromSound_16 : decode cX5_differenceFromSound 16 = .ok (.iaload, 1) := by decide +kernel
theorem dX5_differenceFromSound_17 : decode cX5_differenceFromSound 17 = .ok (.iconst (-1), 1) := by decide +kernel
theorem dX5_differenceFromSound_18 : decode cX5_differenceFromSound 18 = .ok (.if_icmp .ne 5, 3) := by decide +kernel
theorem dX5_differenceFromSound_21 : decode cX5_differenceFromSound 21 = .ok (.iload_n 3, 1) := by decide +kernel
theorem dX5_differenceFromSound_22 : decode cX5_differenceFromSound 22 = .ok (.ireturn, 1) := by decide +kernel
theorem dX5_differenceFromSound_23 : decode cX5_differenceFromSound 23 = .ok (.iload_n 3, 1) := by decide +kernel
theorem dX5_differenceFromSound_24 : decode cX5_differenceFromSound 24 = .ok (.iload_n 1, 1) := by decide +kernel
theorem dX5_differenceFromSound_25 : decode cX5_differenceFromSound 25 = .ok (.aload_n 0, 1) := by decide +kernel
theorem dX5_differenceFromSound_26 : decode cX5_differenceFromSound 26 = .ok (.getfield 15, 3) := by decide +kernel
theorem dX5_differenceFromSound_29 : decode cX5_differenceFromSound 29 = .ok (.iload_n 2, 1) := by decide +kernel
theorem dX5_differenceFromSound_30 : decode cX5_differenceFromSound 30 = .ok (.iaload, 1) := by decide +kernel
theorem dX5_differenceFromSound_31 : decode cX5_differenceFromSound 31 = .ok (.invokestatic 62, 3) := by decide +kernel
theorem dX5_differenceFromSound_34 : decode cX5_differenceFromSound 34 = .ok (.invokestatic 65, 3) := by decide +kernel
theorem dX5_differenceFromSound_37 : decode cX5_differenceFromSound 37 = .ok (.ireturn, 1) := by decide +kernel
set_option maxRecDepth 20000 in
theorem ggX6_init_X5_init : GoodIn wsX6_init wsX5_init := goodIn_r _ [30, 31, 2, 3, 24, 32, 33, 34, 35, 36, 37, 38, 39, 82, 83, 84, 85, 86, 87, 88, 89] (by decide +kernel) (by decide +kernel)
set_option maxRecDepth 20000 in
theorem gX6_init_X5_init : GoodIn wsX6_init (wsX5_init) := ggX6_init_X5_init
set_option maxRecDepth 20000 in
theorem ggX6_init_X0_init : GoodIn wsX6_init wsX0_init := goodIn_r _ [42, 43, 2, 3, 44, 45, 46, 5, 6, 47, 29, 30, 31, 24, 32, 33, 34, 35, 36, 37, 38, 39, 98, 99, 82, 83, 84, 85, 86, 87, 88, 89] (by decide +kernel) (by decide +kernel)
set_option maxRecDepth 20000 in
theorem gX6_init_X0_init : GoodIn wsX6_init (wsX0_init) := ggX6_init_X0_init
set_option maxRecDepth 20000 in
theorem ggX6_init_X1_init : GoodIn wsX6_init wsX1_init := goodIn_r _ [49, 50, 2, 3, 24, 51, 52, 53, 54, 55, 56, 57, 100, 101, 102, 103, 104, 105, 106] (by decide +kernel) (by decide +kernel)
set_option maxRecDepth 20000 in
theorem gX6_init_X1_init_n25 : GoodIn wsX6_init (wsX1_init) := ggX6_init_X1_init
set_option maxRecDepth 20000 in
theorem ggX6_init_X3_init : GoodIn wsX6_init wsX3_init := goodIn_r _ [59, 60, 2, 3, 61, 62, 63, 64, 65, 66, 67, 68, 69, 70, 24, 71, 72, 73, 74, 113, 114, 115, 116, 107, 108, 109] (by decide +kernel) (by decide +kernel)
set_option maxRecDepth 20000 in
theorem gX6_init_X3_init_n32 : GoodIn wsX6_init (wsX3_init) := ggX6_init_X3_init
set_option maxRecDepth 20000 in
theorem ggX6_init_X2_init : GoodIn wsX6_init wsX2_init := goodIn_r _ [76, 77, 2, 3, 24, 78, 79, 80, 62, 63, 81, 68, 69, 70, 71, 72, 73, 74, 110, 111, 112, 113, 114, 115, 116] (by decide +kernel) (by decide +kernel)
set_option maxRecDepth 20000 in
theorem gX6_init_X2_init_n39 : GoodIn wsX6_init (wsX2_init) := ggX6_init_X2_init
theorem dX6_init_0 : decode cX6_init 0 = .ok (.aload_n 0, 1) := by decide +kernel
theorem dX6_init_1 : decode cX6_init 1 = .ok (.invokespecial 3, 3) := by decide +kernel
theorem dX6_init_4 : decode cX6_init 4 = .ok (.aload_n 0, 1) := by decide +kernel
theorem dX6_init_5 : decode cX6_init 5 = .ok (.new 9, 3) := by decide +kernel
theorem dX6_init_8 : decode cX6_init 8 = .ok (.dup, 1) := by decide +kernel
theorem dX6_init_9 : decode cX6_init 9 = .ok (.invokespecial 11, 3) := by decide +kernel
theorem dX6_init_12 : decode cX6_init 12 = .ok (.putfield 12, 3) := by decide +kernel
theorem dX6_init_15 : decode cX6_init 15 = .ok (.aload_n 0, 1) := by decide +kernel
theorem dX6_init_16 : decode cX6_init 16 = .ok (.new 16, 3) := by decide +kernel
theorem dX6_init_19 : decode cX6_init 19 = .ok (.dup, 1) := by decide +kernel
theorem dX6_init_20 : decode cX6_init 20 = .ok (.invokespecial 18, 3) := by decide +kernel
theorem dX6_init_23 : decode cX6_init 23 = .ok (.putfield 19, 3) := by decide +kernel
theorem dX6_init_26 : decode cX6_init 26 = .ok (.aload_n 0, 1) := by decide +kernel
theorem dX6_init_27 : decode cX6_init 27 = .ok (.new 23, 3) := by decide +kernel
theorem dX6_init_30 : decode cX6_init 30 = .ok (.dup, 1) := by decide +kernel
theorem dX6_init_31 : decode cX6_init 31 = .ok (.invokespecial 25, 3) := by decide +kernel
theorem dX6_init_34 : decode cX6_init 34 = .ok (.putfield 26, 3) := by decide +kernel
theorem dX6_init_37 : decode cX6_init 37 = .ok (.aload_n 0, 1) := by decide +kernel
theorem dX6_init_38 : decode cX6_init 38 = .ok (.new 30, 3) := by decide +kernel
theorem dX6_init_41 : decode cX6_init 41 = .ok (.dup, 1) := by decide +kernel
theorem dX6_init_42 : decode cX6_init 42 = .ok (.invokespecial 32, 3) := by decide +kernel
theorem dX6_init_45 : decode cX6_init 45 = .ok (.putfield 33, 3) := by decide +kernel
theorem dX6_init_48 : decode cX6_init 48 = .ok (.aload_n 0, 1) := by decide +kernel
theorem dX6_init_49 : decode cX6_init 49 = .ok (.new 37, 3) := by decide +kernel
theorem dX6_init_52 : decode cX6_init 52 = .ok (.dup, 1) := by decide +kernel
theorem dX6_init_53 : decode cX6_init 53 = .ok (.invokespecial 39, 3) := by decide +kernel
theorem dX6_init_56 : decode cX6_init 56 = .ok (.putfield 40, 3) := by decide +kernel
theorem dX6_init_59 : decode cX6_init 59 = .ok (.aload_n 0, 1) := by decide +kernel
theorem dX6_init_60 : decode cX6_init 60 = .ok (.bipush 8, 2) := by decide +kernel
theorem dX6_init_62 : decode cX6_init 62 = .ok (.newarray .int, 2) := by decide +kernel
theorem dX6_init_64 : decode cX6_init 64 = .ok (.putfield 44, 3) := by decide +kernel
theorem dX6_init_67 : decode cX6_init 67 = .ok (.aload_n 0, 1) := by decide +kernel
theorem dX6_init_68 : decode cX6_init 68 = .ok (.iconst 0, 1) := by decide +kernel
theorem dX6_init_69 : decode cX6_init 69 = .ok (.putfield 48, 3) := by decide +kernel
theorem dX6_init_72 : decode cX6_init 72 = .ok (.aload_n 0, 1) := by decide +kernel
theorem dX6_init_73 : decode cX6_init 73 = .ok (.iconst 4, 1) := by decide +kernel
theorem dX6_init_74 : decode cX6_init 74 = .ok (.newarray .int, 2) := by decide +kernel
theorem dX6_init_76 : decode cX6_init 76 = .ok (.putfield 52, 3) := by decide +kernel
theorem dX6_init_79 : decode cX6_init 79 = .ok (.return_, 1) := by decide +kernel
set_option maxRecDepth 20000 in
theorem ggX6_setSound_X6_isStroke : GoodIn wsX6_setSound wsX6_isStroke := goodIn_r _ [8] (by decide +kernel) (by decide +kernel)
set_option maxRecDepth 20000 in
theorem gX6_setSound_X6_isStroke : GoodIn wsX6_setSound (va_wsS RX6 55 yX6_isStroke wsX6_isStroke) := goodIn_app (goodIn_of _ (by decide +kernel)) ggX6_setSound_X6_isStroke
set_option maxRecDepth 20000 in
theorem ggX6_setSound_X6_fail : GoodIn wsX6_setSound wsX6_fail := goodIn_r _ [12, 13, 42, 43, 44, 45, 46, 47, 48, 49] (by decide +kernel) (by decide +kernel)
set_option maxRecDepth 20000 in
theorem gX6_setSound_X6_fail : GoodIn wsX6_setSound (wsV RX6 59 RX6 yX6_fail wsX6_fail) := goodIn_app (goodIn_of _ (by decide +kernel)) ggX6_setSound_X6_fail
set_option maxRecDepth 20000 in
theorem ggX6_setSound_X0_save : GoodIn wsX6_setSound wsX0_save := goodIn_r _ [18, 19, 20, 21, 22, 23, 17, 24, 25, 26, 27, 28, 29, 30, 31, 32, 33, 34, 35, 36, 37, 38, 39, 40, 41, 58, 59, 50, 51, 52, 53, 54, 55, 56, 57] (by decide +kernel) (by decide +kernel)
set_option maxRecDepth 20000 in
theorem gX6_setSound_X0_save : GoodIn wsX6_setSound (wsV RX6 63 RX0 yX0_save wsX0_save) := goodIn_app (goodIn_of _ (by decide +kernel)) ggX6_setSound_X0_save
theorem dX6_setSound_0 : decode cX6_setSound 0 = .ok (.iload_n 3, 1) := by decide +kernel
theorem dX6_setSound_1 : decode cX6_setSound 1 = .ok (.iconst (-1), 1) := by decide +kernel
theorem dX6_setSound_2 : decode cX6_setSound 2 = .ok (.if_icmp .eq 10, 3) := by decide +kernel
theorem dX6_setSound_5 : decode cX6_setSound 5 = .ok (.iload_n 3, 1) := by decide +kernel
theorem dX6_setSound_6 : decode cX6_setSound 6 = .ok (.invokestatic 55, 3) := by decide +kernel
theorem dX6_setSound_9 : decode cX6_setSound 9 = .ok (.ifCond .eq 7, 3) := by decide +kernel
theorem dX6_setSound_12 : decode cX6_setSound 12 = .ok (.iconst 1, 1) := by decide +kernel
theorem dX6_setSound_13 : decode cX6_setSound 13 = .ok (.goto 4, 3) := by decide +kernel
theorem dX6_setSound_16 : decode cX6_setSound 16 = .ok (.iconst 0, 1) := by decide +kernel
theorem dX6_setSound_17 : decode cX6_setSound 17 = .ok (.istore 4, 2) := by decide +kernel
theorem dX6_setSound_19 : decode cX6_setSound 19 = .ok (.iload_n 1, 1) := by decide +kernel
theorem dX6_setSound_20 : decode cX6_setSound 20 = .ok (.ifCond .lt 21, 3) := by decide +kernel
theorem dX6_setSound_23 : decode cX6_setSound 23 = .ok (.iload_n 1, 1) := by decide +kernel
theorem dX6_setSound_24 : decode cX6_setSound 24 = .ok (.bipush 8, 2) := by decide +kernel
theorem dX6_setSound_26 : decode cX6_setSound 26 = .ok (.if_icmp .ge 15, 3) := by decide +kernel
theorem dX6_setSound_29 : decode cX6_setSound 29 = .ok (.iload_n 2, 1) := by decide +kernel
theorem dX6_setSound_30 : decode cX6_setSound 30 = .ok (.invokestatic 55, 3) := by decide +kernel
theorem dX6_setSound_33 : decode cX6_setSound 33 = .ok (.ifCond .eq 8, 3) := by decide +kernel
theorem dX6_setSound_36 : decode cX6_setSound 36 = .ok (.iload 4, 2) := by decide +kernel
theorem dX6_setSound_38 : decode cX6_setSound 38 = .ok (.ifCond .ne 10, 3) := by decide +kernel
theorem dX6_setSound_41 : decode cX6_setSound 41 = .ok (.aload_n 0, 1) := by decide +kernel
theorem dX6_setSound_42 : decode cX6_setSound 42 = .ok (.bipush (-2), 2) := by decide +kernel
theorem dX6_setSound_44 : decode cX6_setSound 44 = .ok (.invokevirtual 59, 3) := by decide +kernel
theorem dX6_setSound_47 : decode cX6_setSound 47 = .ok (.ireturn, 1) := by decide +kernel
theorem dX6_setSound_48 : decode cX6_setSound 48 = .ok (.aload_n 0, 1) := by decide +kernel
theorem dX6_setSound_49 : decode cX6_setSound 49 = .ok (.getfield 19, 3) := by decide +kernel
theorem dX6_setSound_52 : decode cX6_setSound 52 = .ok (.aload_n 0, 1) := by decide +kernel
theorem dX6_setSound_53 : decode cX6_setSound 53 = .ok (.getfield 12, 3) := by decide +kernel
theorem dX6_setSound_56 : decode cX6_setSound 56 = .ok (.invokevirtual 63, 3) := by decide +kernel
theorem dX6_setSound_59 : decode cX6_setSound 59 = .ok (.aload_n 0, 1) := by decide +kernel
theorem dX6_setSound_60 : decode cX6_setSound 60 = .ok (.getfield 12, 3) := by decide +kernel
theorem dX6_setSound_63 : decode cX6_setSound 63 = .ok (.getfield 67, 3) := by decide +kernel
theorem dX6_setSound_66 : decode cX6_setSound 66 = .ok (.iload_n 1, 1) := by decide +kernel
theorem dX6_setSound_67 : decode cX6_setSound 67 = .ok (.iaload, 1) := by decide +kernel
theorem dX6_setSound_68 : decode cX6_setSound 68 = .ok (.istore 5, 2) := by decide +kernel
theorem dX6_setSound_70 : decode cX6_setSound 70 = .ok (.aload_n 0, 1) := by decide +kernel
theorem dX6_setSound_71 : decode cX6_setSound 71 = .ok (.getfield 12, 3) := by decide +kernel
theorem dX6_setSound_74 : decode cX6_setSound 74 = .ok (.getfield 67, 3) := by decide +kernel
theorem dX6_setSound_77 : decode cX6_setSound 77 = .ok (.iload_n 1, 1) := by decide +kernel
theorem dX6_setSound_78 : decode cX6_setSound 78 = .ok (.iload_n 2, 1) := by decide +kernel
theorem dX6_setSound_79 : decode cX6_setSound 79 = .ok (.iastore, 1) := by decide +kernel
theorem dX6_setSound_80 : decode cX6_setSound 80 = .ok (.aload_n 0, 1) := by decide +kernel
theorem dX6_setSound_81 : decode cX6_setSound 81 = .ok (.getfield 12, 3) := by decide +kernel
theorem dX6_setSound_84 : decode cX6_setSound 84 = .ok (.getfield 70, 3) := by decide +kernel
theorem dX6_setSound_87 : decode cX6_setSound 87 = .ok (.iload_n 1, 1) := by decide +kernel
theorem dX6_setSound_88 : decode cX6_setSound 88 = .ok (.iload_n 3, 1) := by decide +kernel
theorem dX6_setSound_89 : decode cX6_setSound 89 = .ok (.iastore, 1) := by decide +kernel
theorem dX6_setSound_90 : decode cX6_setSound 90 = .ok (.iload 5, 2) := by decide +kernel
theorem dX6_setSound_92 : decode cX6_setSound 92 = .ok (.ireturn, 1) := by decide +kernel
set_option maxRecDepth 20000 in
theorem ggX6_setVowels_X6_fail : GoodIn wsX6_setVowels wsX6_fail := goodIn_r _ [8, 9, 38, 39, 40, 41, 42, 43, 44, 45] (by decide +kernel) (by decide +kernel)
set_option maxRecDepth 20000 in
theorem gX6_setVowels_X6_fail : GoodIn wsX6_setVowels (wsV RX6 59 RX6 yX6_fail wsX6_fail) := goodIn_app (goodIn_of _ (by decide +kernel)) ggX6_setVowels_X6_fail
set_option maxRecDepth 20000 in
theorem ggX6_setVowels_X0_save : GoodIn wsX6_setVowels wsX0_save := goodIn_r _ [14, 15, 16, 17, 18, 19, 13, 20, 21, 22, 23, 24, 25, 26, 27, 28, 29, 30, 31, 32, 33, 34, 35, 36, 37, 54, 55, 46, 47, 48, 49, 50, 51, 52, 53] (by decide +kernel) (by decide +kernel)
set_option maxRecDepth 20000 in
theorem gX6_setVowels_X0_save : GoodIn wsX6_setVowels (wsV RX6 63 RX0 yX0_save wsX0_save) := goodIn_app (goodIn_of _ (by decide +kernel)) ggX6_setVowels_X0_save
theorem dX6_setVowels_0 : decode cX6_setVowels 0 = .ok (.iload_n 1, 1) := by decide +kernel
theorem dX6_setVowels_1 : decode cX6_setVowels 1 = .ok (.ifCond .lt 10, 3) := by decide +kernel
theorem dX6_setVowels_4 : decode cX6_setVowels 4 = .ok (.iload_n 1, 1) := by decide +kernel
theorem dX6_setVowels_5 : decode cX6_setVowels 5 = .ok (.sipush 255, 3) := by decide +kernel
theorem dX6_setVowels_8 : decode cX6_setVowels 8 = .ok (.if_icmp .le 10, 3) := by decide +kernel
theorem dX6_setVowels_11 : decode cX6_setVowels 11 = .ok (.aload_n 0, 1) := by decide +kernel
theorem dX6_setVowels_12 : decode cX6_setVowels 12 = .ok (.bipush (-2), 2) := by decide +kernel
theorem dX6_setVowels_14 : decode cX6_setVowels 14 = .ok (.invokevirtual 59, 3) := by decide +kernel
theorem dX6_setVowels_17 : decode cX6_setVowels 17 = .ok (.ireturn, 1) := by decide +kernel
theorem dX6_setVowels_18 : decode cX6_setVowels 18 = .ok (.aload_n 0, 1) := by decide +kernel
theorem dX6_setVowels_19 : decode cX6_setVowels 19 = .ok (.getfield 19, 3) := by decide +kernel
theorem dX6_setVowels_22 : decode cX6_setVowels 22 = .ok (.aload_n 0, 1) := by decide +kernel
theorem dX6_setVowels_23 : decode cX6_setVowels 23 = .ok (.getfield 12, 3) := by decide +kernel
theorem dX6_setVowels_26 : decode cX6_setVowels 26 = .ok (.invokevirtual 63, 3) := by decide +kernel
theorem dX6_setVowels_29 : decode cX6_setVowels 29 = .ok (.aload_n 0, 1) := by decide +kernel
theorem dX6_setVowels_30 : decode cX6_setVowels 30 = .ok (.getfield 12, 3) := by decide +kernel
theorem dX6_setVowels_33 : decode cX6_setVowels 33 = .ok (.getfield 73, 3) := by decide +kernel
theorem dX6_setVowels_36 : decode cX6_setVowels 36 = .ok (.istore_n 2, 1) := by decide +kernel
theorem dX6_setVowels_37 : decode cX6_setVowels 37 = .ok (.aload_n 0, 1) := by decide +kernel
theorem dX6_setVowels_38 : decode cX6_setVowels 38 = .ok (.getfield 12, 3) := by decide +kernel
theorem dX6_setVowels_41 : decode cX6_setVowels 41 = .ok (.iload_n 1, 1) := by decide +kernel
theorem dX6_setVowels_42 : decode cX6_setVowels 42 = .ok (.putfield 73, 3) := by decide +kernel
theorem dX6_setVowels_45 : decode cX6_setVowels 45 = .ok (.iload_n 2, 1) := by decide +kernel
theorem dX6_setVowels_46 : decode cX6_setVowels 46 = .ok (.ireturn, 1) := by decide +kernel
set_option maxRecDepth 20000 in
theorem ggX6_append_X6_fail : GoodIn wsX6_append wsX6_fail := goodIn_r _ [7, 8, 9, 10, 11, 12, 13, 14, 15, 16] (by decide +kernel) (by decide +kernel)
set_option maxRecDepth 20000 in
theorem gX6_append_X6_fail : GoodIn wsX6_append (wsV RX6 59 RX6 yX6_fail wsX6_fail) := goodIn_app (goodIn_of _ (by decide +kernel)) ggX6_append_X6_fail
theorem dX6_append_0 : decode cX6_append 0 = .ok (.iload_n 1, 1) := by decide +kernel
theorem dX6_append_1 : decode cX6_append 1 = .ok (.ifCond .lt 9, 3) := by decide +kernel
theorem dX6_append_4 : decode cX6_append 4 = .ok (.iload_n 1, 1) := by decide +kernel
theorem dX6_append_5 : decode cX6_append 5 = .ok (.bipush 127, 2) := by decide +kernel
theorem dX6_append_7 : decode cX6_append 7 = .ok (.if_icmp .le 10, 3) := by decide +kernel
theorem dX6_append_10 : decode cX6_append 10 = .ok (.aload_n 0, 1) := by decide +kernel
theorem dX6_append_11 : decode cX6_append 11 = .ok (.bipush (-2), 2) := by decide +kernel
theorem dX6_append_13 : decode cX6_append 13 = .ok (.invokevirtual 59, 3) := by decide +kernel
theorem dX6_append_16 : decode cX6_append 16 = .ok (.ireturn, 1) := by decide +kernel
theorem dX6_append_17 : decode cX6_append 17 = .ok (.aload_n 0, 1) := by decide +kernel
theorem dX6_append_18 : decode cX6_append 18 = .ok (.getfield 48, 3) := by decide +kernel
theorem dX6_append_21 : decode cX6_append 21 = .ok (.bipush 8, 2) := by decide +kernel
theorem dX6_append_23 : decode cX6_append 23 = .ok (.if_icmp .lt 10, 3) := by decide +kernel
theorem dX6_append_26 : decode cX6_append 26 = .ok (.aload_n 0, 1) := by decide +kernel
theorem dX6_append_27 : decode cX6_append 27 = .ok (.bipush (-4), 2) := by decide +kernel
theorem dX6_append_29 : decode cX6_append 29 = .ok (.invokevirtual 59, 3) := by decide +kernel
theorem dX6_append_32 : decode cX6_append 32 = .ok (.ireturn, 1) := by decide +kernel
theorem dX6_append_33 : decode cX6_append 33 = .ok (.aload_n 0, 1) := by decide +kernel
theorem dX6_append_34 : decode cX6_append 34 = .ok (.getfield 44, 3) := by decide +kernel
theorem dX6_append_37 : decode cX6_append 37 = .ok (.aload_n 0, 1) := by decide +kernel
theorem dX6_append_38 : decode cX6_append 38 = .ok (.getfield 48, 3) := by decide +kernel
theorem dX6_append_41 : decode cX6_append 41 = .ok (.iload_n 1, 1) := by decide +kernel
theorem dX6_append_42 : decode cX6_append 42 = .ok (.iastore, 1) := by decide +kernel
theorem dX6_append_43 : decode cX6_append 43 = .ok (.aload_n 0, 1) := by decide +kernel
theorem dX6_append_44 : decode cX6_append 44 = .ok (.dup, 1) := by decide +kernel
theorem dX6_append_45 : decode cX6_append 45 = .ok (.getfield 48, 3) := by decide +kernel
theorem dX6_append_48 : decode cX6_append 48 = .ok (.iconst 1, 1) := by decide +kernel
theorem dX6_append_49 : decode cX6_append 49 = .ok (.iadd, 1) := by decide +kernel
theorem dX6_append_50 : decode cX6_append 50 = .ok (.putfield 48, 3) := by decide +kernel
theorem dX6_append_53 : decode cX6_append 53 = .ok (.aload_n 0, 1) := by decide +kernel
theorem dX6_append_54 : decode cX6_append 54 = .ok (.getfield 48, 3) := by decide +kernel
theorem dX6_append_57 : decode cX6_append 57 = .ok (.ireturn, 1) := by decide +kernel
theorem dX6_clearText_0 : decode cX6_clearText 0 = .ok (.aload_n 0, 1) := by decide +kernel
theorem dX6_clearText_1 : decode cX6_clearText 1 = .ok (.getfield 48, 3) := by decide +kernel
theorem dX6_clearText_4 : decode cX6_clearText 4 = .ok (.istore_n 1, 1) := by decide +kernel
theorem dX6_clearText_5 : decode cX6_clearText 5 = .ok (.aload_n 0, 1) := by decide +kernel
theorem dX6_clearText_6 : decode cX6_clearText 6 = .ok (.iconst 0, 1) := by decide +kernel
theorem dX6_clearText_7 : decode cX6_clearText 7 = .ok (.putfield 48, 3) := by decide +kernel
theorem dX6_clearText_10 : decode cX6_clearText 10 = .ok (.iload_n 1, 1) := by decide +kernel
theorem dX6_clearText_11 : decode cX6_clearText 11 = .ok (.ireturn, 1) := by decide +kernel
set_option maxRecDepth 20000 in
theorem ggX6_addWord_X6_fail : GoodIn wsX6_addWord wsX6_fail := goodIn_r _ [10, 11, 48, 49, 50, 51, 52, 53, 54, 55] (by decide +kernel) (by decide +kernel)
set_option maxRecDepth 20000 in
theorem gX6_addWord_X6_fail : GoodIn wsX6_addWord (wsV RX6 59 RX6 yX6_fail wsX6_fail) := goodIn_app (goodIn_of _ (by decide +kernel)) ggX6_addWord_X6_fail
set_option maxRecDepth 20000 in
theorem ggX6_addWord_X6_textIsWord : GoodIn wsX6_addWord wsX6_textIsWord := goodIn_r _ [15, 5, 4, 48, 49, 50, 51, 52, 53, 54, 55] (by decide +kernel) (by decide +kernel)
set_option maxRecDepth 20000 in
theorem gX6_addWord_X6_textIsWord : GoodIn wsX6_addWord (wsV RX6 76 RX6 yX6_textIsWord wsX6_textIsWord) := goodIn_app (goodIn_of _ (by decide +kernel)) ggX6_addWord_X6_textIsWord
set_option maxRecDepth 20000 in
theorem ggX6_addWord_X0_save : GoodIn wsX6_addWord wsX0_save := goodIn_r _ [20, 21, 22, 23, 24, 25, 19, 26, 27, 28, 29, 30, 31, 32, 33, 34, 35, 36, 37, 38, 39, 40, 41, 42, 43, 64, 65, 56, 57, 58, 59, 60, 61, 62, 63] (by decide +kernel) (by decide +kernel)
set_option maxRecDepth 20000 in
theorem gX6_addWord_X0_save : GoodIn wsX6_addWord (wsV RX6 63 RX0 yX0_save wsX0_save) := goodIn_app (goodIn_of _ (by decide +kernel)) ggX6_addWord_X0_save
set_option maxRecDepth 20000 in
theorem ggX6_addWord_X5_enter : GoodIn wsX6_addWord wsX5_enter := goodIn_r _ [47, 39, 40, 41, 42, 43, 56, 57, 58, 59, 60, 61, 62, 63] (by decide +kernel) (by decide +kernel)
set_option maxRecDepth 20000 in
theorem gX6_addWord_X5_enter : GoodIn wsX6_addWord (wsV RX6 83 RX5 yX5_enter wsX5_enter) := goodIn_app (goodIn_of _ (by decide +kernel)) ggX6_addWord_X5_enter
theorem dX6_addWord_0 : decode cX6_addWord 0 = .ok (.iload_n 1, 1) := by decide +kernel
theorem dX6_addWord_1 : decode cX6_addWord 1 = .ok (.iconst 1, 1) := by decide +kernel
theorem dX6_addWord_2 : decode cX6_addWord 2 = .ok (.if_icmp .lt 10, 3) := by decide +kernel
theorem dX6_addWord_5 : decode cX6_addWord 5 = .ok (.iload_n 1, 1) := by decide +kernel
theorem dX6_addWord_6 : decode cX6_addWord 6 = .ok (.sipush 999, 3) := by decide +kernel
theorem dX6_addWord_9 : decode cX6_addWord 9 = .ok (.if_icmp .le 10, 3) := by decide +kernel
theorem dX6_addWord_12 : decode cX6_addWord 12 = .ok (.aload_n 0, 1) := by decide +kernel
theorem dX6_addWord_13 : decode cX6_addWord 13 = .ok (.bipush (-2), 2) := by decide +kernel
theorem dX6_addWord_15 : decode cX6_addWord 15 = .ok (.invokevirtual 59, 3) := by decide +kernel
theorem dX6_addWord_18 : decode cX6_addWord 18 = .ok (.ireturn, 1) := by decide +kernel
theorem dX6_addWord_19 : decode cX6_addWord 19 = .ok (.aload_n 0, 1) := by decide +kernel
theorem dX6_addWord_20 : decode cX6_addWord 20 = .ok (.invokevirtual 76, 3) := by decide +kernel
theorem dX6_addWord_23 : decode cX6_addWord 23 = .ok (.ifCond .ne 10, 3) := by decide +kernel
theorem dX6_addWord_26 : decode cX6_addWord 26 = .ok (.aload_n 0, 1) := by decide +kernel
theorem dX6_addWord_27 : decode cX6_addWord 27 = .ok (.bipush (-3), 2) := by decide +kernel
theorem dX6_addWord_29 : decode cX6_addWord 29 = .ok (.invokevirtual 59, 3) := by decide +kernel
theorem dX6_addWord_32 : decode cX6_addWord 32 = .ok (.ireturn, 1) := by decide +kernel
theorem dX6_addWord_33 : decode cX6_addWord 33 = .ok (.aload_n 0, 1) := by decide +kernel
theorem dX6_addWord_34 : decode cX6_addWord 34 = .ok (.getfield 12, 3) := by decide +kernel
theorem dX6_addWord_37 : decode cX6_addWord 37 = .ok (.getfield 80, 3) := by decide +kernel
theorem dX6_addWord_40 : decode cX6_addWord 40 = .ok (.bipush 12, 2) := by decide +kernel
theorem dX6_addWord_42 : decode cX6_addWord 42 = .ok (.if_icmp .lt 10, 3) := by decide +kernel
theorem dX6_addWord_45 : decode cX6_addWord 45 = .ok (.aload_n 0, 1) := by decide +kernel
theorem dX6_addWord_46 : decode cX6_addWord 46 = .ok (.bipush (-4), 2) := by decide +kernel
theorem dX6_addWord_48 : decode cX6_addWord 48 = .ok (.invokevirtual 59, 3) := by decide +kernel
theorem dX6_addWord_51 : decode cX6_addWord 51 = .ok (.ireturn, 1) := by decide +kernel
theorem dX6_addWord_52 : decode cX6_addWord 52 = .ok (.aload_n 0, 1) := by decide +kernel
theorem dX6_addWord_53 : decode cX6_addWord 53 = .ok (.getfield 19, 3) := by decide +kernel
theorem dX6_addWord_56 : decode cX6_addWord 56 = .ok (.aload_n 0, 1) := by decide +kernel
theorem dX6_addWord_57 : decode cX6_addWord 57 = .ok (.getfield 12, 3) := by decide +kernel
theorem dX6_addWord_60 : decode cX6_addWord 60 = .ok (.invokevirtual 63, 3) := by decide +kernel
theorem dX6_addWord_63 : decode cX6_addWord 63 = .ok (.aload_n 0, 1) := by decide +kernel
theorem dX6_addWord_64 : decode cX6_addWord 64 = .ok (.getfield 12, 3) := by decide +kernel
theorem dX6_addWord_67 : decode cX6_addWord 67 = .ok (.aload_n 0, 1) := by decide +kernel
theorem dX6_addWord_68 : decode cX6_addWord 68 = .ok (.getfield 44, 3) := by decide +kernel
theorem dX6_addWord_71 : decode cX6_addWord 71 = .ok (.aload_n 0, 1) := by decide +kernel
theorem dX6_addWord_72 : decode cX6_addWord 72 = .ok (.getfield 48, 3) := by decide +kernel
theorem dX6_addWord_75 : decode cX6_addWord 75 = .ok (.iload_n 1, 1) := by decide +kernel
theorem dX6_addWord_76 : decode cX6_addWord 76 = .ok (.invokevirtual 83, 3) := by decide +kernel
theorem dX6_addWord_79 : decode cX6_addWord 79 = .ok (.ireturn, 1) := by decide +kernel
set_option maxRecDepth 20000 in
theorem ggX6_removeWord_X5_hasWord : GoodIn wsX6_removeWord wsX5_hasWord := goodIn_r _ [8, 9, 58, 59, 60, 61, 62, 63, 64, 65] (by decide +kernel) (by decide +kernel)
set_option maxRecDepth 20000 in
theorem gX6_removeWord_X5_hasWord : GoodIn wsX6_removeWord (wsV RX6 87 RX5 yX5_hasWord wsX5_hasWord) := goodIn_app (goodIn_of _ (by decide +kernel)) ggX6_removeWord_X5_hasWord
set_option maxRecDepth 20000 in
theorem ggX6_removeWord_X6_fail : GoodIn wsX6_removeWord wsX6_fail := goodIn_r _ [14, 15, 50, 51, 52, 53, 54, 55, 56, 57] (by decide +kernel) (by decide +kernel)
set_option maxRecDepth 20000 in
theorem gX6_removeWord_X6_fail : GoodIn wsX6_removeWord (wsV RX6 59 RX6 yX6_fail wsX6_fail) := goodIn_app (goodIn_of _ (by decide +kernel)) ggX6_removeWord_X6_fail
set_option maxRecDepth 20000 in
theorem ggX6_removeWord_X0_save : GoodIn wsX6_removeWord wsX0_save := goodIn_r _ [20, 21, 22, 23, 24, 25, 19, 26, 27, 28, 29, 7, 30, 31, 32, 33, 34, 35, 36, 37, 9, 38, 39, 40, 41, 66, 67, 58, 59, 60, 61, 62, 63, 64, 65] (by decide +kernel) (by decide +kernel)
set_option maxRecDepth 20000 in
theorem gX6_removeWord_X0_save : GoodIn wsX6_removeWord (wsV RX6 63 RX0 yX0_save wsX0_save) := goodIn_app (goodIn_of _ (by decide +kernel)) ggX6_removeWord_X0_save
set_option maxRecDepth 20000 in
theorem ggX6_removeWord_X5_drop : GoodIn wsX6_removeWord wsX5_drop := goodIn_r _ [45, 9, 46, 47, 48, 7, 49, 38, 39, 40, 41, 58, 59, 60, 61, 62, 63, 64, 65] (by decide +kernel) (by decide +kernel)
set_option maxRecDepth 20000 in
theorem gX6_removeWord_X5_drop : GoodIn wsX6_removeWord (wsV RX6 90 RX5 yX5_drop wsX5_drop) := goodIn_app (goodIn_of _ (by decide +kernel)) ggX6_removeWord_X5_drop
theorem dX6_removeWord_0 : decode cX6_removeWord 0 = .ok (.aload_n 0, 1) := by decide +kernel
theorem dX6_removeWord_1 : decode cX6_removeWord 1 = .ok (.getfield 12, 3) := by decide +kernel
theorem dX6_removeWord_4 : decode cX6_removeWord 4 = .ok (.iload_n 1, 1) := by decide +kernel
theorem dX6_removeWord_5 : decode cX6_removeWord 5 = .ok (.invokevirtual 87, 3) := by decide +kernel
theorem dX6_removeWord_8 : decode cX6_removeWord 8 = .ok (.ifCond .ne 10, 3) := by decide +kernel
theorem dX6_removeWord_11 : decode cX6_removeWord 11 = .ok (.aload_n 0, 1) := by decide +kernel
theorem dX6_removeWord_12 : decode cX6_removeWord 12 = .ok (.bipush (-2), 2) := by decide +kernel
theorem dX6_removeWord_14 : decode cX6_removeWord 14 = .ok (.invokevirtual 59, 3) := by decide +kernel
theorem dX6_removeWord_17 : decode cX6_removeWord 17 = .ok (.ireturn, 1) := by decide +kernel
theorem dX6_removeWord_18 : decode cX6_removeWord 18 = .ok (.aload_n 0, 1) := by decide +kernel
theorem dX6_removeWord_19 : decode cX6_removeWord 19 = .ok (.getfield 19, 3) := by decide +kernel
theorem dX6_removeWord_22 : decode cX6_removeWord 22 = .ok (.aload_n 0, 1) := by decide +kernel
theorem dX6_removeWord_23 : decode cX6_removeWord 23 = .ok (.getfield 12, 3) := by decide +kernel
theorem dX6_removeWord_26 : decode cX6_removeWord 26 = .ok (.invokevirtual 63, 3) := by decide +kernel
theorem dX6_removeWord_29 : decode cX6_removeWord 29 = .ok (.aload_n 0, 1) := by decide +kernel
theorem dX6_removeWord_30 : decode cX6_removeWord 30 = .ok (.getfield 12, 3) := by decide +kernel
theorem dX6_removeWord_33 : decode cX6_removeWord 33 = .ok (.iload_n 1, 1) := by decide +kernel
theorem dX6_removeWord_34 : decode cX6_removeWord 34 = .ok (.invokevirtual 90, 3) := by decide +kernel
theorem dX6_removeWord_37 : decode cX6_removeWord 37 = .ok (.aload_n 0, 1) := by decide +kernel
theorem dX6_removeWord_38 : decode cX6_removeWord 38 = .ok (.getfield 12, 3) := by decide +kernel
theorem dX6_removeWord_41 : decode cX6_removeWord 41 = .ok (.getfield 80, 3) := by decide +kernel
theorem dX6_removeWord_44 : decode cX6_removeWord 44 = .ok (.ireturn, 1) := by decide +kernel
theorem dX6_words_0 : decode cX6_words 0 = .ok (.aload_n 0, 1) := by decide +kernel
theorem dX6_words_1 : decode cX6_words 1 = .ok (.getfield 12, 3) := by decide +kernel
theorem dX6_words_4 : decode cX6_words 4 = .ok (.getfield 80, 3) := by decide +kernel
theorem dX6_words_7 : decode cX6_words 7 = .ok (.ireturn, 1) := by decide +kernel
set_option maxRecDepth 20000 in
theorem ggX6_letters_X5_hasWord : GoodIn wsX6_letters wsX5_hasWord := goodIn_r _ [7, 8, 23, 24, 25, 26, 27, 28, 29, 30] (by decide +kernel) (by decide +kernel)
set_option maxRecDepth 20000 in
theorem gX6_letters_X5_hasWord : GoodIn wsX6_letters (wsV RX6 87 RX5 yX5_hasWord wsX5_hasWord) := goodIn_app (goodIn_of _ (by decide +kernel)) ggX6_letters_X5_hasWord
set_option maxRecDepth 20000 in
theorem ggX6_letters_X6_fail : GoodIn wsX6_letters wsX6_fail := goodIn_r _ [13, 14, 15, 16, 17, 18, 19, 20, 21, 22] (by decide +kernel) (by decide +kernel)
set_option maxRecDepth 20000 in
theorem gX6_letters_X6_fail : GoodIn wsX6_letters (wsV RX6 59 RX6 yX6_fail wsX6_fail) := goodIn_app (goodIn_of _ (by decide +kernel)) ggX6_letters_X6_fail
theorem dX6_letters_0 : decode cX6_letters 0 = .ok (.aload_n 0, 1) := by decide +kernel
theorem dX6_letters_1 : decode cX6_letters 1 = .ok (.getfield 12, 3) := by decide +kernel
theorem dX6_letters_4 : decode cX6_letters 4 = .ok (.iload_n 1, 1) := by decide +kernel
theorem dX6_letters_5 : decode cX6_letters 5 = .ok (.invokevirtual 87, 3) := by decide +kernel
theorem dX6_letters_8 : decode cX6_letters 8 = .ok (.ifCond .ne 10, 3) := by decide +kernel
theorem dX6_letters_11 : decode cX6_letters 11 = .ok (.aload_n 0, 1) := by decide +kernel
theorem dX6_letters_12 : decode cX6_letters 12 = .ok (.bipush (-2), 2) := by decide +kernel
theorem dX6_letters_14 : decode cX6_letters 14 = .ok (.invokevirtual 59, 3) := by decide +kernel
theorem dX6_letters_17 : decode cX6_letters 17 = .ok (.ireturn, 1) := by decide +kernel
theorem dX6_letters_18 : decode cX6_letters 18 = .ok (.aload_n 0, 1) := by decide +kernel
theorem dX6_letters_19 : decode cX6_letters 19 = .ok (.getfield 12, 3) := by decide +kernel
theorem dX6_letters_22 : decode cX6_letters 22 = .ok (.getfield 94, 3) := by decide +kernel
theorem dX6_letters_25 : decode cX6_letters 25 = .ok (.iload_n 1, 1) := by decide +kernel
theorem dX6_letters_26 : decode cX6_letters 26 = .ok (.iaload, 1) := by decide +kernel
theorem dX6_letters_27 : decode cX6_letters 27 = .ok (.ireturn, 1) := by decide +kernel
set_option maxRecDepth 20000 in
theorem ggX6_frequency_X5_hasWord : GoodIn wsX6_frequency wsX5_hasWord := goodIn_r _ [7, 8, 23, 24, 25, 26, 27, 28, 29, 30] (by decide +kernel) (by decide +kernel)
set_option maxRecDepth 20000 in
theorem gX6_frequency_X5_hasWord : GoodIn wsX6_frequency (wsV RX6 87 RX5 yX5_hasWord wsX5_hasWord) := goodIn_app (goodIn_of _ (by decide +kernel)) ggX6_frequency_X5_hasWord
set_option maxRecDepth 20000 in
theorem ggX6_frequency_X6_fail : GoodIn wsX6_frequency wsX6_fail := goodIn_r _ [13, 14, 15, 16, 17, 18, 19, 20, 21, 22] (by decide +kernel) (by decide +kernel)
set_option maxRecDepth 20000 in
theorem gX6_frequency_X6_fail : GoodIn wsX6_frequency (wsV RX6 59 RX6 yX6_fail wsX6_fail) := goodIn_app (goodIn_of _ (by decide +kernel)) ggX6_frequency_X6_fail
theorem dX6_frequency_0 : decode cX6_frequency 0 = .ok (.aload_n 0, 1) := by decide +kernel
theorem dX6_frequency_1 : decode cX6_frequency 1 = .ok (.getfield 12, 3) := by decide +kernel
theorem dX6_frequency_4 : decode cX6_frequency 4 = .ok (.iload_n 1, 1) := by decide +kernel
theorem dX6_frequency_5 : decode cX6_frequency 5 = .ok (.invokevirtual 87, 3) := by decide +kernel
theorem dX6_frequency_8 : decode cX6_frequency 8 = .ok (.ifCond .ne 10, 3) := by decide +kernel
theorem dX6_frequency_11 : decode cX6_frequency 11 = .ok (.aload_n 0, 1) := by decide +kernel
theorem dX6_frequency_12 : decode cX6_frequency 12 = .ok (.bipush (-2), 2) := by decide +kernel
theorem dX6_frequency_14 : decode cX6_frequency 14 = .ok (.invokevirtual 59, 3) := by decide +kernel
theorem dX6_frequency_17 : decode cX6_frequency 17 = .ok (.ireturn, 1) := by decide +kernel
theorem dX6_frequency_18 : decode cX6_frequency 18 = .ok (.aload_n 0, 1) := by decide +kernel
theorem dX6_frequency_19 : decode cX6_frequency 19 = .ok (.getfield 12, 3) := by decide +kernel
theorem dX6_frequency_22 : decode cX6_frequency 22 = .ok (.getfield 97, 3) := by decide +kernel
theorem dX6_frequency_25 : decode cX6_frequency 25 = .ok (.iload_n 1, 1) := by decide +kernel
theorem dX6_frequency_26 : decode cX6_frequency 26 = .ok (.iaload, 1) := by decide +kernel
theorem dX6_frequency_27 : decode cX6_frequency 27 = .ok (.ireturn, 1) := by decide +kernel
set_option maxRecDepth 20000 in
theorem ggX6_strokes_X5_hasWord : GoodIn wsX6_strokes wsX5_hasWord := goodIn_r _ [6, 7, 37, 38, 39, 40, 41, 42, 43, 44] (by decide +kernel) (by decide +kernel)
set_option maxRecDepth 20000 in
theorem gX6_strokes_X5_hasWord : GoodIn wsX6_strokes (wsV RX6 87 RX5 yX5_hasWord wsX5_hasWord) := goodIn_app (goodIn_of _ (by decide +kernel)) ggX6_strokes_X5_hasWord
set_option maxRecDepth 20000 in
theorem ggX6_strokes_X6_fail : GoodIn wsX6_strokes wsX6_fail := goodIn_r _ [12, 13, 29, 30, 31, 32, 33, 34, 35, 36] (by decide +kernel) (by decide +kernel)
set_option maxRecDepth 20000 in
theorem gX6_strokes_X6_fail : GoodIn wsX6_strokes (wsV RX6 59 RX6 yX6_fail wsX6_fail) := goodIn_app (goodIn_of _ (by decide +kernel)) ggX6_strokes_X6_fail
set_option maxRecDepth 20000 in
theorem ggX6_strokes_X5_writtenCount : GoodIn wsX6_strokes wsX5_writtenCount := goodIn_r _ [17, 18, 19, 20, 21, 5, 22, 23, 24, 25, 26, 27, 28, 37, 38, 39, 40, 41, 42, 43, 44] (by decide +kernel) (by decide +kernel)
set_option maxRecDepth 20000 in
theorem gX6_strokes_X5_writtenCount : GoodIn wsX6_strokes (wsV RX6 100 RX5 yX5_writtenCount wsX5_writtenCount) := goodIn_app (goodIn_of _ (by decide +kernel)) ggX6_strokes_X5_writtenCount
theorem dX6_strokes_0 : decode cX6_strokes 0 = .ok (.aload_n 0, 1) := by decide +kernel
theorem dX6_strokes_1 : decode cX6_strokes 1 = .ok (.getfield 12, 3) := by decide +kernel
theorem dX6_strokes_4 : decode cX6_strokes 4 = .ok (.iload_n 1, 1) := by decide +kernel
theorem dX6_strokes_5 : decode cX6_strokes 5 = .ok (.invokevirtual 87, 3) := by decide +kernel
theorem dX6_strokes_8 : decode cX6_strokes 8 = .ok (.ifCond .ne 10, 3) := by decide +kernel
theorem dX6_strokes_11 : decode cX6_strokes 11 = .ok (.aload_n 0, 1) := by decide +kernel
theorem dX6_strokes_12 : decode cX6_strokes 12 = .ok (.bipush (-2), 2) := by decide +kernel
theorem dX6_strokes_14 : decode cX6_strokes 14 = .ok (.invokevirtual 59, 3) := by decide +kernel
theorem dX6_strokes_17 : decode cX6_strokes 17 = .ok (.ireturn, 1) := by decide +kernel
theorem dX6_strokes_18 : decode cX6_strokes 18 = .ok (.aload_n 0, 1) := by decide +kernel
theorem dX6_strokes_19 : decode cX6_strokes 19 = .ok (.getfield 12, 3) := by decide +kernel
theorem dX6_strokes_22 : decode cX6_strokes 22 = .ok (.iload_n 1, 1) := by decide +kernel
theorem dX6_strokes_23 : decode cX6_strokes 23 = .ok (.invokevirtual 100, 3) := by decide +kernel
theorem dX6_strokes_26 : decode cX6_strokes 26 = .ok (.ireturn, 1) := by decide +kernel
set_option maxRecDepth 20000 in
theorem ggX6_stroke_X5_hasWord : GoodIn wsX6_stroke wsX5_hasWord := goodIn_r _ [8, 9, 96, 97, 98, 99, 100, 101, 102, 103] (by decide +kernel) (by decide +kernel)
set_option maxRecDepth 20000 in
theorem gX6_stroke_X5_hasWord : GoodIn wsX6_stroke (wsV RX6 87 RX5 yX5_hasWord wsX5_hasWord) := goodIn_app (goodIn_of _ (by decide +kernel)) ggX6_stroke_X5_hasWord
set_option maxRecDepth 20000 in
theorem ggX6_stroke_X5_writtenCount : GoodIn wsX6_stroke wsX5_writtenCount := goodIn_r _ [13, 14, 15, 16, 17, 7, 18, 19, 20, 21, 22, 23, 24, 96, 97, 98, 99, 100, 101, 102, 103] (by decide +kernel) (by decide +kernel)
set_option maxRecDepth 20000 in
theorem gX6_stroke_X5_writtenCount : GoodIn wsX6_stroke (wsV RX6 100 RX5 yX5_writtenCount wsX5_writtenCount) := goodIn_app (goodIn_of _ (by decide +kernel)) ggX6_stroke_X5_writtenCount
set_option maxRecDepth 20000 in
theorem ggX6_stroke_X6_fail : GoodIn wsX6_stroke wsX6_fail := goodIn_r _ [29, 30, 81, 82, 83, 84, 85, 86, 87, 88] (by decide +kernel) (by decide +kernel)
set_option maxRecDepth 20000 in
theorem gX6_stroke_X6_fail : GoodIn wsX6_stroke (wsV RX6 59 RX6 yX6_fail wsX6_fail) := goodIn_app (goodIn_of _ (by decide +kernel)) ggX6_stroke_X6_fail
set_option maxRecDepth 20000 in
theorem ggX6_stroke_X1_build : GoodIn wsX6_stroke wsX1_build := goodIn_r _ [35, 36, 37, 38, 39, 40, 41, 42, 43, 34, 44, 45, 46, 47, 48, 16, 17, 7, 18, 19, 20, 21, 22, 23, 24, 49, 50, 51, 52, 53, 54, 55, 56, 57, 58, 59, 60, 61, 62, 28, 63, 64, 65, 66, 67, 68, 69, 70, 71, 72, 73, 74, 75, 76, 77, 78, 79, 80, 89, 90, 91, 92, 93, 94, 95, 96, 97, 98, 99, 100, 101, 102, 103] (by decide +kernel) (by decide +kernel)
set_option maxRecDepth 20000 in
theorem gX6_stroke_X1_build : GoodIn wsX6_stroke (wsV RX6 103 RX1 yX1_build wsX1_build) := goodIn_app (goodIn_of _ (by decide +kernel)) ggX6_stroke_X1_build
theorem dX6_stroke_0 : decode cX6_stroke 0 = .ok (.aload_n 0, 1) := by decide +kernel
theorem dX6_stroke_1 : decode cX6_stroke 1 = .ok (.getfield 12, 3) := by decide +kernel
theorem dX6_stroke_4 : decode cX6_stroke 4 = .ok (.iload_n 1, 1) := by decide +kernel
theorem dX6_stroke_5 : decode cX6_stroke 5 = .ok (.invokevirtual 87, 3) := by decide +kernel
theorem dX6_stroke_8 : decode cX6_stroke 8 = .ok (.ifCond .eq 19, 3) := by decide +kernel
theorem dX6_stroke_11 : decode cX6_stroke 11 = .ok (.iload_n 2, 1) := by decide +kernel
theorem dX6_stroke_12 : decode cX6_stroke 12 = .ok (.ifCond .lt 15, 3) := by decide +kernel
theorem dX6_stroke_15 : decode cX6_stroke 15 = .ok (.iload_n 2, 1) := by decide +kernel
theorem dX6_stroke_16 : decode cX6_stroke 16 = .ok (.aload_n 0, 1) := by decide +kernel
theorem dX6_stroke_17 : decode cX6_stroke 17 = .ok (.getfield 12, 3) := by decide +kernel
theorem dX6_stroke_20 : decode cX6_stroke 20 = .ok (.iload_n 1, 1) := by decide +kernel
theorem dX6_stroke_21 : decode cX6_stroke 21 = .ok (.invokevirtual 100, 3) := by decide +kernel
theorem dX6_stroke_24 : decode cX6_stroke 24 = .ok (.if_icmp .lt 10, 3) := by decide +kernel
theorem dX6_stroke_27 : decode cX6_stroke 27 = .ok (.aload_n 0, 1) := by decide +kernel
theorem dX6_stroke_28 : decode cX6_stroke 28 = .ok (.bipush (-2), 2) := by decide +kernel
theorem dX6_stroke_30 : decode cX6_stroke 30 = .ok (.invokevirtual 59, 3) := by decide +kernel
theorem dX6_stroke_33 : decode cX6_stroke 33 = .ok (.ireturn, 1) := by decide +kernel
theorem dX6_stroke_34 : decode cX6_stroke 34 = .ok (.aload_n 0, 1) := by decide +kernel
theorem dX6_stroke_35 : decode cX6_stroke 35 = .ok (.getfield 26, 3) := by decide +kernel
theorem dX6_stroke_38 : decode cX6_stroke 38 = .ok (.aload_n 0, 1) := by decide +kernel
theorem dX6_stroke_39 : decode cX6_stroke 39 = .ok (.getfield 12, 3) := by decide +kernel
theorem dX6_stroke_42 : decode cX6_stroke 42 = .ok (.iload_n 1, 1) := by decide +kernel
theorem dX6_stroke_43 : decode cX6_stroke 43 = .ok (.invokevirtual 103, 3) := by decide +kernel
theorem dX6_stroke_46 : decode cX6_stroke 46 = .ok (.aload_n 0, 1) := by decide +kernel
theorem dX6_stroke_47 : decode cX6_stroke 47 = .ok (.getfield 26, 3) := by decide +kernel
theorem dX6_stroke_50 : decode cX6_stroke 50 = .ok (.getfield 107, 3) := by decide +kernel
theorem dX6_stroke_53 : decode cX6_stroke 53 = .ok (.iload_n 2, 1) := by decide +kernel
theorem dX6_stroke_54 : decode cX6_stroke 54 = .ok (.iaload, 1) := by decide +kernel
theorem dX6_stroke_55 : decode cX6_stroke 55 = .ok (.ireturn, 1) := by decide +kernel
set_option maxRecDepth 20000 in
theorem ggX6_cost_X5_hasWord : GoodIn wsX6_cost wsX5_hasWord := goodIn_r _ [8, 9, 90, 91, 92, 93, 94, 95, 96, 97] (by decide +kernel) (by decide +kernel)
set_option maxRecDepth 20000 in
theorem gX6_cost_X5_hasWord : GoodIn wsX6_cost (wsV RX6 87 RX5 yX5_hasWord wsX5_hasWord) := goodIn_app (goodIn_of _ (by decide +kernel)) ggX6_cost_X5_hasWord
set_option maxRecDepth 20000 in
theorem ggX6_cost_X6_fail : GoodIn wsX6_cost wsX6_fail := goodIn_r _ [14, 15, 75, 76, 77, 78, 79, 80, 81, 82] (by decide +kernel) (by decide +kernel)
set_option maxRecDepth 20000 in
theorem gX6_cost_X6_fail : GoodIn wsX6_cost (wsV RX6 59 RX6 yX6_fail wsX6_fail) := goodIn_app (goodIn_of _ (by decide +kernel)) ggX6_cost_X6_fail
set_option maxRecDepth 20000 in
theorem ggX6_cost_X1_build : GoodIn wsX6_cost wsX1_build := goodIn_r _ [20, 21, 22, 23, 24, 25, 26, 27, 28, 19, 29, 30, 31, 32, 33, 34, 35, 7, 36, 37, 38, 39, 40, 41, 42, 43, 44, 45, 46, 47, 48, 49, 50, 51, 52, 53, 54, 55, 56, 13, 57, 58, 59, 60, 61, 62, 63, 64, 65, 66, 67, 68, 69, 70, 71, 72, 73, 74, 83, 84, 85, 86, 87, 88, 89, 90, 91, 92, 93, 94, 95, 96, 97] (by decide +kernel) (by decide +kernel)
set_option maxRecDepth 20000 in
theorem gX6_cost_X1_build : GoodIn wsX6_cost (wsV RX6 103 RX1 yX1_build wsX1_build) := goodIn_app (goodIn_of _ (by decide +kernel)) ggX6_cost_X1_build
theorem dX6_cost_0 : decode cX6_cost 0 = .ok (.aload_n 0, 1) := by decide +kernel
theorem dX6_cost_1 : decode cX6_cost 1 = .ok (.getfield 12, 3) := by decide +kernel
theorem dX6_cost_4 : decode cX6_cost 4 = .ok (.iload_n 1, 1) := by decide +kernel
theorem dX6_cost_5 : decode cX6_cost 5 = .ok (.invokevirtual 87, 3) := by decide +kernel
theorem dX6_cost_8 : decode cX6_cost 8 = .ok (.ifCond .ne 10, 3) := by decide +kernel
theorem dX6_cost_11 : decode cX6_cost 11 = .ok (.aload_n 0, 1) := by decide +kernel
theorem dX6_cost_12 : decode cX6_cost 12 = .ok (.bipush (-2), 2) := by decide +kernel
theorem dX6_cost_14 : decode cX6_cost 14 = .ok (.invokevirtual 59, 3) := by decide +kernel
theorem dX6_cost_17 : decode cX6_cost 17 = .ok (.ireturn, 1) := by decide +kernel
theorem dX6_cost_18 : decode cX6_cost 18 = .ok (.aload_n 0, 1) := by decide +kernel
theorem dX6_cost_19 : decode cX6_cost 19 = .ok (.getfield 26, 3) := by decide +kernel
theorem dX6_cost_22 : decode cX6_cost 22 = .ok (.aload_n 0, 1) := by decide +kernel
theorem dX6_cost_23 : decode cX6_cost 23 = .ok (.getfield 12, 3) := by decide +kernel
theorem dX6_cost_26 : decode cX6_cost 26 = .ok (.iload_n 1, 1) := by decide +kernel
theorem dX6_cost_27 : decode cX6_cost 27 = .ok (.invokevirtual 103, 3) := by decide +kernel
theorem dX6_cost_30 : decode cX6_cost 30 = .ok (.aload_n 0, 1) := by decide +kernel
theorem dX6_cost_31 : decode cX6_cost 31 = .ok (.getfield 26, 3) := by decide +kernel
theorem dX6_cost_34 : decode cX6_cost 34 = .ok (.getfield 110, 3) := by decide +kernel
theorem dX6_cost_37 : decode cX6_cost 37 = .ok (.ireturn, 1) := by decide +kernel
set_option maxRecDepth 20000 in
theorem ggX6_outlines_X5_hasWord : GoodIn wsX6_outlines wsX5_hasWord := goodIn_r _ [7, 8, 86, 87, 88, 89, 90, 91, 92, 93] (by decide +kernel) (by decide +kernel)
set_option maxRecDepth 20000 in
theorem gX6_outlines_X5_hasWord : GoodIn wsX6_outlines (wsV RX6 87 RX5 yX5_hasWord wsX5_hasWord) := goodIn_app (goodIn_of _ (by decide +kernel)) ggX6_outlines_X5_hasWord
set_option maxRecDepth 20000 in
theorem ggX6_outlines_X6_fail : GoodIn wsX6_outlines wsX6_fail := goodIn_r _ [13, 14, 78, 79, 80, 81, 82, 83, 84, 85] (by decide +kernel) (by decide +kernel)
set_option maxRecDepth 20000 in
theorem gX6_outlines_X6_fail : GoodIn wsX6_outlines (wsV RX6 59 RX6 yX6_fail wsX6_fail) := goodIn_app (goodIn_of _ (by decide +kernel)) ggX6_outlines_X6_fail
set_option maxRecDepth 20000 in
theorem ggX6_outlines_X1_build : GoodIn wsX6_outlines wsX1_build := goodIn_r _ [19, 20, 21, 22, 23, 24, 25, 26, 27, 18, 28, 29, 30, 31, 32, 33, 34, 6, 35, 36, 37, 38, 39, 40, 41, 42, 43, 44, 45, 46, 47, 48, 49, 50, 51, 52, 53, 54, 55, 12, 56, 57, 58, 59, 60, 61, 62, 63, 64, 65, 66, 67, 68, 69, 70, 71, 72, 73, 94, 95, 96, 97, 98, 99, 100, 86, 87, 88, 89, 90, 91, 92, 93] (by decide +kernel) (by decide +kernel)
set_option maxRecDepth 20000 in
theorem gX6_outlines_X1_build : GoodIn wsX6_outlines (wsV RX6 103 RX1 yX1_build wsX1_build) := goodIn_app (goodIn_of _ (by decide +kernel)) ggX6_outlines_X1_build
set_option maxRecDepth 20000 in
theorem ggX6_outlines_X1_ways : GoodIn wsX6_outlines wsX1_ways := goodIn_r _ [77, 20, 24, 94, 95, 96, 97, 98, 99, 100] (by decide +kernel) (by decide +kernel)
set_option maxRecDepth 20000 in
theorem gX6_outlines_X1_ways : GoodIn wsX6_outlines (wsV RX6 113 RX1 yX1_ways wsX1_ways) := goodIn_app (goodIn_of _ (by decide +kernel)) ggX6_outlines_X1_ways
theorem dX6_outlines_0 : decode cX6_outlines 0 = .ok (.aload_n 0, 1) := by decide +kernel
theorem dX6_outlines_1 : decode cX6_outlines 1 = .ok (.getfield 12, 3) := by decide +kernel
theorem dX6_outlines_4 : decode cX6_outlines 4 = .ok (.iload_n 1, 1) := by decide +kernel
theorem dX6_outlines_5 : decode cX6_outlines 5 = .ok (.invokevirtual 87, 3) := by decide +kernel
theorem dX6_outlines_8 : decode cX6_outlines 8 = .ok (.ifCond .ne 10, 3) := by decide +kernel
theorem dX6_outlines_11 : decode cX6_outlines 11 = .ok (.aload_n 0, 1) := by decide +kernel
theorem dX6_outlines_12 : decode cX6_outlines 12 = .ok (.bipush (-2), 2) := by decide +kernel
theorem dX6_outlines_14 : decode cX6_outlines 14 = .ok (.invokevirtual 59, 3) := by decide +kernel
theorem dX6_outlines_17 : decode cX6_outlines 17 = .ok (.ireturn, 1) := by decide +kernel
theorem dX6_outlines_18 : decode cX6_outlines 18 = .ok (.aload_n 0, 1) := by decide +kernel
theorem dX6_outlines_19 : decode cX6_outlines 19 = .ok (.getfield 26, 3) := by decide +kernel
theorem dX6_outlines_22 : decode cX6_outlines 22 = .ok (.aload_n 0, 1) := by decide +kernel
theorem dX6_outlines_23 : decode cX6_outlines 23 = .ok (.getfield 12, 3) := by decide +kernel
theorem dX6_outlines_26 : decode cX6_outlines 26 = .ok (.iload_n 1, 1) := by decide +kernel
theorem dX6_outlines_27 : decode cX6_outlines 27 = .ok (.invokevirtual 103, 3) := by decide +kernel
theorem dX6_outlines_30 : decode cX6_outlines 30 = .ok (.aload_n 0, 1) := by decide +kernel
theorem dX6_outlines_31 : decode cX6_outlines 31 = .ok (.getfield 26, 3) := by decide +kernel
theorem dX6_outlines_34 : decode cX6_outlines 34 = .ok (.invokevirtual 113, 3) := by decide +kernel
theorem dX6_outlines_37 : decode cX6_outlines 37 = .ok (.ireturn, 1) := by decide +kernel
set_option maxRecDepth 20000 in
theorem ggX6_joinCost_X6_isStroke : GoodIn wsX6_joinCost wsX6_isStroke := goodIn_r _ [4] (by decide +kernel) (by decide +kernel)
set_option maxRecDepth 20000 in
theorem gX6_joinCost_X6_isStroke : GoodIn wsX6_joinCost (va_wsS RX6 55 yX6_isStroke wsX6_isStroke) := goodIn_app (goodIn_of _ (by decide +kernel)) ggX6_joinCost_X6_isStroke
set_option maxRecDepth 20000 in
theorem ggX6_joinCost_X6_fail : GoodIn wsX6_joinCost wsX6_fail := goodIn_r _ [8, 9, 23, 24, 25, 26, 27, 28, 29, 30] (by decide +kernel) (by decide +kernel)
set_option maxRecDepth 20000 in
theorem gX6_joinCost_X6_fail : GoodIn wsX6_joinCost (wsV RX6 59 RX6 yX6_fail wsX6_fail) := goodIn_app (goodIn_of _ (by decide +kernel)) ggX6_joinCost_X6_fail
set_option maxRecDepth 20000 in
theorem ggX6_joinCost_X6_join : GoodIn wsX6_joinCost wsX6_join := goodIn_r _ [12, 13, 14, 3, 15, 16, 17, 18, 19, 20, 21, 22] (by decide +kernel) (by decide +kernel)
set_option maxRecDepth 20000 in
theorem gX6_joinCost_X6_join : GoodIn wsX6_joinCost (va_wsS RX6 117 yX6_join wsX6_join) := goodIn_app (goodIn_of _ (by decide +kernel)) ggX6_joinCost_X6_join
theorem dX6_joinCost_0 : decode cX6_joinCost 0 = .ok (.iload_n 1, 1) := by decide +kernel
theorem dX6_joinCost_1 : decode cX6_joinCost 1 = .ok (.invokestatic 55, 3) := by decide +kernel
theorem dX6_joinCost_4 : decode cX6_joinCost 4 = .ok (.ifCond .eq 10, 3) := by decide +kernel
theorem dX6_joinCost_7 : decode cX6_joinCost 7 = .ok (.iload_n 2, 1) := by decide +kernel
theorem dX6_joinCost_8 : decode cX6_joinCost 8 = .ok (.invokestatic 55, 3) := by decide +kernel
theorem dX6_joinCost_11 : decode cX6_joinCost 11 = .ok (.ifCond .ne 10, 3) := by decide +kernel
theorem dX6_joinCost_14 : decode cX6_joinCost 14 = .ok (.aload_n 0, 1) := by decide +kernel
theorem dX6_joinCost_15 : decode cX6_joinCost 15 = .ok (.bipush (-2), 2) := by decide +kernel
theorem dX6_joinCost_17 : decode cX6_joinCost 17 = .ok (.invokevirtual 59, 3) := by decide +kernel
theorem dX6_joinCost_20 : decode cX6_joinCost 20 = .ok (.ireturn, 1) := by decide +kernel
theorem dX6_joinCost_21 : decode cX6_joinCost 21 = .ok (.iload_n 1, 1) := by decide +kernel
theorem dX6_joinCost_22 : decode cX6_joinCost 22 = .ok (.iload_n 2, 1) := by decide +kernel
theorem dX6_joinCost_23 : decode cX6_joinCost 23 = .ok (.invokestatic 117, 3) := by decide +kernel
theorem dX6_joinCost_26 : decode cX6_joinCost 26 = .ok (.ireturn, 1) := by decide +kernel
set_option maxRecDepth 20000 in
theorem ggX6_setBrief_X5_hasWord : GoodIn wsX6_setBrief wsX5_hasWord := goodIn_r _ [8, 9, 73, 74, 75, 76, 77, 78, 79, 80] (by decide +kernel) (by decide +kernel)
set_option maxRecDepth 20000 in
theorem gX6_setBrief_X5_hasWord : GoodIn wsX6_setBrief (wsV RX6 87 RX5 yX5_hasWord wsX5_hasWord) := goodIn_app (goodIn_of _ (by decide +kernel)) ggX6_setBrief_X5_hasWord
set_option maxRecDepth 20000 in
theorem ggX6_setBrief_X6_isStroke : GoodIn wsX6_setBrief wsX6_isStroke := goodIn_r _ [13] (by decide +kernel) (by decide +kernel)
set_option maxRecDepth 20000 in
theorem gX6_setBrief_X6_isStroke : GoodIn wsX6_setBrief (va_wsS RX6 55 yX6_isStroke wsX6_isStroke) := goodIn_app (goodIn_of _ (by decide +kernel)) ggX6_setBrief_X6_isStroke
set_option maxRecDepth 20000 in
theorem ggX6_setBrief_X6_fail : GoodIn wsX6_setBrief wsX6_fail := goodIn_r _ [17, 18, 65, 66, 67, 68, 69, 70, 71, 72] (by decide +kernel) (by decide +kernel)
set_option maxRecDepth 20000 in
theorem gX6_setBrief_X6_fail : GoodIn wsX6_setBrief (wsV RX6 59 RX6 yX6_fail wsX6_fail) := goodIn_app (goodIn_of _ (by decide +kernel)) ggX6_setBrief_X6_fail
set_option maxRecDepth 20000 in
theorem ggX6_setBrief_X5_isFree : GoodIn wsX6_setBrief wsX5_isFree := goodIn_r _ [22, 9, 23, 24, 25, 7, 26, 27, 28, 29, 30, 31, 32, 33, 34, 35, 36, 37, 38, 39, 40, 41, 42, 43, 73, 74, 75, 76, 77, 78, 79, 80] (by decide +kernel) (by decide +kernel)
set_option maxRecDepth 20000 in
theorem gX6_setBrief_X5_isFree : GoodIn wsX6_setBrief (wsV RX6 121 RX5 yX5_isFree wsX5_isFree) := goodIn_app (goodIn_of _ (by decide +kernel)) ggX6_setBrief_X5_isFree
set_option maxRecDepth 20000 in
theorem ggX6_setBrief_X0_save : GoodIn wsX6_setBrief wsX0_save := goodIn_r _ [48, 49, 50, 51, 52, 53, 47, 54, 55, 56, 57, 7, 58, 28, 59, 60, 61, 62, 63, 38, 9, 43, 33, 64, 27, 81, 82, 73, 74, 75, 76, 77, 78, 79, 80] (by decide +kernel) (by decide +kernel)
set_option maxRecDepth 20000 in
theorem gX6_setBrief_X0_save : GoodIn wsX6_setBrief (wsV RX6 63 RX0 yX0_save wsX0_save) := goodIn_app (goodIn_of _ (by decide +kernel)) ggX6_setBrief_X0_save
theorem dX6_setBrief_0 : decode cX6_setBrief 0 = .ok (.aload_n 0, 1) := by decide +kernel
theorem dX6_setBrief_1 : decode cX6_setBrief 1 = .ok (.getfield 12, 3) := by decide +kernel
theorem dX6_setBrief_4 : decode cX6_setBrief 4 = .ok (.iload_n 1, 1) := by decide +kernel
theorem dX6_setBrief_5 : decode cX6_setBrief 5 = .ok (.invokevirtual 87, 3) := by decide +kernel
theorem dX6_setBrief_8 : decode cX6_setBrief 8 = .ok (.ifCond .eq 10, 3) := by decide +kernel
theorem dX6_setBrief_11 : decode cX6_setBrief 11 = .ok (.iload_n 2, 1) := by decide +kernel
theorem dX6_setBrief_12 : decode cX6_setBrief 12 = .ok (.invokestatic 55, 3) := by decide +kernel
theorem dX6_setBrief_15 : decode cX6_setBrief 15 = .ok (.ifCond .ne 10, 3) := by decide +kernel
theorem dX6_setBrief_18 : decode cX6_setBrief 18 = .ok (.aload_n 0, 1) := by decide +kernel
theorem dX6_setBrief_19 : decode cX6_setBrief 19 = .ok (.bipush (-2), 2) := by decide +kernel
theorem dX6_setBrief_21 : decode cX6_setBrief 21 = .ok (.invokevirtual 59, 3) := by decide +kernel
theorem dX6_setBrief_24 : decode cX6_setBrief 24 = .ok (.ireturn, 1) := by decide +kernel
theorem dX6_setBrief_25 : decode cX6_setBrief 25 = .ok (.aload_n 0, 1) := by decide +kernel
theorem dX6_setBrief_26 : decode cX6_setBrief 26 = .ok (.getfield 12, 3) := by decide +kernel
theorem dX6_setBrief_29 : decode cX6_setBrief 29 = .ok (.iload_n 2, 1) := by decide +kernel
theorem dX6_setBrief_30 : decode cX6_setBrief 30 = .ok (.iload_n 1, 1) := by decide +kernel
theorem dX6_setBrief_31 : decode cX6_setBrief 31 = .ok (.invokevirtual 121, 3) := by decide +kernel
theorem dX6_setBrief_34 : decode cX6_setBrief 34 = .ok (.ifCond .ne 10, 3) := by decide +kernel
theorem dX6_setBrief_37 : decode cX6_setBrief 37 = .ok (.aload_n 0, 1) := by decide +kernel
theorem dX6_setBrief_38 : decode cX6_setBrief 38 = .ok (.bipush (-3), 2) := by decide +kernel
theorem dX6_setBrief_40 : decode cX6_setBrief 40 = .ok (.invokevirtual 59, 3) := by decide +kernel
theorem dX6_setBrief_43 : decode cX6_setBrief 43 = .ok (.ireturn, 1) := by decide +kernel
theorem dX6_setBrief_44 : decode cX6_setBrief 44 = .ok (.aload_n 0, 1) := by decide +kernel
theorem dX6_setBrief_45 : decode cX6_setBrief 45 = .ok (.getfield 19, 3) := by decide +kernel
theorem dX6_setBrief_48 : decode cX6_setBrief 48 = .ok (.aload_n 0, 1) := by decide +kernel
theorem dX6_setBrief_49 : decode cX6_setBrief 49 = .ok (.getfield 12, 3) := by decide +kernel
theorem dX6_setBrief_52 : decode cX6_setBrief 52 = .ok (.invokevirtual 63, 3) := by decide +kernel
theorem dX6_setBrief_55 : decode cX6_setBrief 55 = .ok (.aload_n 0, 1) := by decide +kernel
theorem dX6_setBrief_56 : decode cX6_setBrief 56 = .ok (.getfield 12, 3) := by decide +kernel
theorem dX6_setBrief_59 : decode cX6_setBrief 59 = .ok (.getfield 125, 3) := by decide +kernel
theorem dX6_setBrief_62 : decode cX6_setBrief 62 = .ok (.iload_n 1, 1) := by decide +kernel
theorem dX6_setBrief_63 : decode cX6_setBrief 63 = .ok (.iaload, 1) := by decide +kernel
theorem dX6_setBrief_64 : decode cX6_setBrief 64 = .ok (.istore_n 3, 1) := by decide +kernel
theorem dX6_setBrief_65 : decode cX6_setBrief 65 = .ok (.aload_n 0, 1) := by decide +kernel
theorem dX6_setBrief_66 : decode cX6_setBrief 66 = .ok (.getfield 12, 3) := by decide +kernel
theorem dX6_setBrief_69 : decode cX6_setBrief 69 = .ok (.getfield 125, 3) := by decide +kernel
theorem dX6_setBrief_72 : decode cX6_setBrief 72 = .ok (.iload_n 1, 1) := by decide +kernel
theorem dX6_setBrief_73 : decode cX6_setBrief 73 = .ok (.iload_n 2, 1) := by decide +kernel
theorem dX6_setBrief_74 : decode cX6_setBrief 74 = .ok (.iastore, 1) := by decide +kernel
theorem dX6_setBrief_75 : decode cX6_setBrief 75 = .ok (.iload_n 3, 1) := by decide +kernel
theorem dX6_setBrief_76 : decode cX6_setBrief 76 = .ok (.ireturn, 1) := by decide +kernel
set_option maxRecDepth 20000 in
theorem ggX6_clearBrief_X5_hasWord : GoodIn wsX6_clearBrief wsX5_hasWord := goodIn_r _ [8, 9, 50, 51, 52, 53, 54, 55, 56, 57] (by decide +kernel) (by decide +kernel)
set_option maxRecDepth 20000 in
theorem gX6_clearBrief_X5_hasWord : GoodIn wsX6_clearBrief (wsV RX6 87 RX5 yX5_hasWord wsX5_hasWord) := goodIn_app (goodIn_of _ (by decide +kernel)) ggX6_clearBrief_X5_hasWord
set_option maxRecDepth 20000 in
theorem ggX6_clearBrief_X6_fail : GoodIn wsX6_clearBrief wsX6_fail := goodIn_r _ [14, 15, 42, 43, 44, 45, 46, 47, 48, 49] (by decide +kernel) (by decide +kernel)
set_option maxRecDepth 20000 in
theorem gX6_clearBrief_X6_fail : GoodIn wsX6_clearBrief (wsV RX6 59 RX6 yX6_fail wsX6_fail) := goodIn_app (goodIn_of _ (by decide +kernel)) ggX6_clearBrief_X6_fail
set_option maxRecDepth 20000 in
theorem ggX6_clearBrief_X0_save : GoodIn wsX6_clearBrief wsX0_save := goodIn_r _ [20, 21, 22, 23, 24, 25, 19, 26, 27, 28, 29, 7, 30, 31, 32, 33, 34, 35, 36, 37, 9, 38, 39, 40, 41, 58, 59, 50, 51, 52, 53, 54, 55, 56, 57] (by decide +kernel) (by decide +kernel)
set_option maxRecDepth 20000 in
theorem gX6_clearBrief_X0_save : GoodIn wsX6_clearBrief (wsV RX6 63 RX0 yX0_save wsX0_save) := goodIn_app (goodIn_of _ (by decide +kernel)) ggX6_clearBrief_X0_save
theorem dX6_clearBrief_0 : decode cX6_clearBrief 0 = .ok (.aload_n 0, 1) := by decide +kernel
theorem dX6_clearBrief_1 : decode cX6_clearBrief 1 = .ok (.getfield 12, 3) := by decide +kernel
theorem dX6_clearBrief_4 : decode cX6_clearBrief 4 = .ok (.iload_n 1, 1) := by decide +kernel
theorem dX6_clearBrief_5 : decode cX6_clearBrief 5 = .ok (.invokevirtual 87, 3) := by decide +kernel
theorem dX6_clearBrief_8 : decode cX6_clearBrief 8 = .ok (.ifCond .ne 10, 3) := by decide +kernel
theorem dX6_clearBrief_11 : decode cX6_clearBrief 11 = .ok (.aload_n 0, 1) := by decide +kernel
theorem dX6_clearBrief_12 : decode cX6_clearBrief 12 = .ok (.bipush (-2), 2) := by decide +kernel
theorem dX6_clearBrief_14 : decode cX6_clearBrief 14 = .ok (.invokevirtual 59, 3) := by decide +kernel
theorem dX6_clearBrief_17 : decode cX6_clearBrief 17 = .ok (.ireturn, 1) := by decide +kernel
theorem dX6_clearBrief_18 : decode cX6_clearBrief 18 = .ok (.aload_n 0, 1) := by decide +kernel
theorem dX6_clearBrief_19 : decode cX6_clearBrief 19 = .ok (.getfield 12, 3) := by decide +kernel
theorem dX6_clearBrief_22 : decode cX6_clearBrief 22 = .ok (.getfield 125, 3) := by decide +kernel
theorem dX6_clearBrief_25 : decode cX6_clearBrief 25 = .ok (.iload_n 1, 1) := by decide +kernel
theorem dX6_clearBrief_26 : decode cX6_clearBrief 26 = .ok (.iaload, 1) := by decide +kernel
theorem dX6_clearBrief_27 : decode cX6_clearBrief 27 = .ok (.istore_n 2, 1) := by decide +kernel
theorem dX6_clearBrief_28 : decode cX6_clearBrief 28 = .ok (.iload_n 2, 1) := by decide +kernel
theorem dX6_clearBrief_29 : decode cX6_clearBrief 29 = .ok (.iconst (-1), 1) := by decide +kernel
theorem dX6_clearBrief_30 : decode cX6_clearBrief 30 = .ok (.if_icmp .ne 10, 3) := by decide +kernel
theorem dX6_clearBrief_33 : decode cX6_clearBrief 33 = .ok (.aload_n 0, 1) := by decide +kernel
theorem dX6_clearBrief_34 : decode cX6_clearBrief 34 = .ok (.bipush (-3), 2) := by decide +kernel
theorem dX6_clearBrief_36 : decode cX6_clearBrief 36 = .ok (.invokevirtual 59, 3) := by decide +kernel
theorem dX6_clearBrief_39 : decode cX6_clearBrief 39 = .ok (.ireturn, 1) := by decide +kernel
theorem dX6_clearBrief_40 : decode cX6_clearBrief 40 = .ok (.aload_n 0, 1) := by decide +kernel
theorem dX6_clearBrief_41 : decode cX6_clearBrief 41 = .ok (.getfield 19, 3) := by decide +kernel
theorem dX6_clearBrief_44 : decode cX6_clearBrief 44 = .ok (.aload_n 0, 1) := by decide +kernel
theorem dX6_clearBrief_45 : decode cX6_clearBrief 45 = .ok (.getfield 12, 3) := by decide +kernel
theorem dX6_clearBrief_48 : decode cX6_clearBrief 48 = .ok (.invokevirtual 63, 3) := by decide +kernel
theorem dX6_clearBrief_51 : decode cX6_clearBrief 51 = .ok (.aload_n 0, 1) := by decide +kernel
theorem dX6_clearBrief_52 : decode cX6_clearBrief 52 = .ok (.getfield 12, 3) := by decide +kernel
theorem dX6_clearBrief_55 : decode cX6_clearBrief 55 = .ok (.getfield 125, 3) := by decide +kernel
theorem dX6_clearBrief_58 : decode cX6_clearBrief 58 = .ok (.iload_n 1, 1) := by decide +kernel
theorem dX6_clearBrief_59 : decode cX6_clearBrief 59 = .ok (.iconst (-1), 1) := by decide +kernel
theorem dX6_clearBrief_60 : decode cX6_clearBrief 60 = .ok (.iastore, 1) := by decide +kernel
theorem dX6_clearBrief_61 : decode cX6_clearBrief 61 = .ok (.iload_n 2, 1) := by decide +kernel
theorem dX6_clearBrief_62 : decode cX6_clearBrief 62 = .ok (.ireturn, 1) := by decide +kernel
set_option maxRecDepth 20000 in
theorem ggX6_brief_X5_hasWord : GoodIn wsX6_brief wsX5_hasWord := goodIn_r _ [7, 8, 23, 24, 25, 26, 27, 28, 29, 30] (by decide +kernel) (by decide +kernel)
set_option maxRecDepth 20000 in
theorem gX6_brief_X5_hasWord : GoodIn wsX6_brief (wsV RX6 87 RX5 yX5_hasWord wsX5_hasWord) := goodIn_app (goodIn_of _ (by decide +kernel)) ggX6_brief_X5_hasWord
set_option maxRecDepth 20000 in
theorem ggX6_brief_X6_fail : GoodIn wsX6_brief wsX6_fail := goodIn_r _ [13, 14, 15, 16, 17, 18, 19, 20, 21, 22] (by decide +kernel) (by decide +kernel)
set_option maxRecDepth 20000 in
theorem gX6_brief_X6_fail : GoodIn wsX6_brief (wsV RX6 59 RX6 yX6_fail wsX6_fail) := goodIn_app (goodIn_of _ (by decide +kernel)) ggX6_brief_X6_fail
theorem dX6_brief_0 : decode cX6_brief 0 = .ok (.aload_n 0, 1) := by decide +kernel
theorem dX6_brief_1 : decode cX6_brief 1 = .ok (.getfield 12, 3) := by decide +kernel
theorem dX6_brief_4 : decode cX6_brief 4 = .ok (.iload_n 1, 1) := by decide +kernel
theorem dX6_brief_5 : decode cX6_brief 5 = .ok (.invokevirtual 87, 3) := by decide +kernel
theorem dX6_brief_8 : decode cX6_brief 8 = .ok (.ifCond .ne 10, 3) := by decide +kernel
theorem dX6_brief_11 : decode cX6_brief 11 = .ok (.aload_n 0, 1) := by decide +kernel
theorem dX6_brief_12 : decode cX6_brief 12 = .ok (.bipush (-2), 2) := by decide +kernel
theorem dX6_brief_14 : decode cX6_brief 14 = .ok (.invokevirtual 59, 3) := by decide +kernel
theorem dX6_brief_17 : decode cX6_brief 17 = .ok (.ireturn, 1) := by decide +kernel
theorem dX6_brief_18 : decode cX6_brief 18 = .ok (.aload_n 0, 1) := by decide +kernel
theorem dX6_brief_19 : decode cX6_brief 19 = .ok (.getfield 12, 3) := by decide +kernel
theorem dX6_brief_22 : decode cX6_brief 22 = .ok (.getfield 125, 3) := by decide +kernel
theorem dX6_brief_25 : decode cX6_brief 25 = .ok (.iload_n 1, 1) := by decide +kernel
theorem dX6_brief_26 : decode cX6_brief 26 = .ok (.iaload, 1) := by decide +kernel
theorem dX6_brief_27 : decode cX6_brief 27 = .ok (.ireturn, 1) := by decide +kernel
set_option maxRecDepth 20000 in
theorem ggX6_gain_X5_hasWord : GoodIn wsX6_gain wsX5_hasWord := goodIn_r _ [6, 7, 42, 43, 44, 45, 46, 47, 48, 49] (by decide +kernel) (by decide +kernel)
set_option maxRecDepth 20000 in
theorem gX6_gain_X5_hasWord : GoodIn wsX6_gain (wsV RX6 87 RX5 yX5_hasWord wsX5_hasWord) := goodIn_app (goodIn_of _ (by decide +kernel)) ggX6_gain_X5_hasWord
set_option maxRecDepth 20000 in
theorem ggX6_gain_X6_fail : GoodIn wsX6_gain wsX6_fail := goodIn_r _ [12, 13, 34, 35, 36, 37, 38, 39, 40, 41] (by decide +kernel) (by decide +kernel)
set_option maxRecDepth 20000 in
theorem gX6_gain_X6_fail : GoodIn wsX6_gain (wsV RX6 59 RX6 yX6_fail wsX6_fail) := goodIn_app (goodIn_of _ (by decide +kernel)) ggX6_gain_X6_fail
set_option maxRecDepth 20000 in
theorem ggX6_gain_X5_gainOf : GoodIn wsX6_gain wsX5_gainOf := goodIn_r _ [17, 18, 19, 20, 21, 5, 22, 23, 24, 25, 26, 27, 28, 29, 30, 31, 32, 33, 42, 43, 44, 45, 46, 47, 48, 49] (by decide +kernel) (by decide +kernel)
set_option maxRecDepth 20000 in
theorem gX6_gain_X5_gainOf : GoodIn wsX6_gain (wsV RX6 128 RX5 yX5_gainOf wsX5_gainOf) := goodIn_app (goodIn_of _ (by decide +kernel)) ggX6_gain_X5_gainOf
theorem dX6_gain_0 : decode cX6_gain 0 = .ok (.aload_n 0, 1) := by decide +kernel
theorem dX6_gain_1 : decode cX6_gain 1 = .ok (.getfield 12, 3) := by decide +kernel
theorem dX6_gain_4 : decode cX6_gain 4 = .ok (.iload_n 1, 1) := by decide +kernel
theorem dX6_gain_5 : decode cX6_gain 5 = .ok (.invokevirtual 87, 3) := by decide +kernel
theorem dX6_gain_8 : decode cX6_gain 8 = .ok (.ifCond .ne 10, 3) := by decide +kernel
theorem dX6_gain_11 : decode cX6_gain 11 = .ok (.aload_n 0, 1) := by decide +kernel
theorem dX6_gain_12 : decode cX6_gain 12 = .ok (.bipush (-2), 2) := by decide +kernel
theorem dX6_gain_14 : decode cX6_gain 14 = .ok (.invokevirtual 59, 3) := by decide +kernel
theorem dX6_gain_17 : decode cX6_gain 17 = .ok (.ireturn, 1) := by decide +kernel
theorem dX6_gain_18 : decode cX6_gain 18 = .ok (.aload_n 0, 1) := by decide +kernel
theorem dX6_gain_19 : decode cX6_gain 19 = .ok (.getfield 12, 3) := by decide +kernel
theorem dX6_gain_22 : decode cX6_gain 22 = .ok (.iload_n 1, 1) := by decide +kernel
theorem dX6_gain_23 : decode cX6_gain 23 = .ok (.invokevirtual 128, 3) := by decide +kernel
theorem dX6_gain_26 : decode cX6_gain 26 = .ok (.ireturn, 1) := by decide +kernel
set_option maxRecDepth 20000 in
theorem ggX6_proposedWord_X6_fail : GoodIn wsX6_proposedWord wsX6_fail := goodIn_r _ [8, 9, 78, 79, 80, 81, 82, 83, 84, 85] (by decide +kernel) (by decide +kernel)
set_option maxRecDepth 20000 in
theorem gX6_proposedWord_X6_fail : GoodIn wsX6_proposedWord (wsV RX6 59 RX6 yX6_fail wsX6_fail) := goodIn_app (goodIn_of _ (by decide +kernel)) ggX6_proposedWord_X6_fail
set_option maxRecDepth 20000 in
theorem ggX6_proposedWord_X3_make : GoodIn wsX6_proposedWord wsX3_make := goodIn_r _ [14, 15, 16, 17, 18, 19, 20, 21, 22, 13, 23, 24, 25, 26, 27, 28, 29, 30, 31, 32, 33, 34, 35, 36, 37, 38, 39, 40, 41, 42, 43, 44, 45, 46, 47, 48, 49, 50, 51, 52, 53, 54, 55, 56, 57, 58, 59, 60, 61, 62, 63, 64, 65, 66, 67, 68, 69, 70, 71, 72, 73, 86, 87, 88, 89, 90, 91, 92, 93, 94, 95, 96, 97, 98, 99, 100] (by decide +kernel) (by decide +kernel)
set_option maxRecDepth 20000 in
theorem gX6_proposedWord_X3_make : GoodIn wsX6_proposedWord (wsV RX6 131 RX3 yX3_make wsX3_make) := goodIn_app (goodIn_of _ (by decide +kernel)) ggX6_proposedWord_X3_make
set_option maxRecDepth 20000 in
theorem ggX6_proposedWord_X4_sizeOrWord : GoodIn wsX6_proposedWord wsX4_sizeOrWord := goodIn_r _ [77, 31, 58, 89, 90, 91, 92] (by decide +kernel) (by decide +kernel)
set_option maxRecDepth 20000 in
theorem gX6_proposedWord_X4_sizeOrWord : GoodIn wsX6_proposedWord (wsV RX6 138 RX4 yX4_sizeOrWord wsX4_sizeOrWord) := goodIn_app (goodIn_of _ (by decide +kernel)) ggX6_proposedWord_X4_sizeOrWord
theorem dX6_proposedWord_0 : decode cX6_proposedWord 0 = .ok (.iload_n 1, 1) := by decide +kernel
theorem dX6_proposedWord_1 : decode cX6_proposedWord 1 = .ok (.iconst (-1), 1) := by decide +kernel
theorem dX6_proposedWord_2 : decode cX6_proposedWord 2 = .ok (.if_icmp .ge 10, 3) := by decide +kernel
theorem dX6_proposedWord_5 : decode cX6_proposedWord 5 = .ok (.aload_n 0, 1) := by decide +kernel
theorem dX6_proposedWord_6 : decode cX6_proposedWord 6 = .ok (.bipush (-2), 2) := by decide +kernel
theorem dX6_proposedWord_8 : decode cX6_proposedWord 8 = .ok (.invokevirtual 59, 3) := by decide +kernel
theorem dX6_proposedWord_11 : decode cX6_proposedWord 11 = .ok (.ireturn, 1) := by decide +kernel
theorem dX6_proposedWord_12 : decode cX6_proposedWord 12 = .ok (.aload_n 0, 1) := by decide +kernel
theorem dX6_proposedWord_13 : decode cX6_proposedWord 13 = .ok (.getfield 33, 3) := by decide +kernel
theorem dX6_proposedWord_16 : decode cX6_proposedWord 16 = .ok (.aload_n 0, 1) := by decide +kernel
theorem dX6_proposedWord_17 : decode cX6_proposedWord 17 = .ok (.getfield 12, 3) := by decide +kernel
theorem dX6_proposedWord_20 : decode cX6_proposedWord 20 = .ok (.invokevirtual 131, 3) := by decide +kernel
theorem dX6_proposedWord_23 : decode cX6_proposedWord 23 = .ok (.aload_n 0, 1) := by decide +kernel
theorem dX6_proposedWord_24 : decode cX6_proposedWord 24 = .ok (.getfield 33, 3) := by decide +kernel
theorem dX6_proposedWord_27 : decode cX6_proposedWord 27 = .ok (.getfield 134, 3) := by decide +kernel
theorem dX6_proposedWord_30 : decode cX6_proposedWord 30 = .ok (.iload_n 1, 1) := by decide +kernel
theorem dX6_proposedWord_31 : decode cX6_proposedWord 31 = .ok (.invokevirtual 138, 3) := by decide +kernel
theorem dX6_proposedWord_34 : decode cX6_proposedWord 34 = .ok (.ireturn, 1) := by decide +kernel
set_option maxRecDepth 20000 in
theorem ggX6_proposedStroke_X6_fail : GoodIn wsX6_proposedStroke wsX6_fail := goodIn_r _ [8, 9, 78, 79, 80, 81, 82, 83, 84, 85] (by decide +kernel) (by decide +kernel)
set_option maxRecDepth 20000 in
theorem gX6_proposedStroke_X6_fail : GoodIn wsX6_proposedStroke (wsV RX6 59 RX6 yX6_fail wsX6_fail) := goodIn_app (goodIn_of _ (by decide +kernel)) ggX6_proposedStroke_X6_fail
set_option maxRecDepth 20000 in
theorem ggX6_proposedStroke_X3_make : GoodIn wsX6_proposedStroke wsX3_make := goodIn_r _ [14, 15, 16, 17, 18, 19, 20, 21, 22, 13, 23, 24, 25, 26, 27, 28, 29, 30, 31, 32, 33, 34, 35, 36, 37, 38, 39, 40, 41, 42, 43, 44, 45, 46, 47, 48, 49, 50, 51, 52, 53, 54, 55, 56, 57, 58, 59, 60, 61, 62, 63, 64, 65, 66, 67, 68, 69, 70, 71, 72, 73, 86, 87, 88, 89, 90, 91, 92, 93, 94, 95, 96, 97, 98, 99, 100] (by decide +kernel) (by decide +kernel)
set_option maxRecDepth 20000 in
theorem gX6_proposedStroke_X3_make : GoodIn wsX6_proposedStroke (wsV RX6 131 RX3 yX3_make wsX3_make) := goodIn_app (goodIn_of _ (by decide +kernel)) ggX6_proposedStroke_X3_make
set_option maxRecDepth 20000 in
theorem ggX6_proposedStroke_X4_valueAt : GoodIn wsX6_proposedStroke wsX4_valueAt := goodIn_r _ [77, 31, 59, 89, 90, 91, 92] (by decide +kernel) (by decide +kernel)
set_option maxRecDepth 20000 in
theorem gX6_proposedStroke_X4_valueAt : GoodIn wsX6_proposedStroke (wsV RX6 143 RX4 yX4_valueAt wsX4_valueAt) := goodIn_app (goodIn_of _ (by decide +kernel)) ggX6_proposedStroke_X4_valueAt
theorem dX6_proposedStroke_0 : decode cX6_proposedStroke 0 = .ok (.iload_n 1, 1) := by decide +kernel
theorem dX6_proposedStroke_1 : decode cX6_proposedStroke 1 = .ok (.ifCond .ge 10, 3) := by decide +kernel
theorem dX6_proposedStroke_4 : decode cX6_proposedStroke 4 = .ok (.aload_n 0, 1) := by decide +kernel
theorem dX6_proposedStroke_5 : decode cX6_proposedStroke 5 = .ok (.bipush (-2), 2) := by decide +kernel
theorem dX6_proposedStroke_7 : decode cX6_proposedStroke 7 = .ok (.invokevirtual 59, 3) := by decide +kernel
theorem dX6_proposedStroke_10 : decode cX6_proposedStroke 10 = .ok (.ireturn, 1) := by decide +kernel
theorem dX6_proposedStroke_11 : decode cX6_proposedStroke 11 = .ok (.aload_n 0, 1) := by decide +kernel
theorem dX6_proposedStroke_12 : decode cX6_proposedStroke 12 = .ok (.getfield 33, 3) := by decide +kernel
theorem dX6_proposedStroke_15 : decode cX6_proposedStroke 15 = .ok (.aload_n 0, 1) := by decide +kernel
theorem dX6_proposedStroke_16 : decode cX6_proposedStroke 16 = .ok (.getfield 12, 3) := by decide +kernel
theorem dX6_proposedStroke_19 : decode cX6_proposedStroke 19 = .ok (.invokevirtual 131, 3) := by decide +kernel
theorem dX6_proposedStroke_22 : decode cX6_proposedStroke 22 = .ok (.aload_n 0, 1) := by decide +kernel
theorem dX6_proposedStroke_23 : decode cX6_proposedStroke 23 = .ok (.getfield 33, 3) := by decide +kernel
theorem dX6_proposedStroke_26 : decode cX6_proposedStroke 26 = .ok (.getfield 134, 3) := by decide +kernel
theorem dX6_proposedStroke_29 : decode cX6_proposedStroke 29 = .ok (.iload_n 1, 1) := by decide +kernel
theorem dX6_proposedStroke_30 : decode cX6_proposedStroke 30 = .ok (.invokevirtual 143, 3) := by decide +kernel
theorem dX6_proposedStroke_33 : decode cX6_proposedStroke 33 = .ok (.ireturn, 1) := by decide +kernel
set_option maxRecDepth 20000 in
theorem ggX6_acceptProposal_X0_save : GoodIn wsX6_acceptProposal wsX0_save := goodIn_r _ [13, 14, 15, 16, 17, 18, 12, 19, 20, 21, 22, 23, 24, 25, 26, 27, 28, 29, 30, 31, 32, 33, 34, 35, 36, 117, 118, 109, 110, 111, 112, 113, 114, 115, 116] (by decide +kernel) (by decide +kernel)
set_option maxRecDepth 20000 in
theorem gX6_acceptProposal_X0_save : GoodIn wsX6_acceptProposal (wsV RX6 63 RX0 yX0_save wsX0_save) := goodIn_app (goodIn_of _ (by decide +kernel)) ggX6_acceptProposal_X0_save
set_option maxRecDepth 20000 in
theorem ggX6_acceptProposal_X3_make : GoodIn wsX6_acceptProposal wsX3_make := goodIn_r _ [41, 42, 43, 44, 45, 46, 47, 48, 49, 40, 50, 51, 52, 53, 54, 55, 56, 57, 58, 59, 60, 61, 23, 62, 35, 63, 64, 65, 66, 34, 67, 68, 69, 70, 31, 71, 72, 73, 74, 33, 75, 76, 77, 78, 79, 80, 81, 82, 83, 84, 85, 86, 87, 88, 89, 36, 25, 90, 91, 92, 93, 102, 103, 104, 105, 106, 107, 108, 109, 110, 111, 112, 113, 114, 115, 116] (by decide +kernel) (by decide +kernel)
set_option maxRecDepth 20000 in
theorem gX6_acceptProposal_X3_make : GoodIn wsX6_acceptProposal (wsV RX6 131 RX3 yX3_make wsX3_make) := goodIn_app (goodIn_of _ (by decide +kernel)) ggX6_acceptProposal_X3_make
theorem dX6_acceptProposal_0 : decode cX6_acceptProposal 0 = .ok (.aload_n 0, 1) := by decide +kernel
theorem dX6_acceptProposal_1 : decode cX6_acceptProposal 1 = .ok (.getfield 19, 3) := by decide +kernel
theorem dX6_acceptProposal_4 : decode cX6_acceptProposal 4 = .ok (.aload_n 0, 1) := by decide +kernel
theorem dX6_acceptProposal_5 : decode cX6_acceptProposal 5 = .ok (.getfield 12, 3) := by decide +kernel
theorem dX6_acceptProposal_8 : decode cX6_acceptProposal 8 = .ok (.invokevirtual 63, 3) := by decide +kernel
theorem dX6_acceptProposal_11 : decode cX6_acceptProposal 11 = .ok (.aload_n 0, 1) := by decide +kernel
theorem dX6_acceptProposal_12 : decode cX6_acceptProposal 12 = .ok (.getfield 33, 3) := by decide +kernel
theorem dX6_acceptProposal_15 : decode cX6_acceptProposal 15 = .ok (.aload_n 0, 1) := by decide +kernel
theorem dX6_acceptProposal_16 : decode cX6_acceptProposal 16 = .ok (.getfield 12, 3) := by decide +kernel
theorem dX6_acceptProposal_19 : decode cX6_acceptProposal 19 = .ok (.invokevirtual 131, 3) := by decide +kernel
theorem dX6_acceptProposal_22 : decode cX6_acceptProposal 22 = .ok (.aload_n 0, 1) := by decide +kernel
theorem dX6_acceptProposal_23 : decode cX6_acceptProposal 23 = .ok (.getfield 33, 3) := by decide +kernel
theorem dX6_acceptProposal_26 : decode cX6_acceptProposal 26 = .ok (.getfield 134, 3) := by decide +kernel
theorem dX6_acceptProposal_29 : decode cX6_acceptProposal 29 = .ok (.astore_n 1, 1) := by decide +kernel
theorem dX6_acceptProposal_30 : decode cX6_acceptProposal 30 = .ok (.iconst 0, 1) := by decide +kernel
theorem dX6_acceptProposal_31 : decode cX6_acceptProposal 31 = .ok (.istore_n 2, 1) := by decide +kernel
theorem dX6_acceptProposal_32 : decode cX6_acceptProposal 32 = .ok (.iload_n 2, 1) := by decide +kernel
theorem dX6_acceptProposal_33 : decode cX6_acceptProposal 33 = .ok (.aload_n 1, 1) := by decide +kernel
theorem dX6_acceptProposal_34 : decode cX6_acceptProposal 34 = .ok (.getfield 146, 3) := by decide +kernel
theorem dX6_acceptProposal_37 : decode cX6_acceptProposal 37 = .ok (.if_icmp .ge 29, 3) := by decide +kernel
theorem dX6_acceptProposal_40 : decode cX6_acceptProposal 40 = .ok (.aload_n 0, 1) := by decide +kernel
theorem dX6_acceptProposal_41 : decode cX6_acceptProposal 41 = .ok (.getfield 12, 3) := by decide +kernel
theorem dX6_acceptProposal_44 : decode cX6_acceptProposal 44 = .ok (.getfield 125, 3) := by decide +kernel
theorem dX6_acceptProposal_47 : decode cX6_acceptProposal 47 = .ok (.aload_n 1, 1) := by decide +kernel
theorem dX6_acceptProposal_48 : decode cX6_acceptProposal 48 = .ok (.getfield 149, 3) := by decide +kernel
theorem dX6_acceptProposal_51 : decode cX6_acceptProposal 51 = .ok (.iload_n 2, 1) := by decide +kernel
theorem dX6_acceptProposal_52 : decode cX6_acceptProposal 52 = .ok (.iaload, 1) := by decide +kernel
theorem dX6_acceptProposal_53 : decode cX6_acceptProposal 53 = .ok (.aload_n 1, 1) := by decide +kernel
theorem dX6_acceptProposal_54 : decode cX6_acceptProposal 54 = .ok (.getfield 152, 3) := by decide +kernel
theorem dX6_acceptProposal_57 : decode cX6_acceptProposal 57 = .ok (.iload_n 2, 1) := by decide +kernel
theorem dX6_acceptProposal_58 : decode cX6_acceptProposal 58 = .ok (.iaload, 1) := by decide +kernel
theorem dX6_acceptProposal_59 : decode cX6_acceptProposal 59 = .ok (.iastore, 1) := by decide +kernel
theorem dX6_acceptProposal_60 : decode cX6_acceptProposal 60 = .ok (.iinc 2 1, 3) := by decide +kernel
theorem dX6_acceptProposal_63 : decode cX6_acceptProposal 63 = .ok (.goto (-31), 3) := by decide +kernel
theorem dX6_acceptProposal_66 : decode cX6_acceptProposal 66 = .ok (.aload_n 1, 1) := by decide +kernel
theorem dX6_acceptProposal_67 : decode cX6_acceptProposal 67 = .ok (.getfield 146, 3) := by decide +kernel
theorem dX6_acceptProposal_70 : decode cX6_acceptProposal 70 = .ok (.ireturn, 1) := by decide +kernel
set_option maxRecDepth 20000 in
theorem ggX6_write_X6_isStroke : GoodIn wsX6_write wsX6_isStroke := goodIn_r _ [7] (by decide +kernel) (by decide +kernel)
set_option maxRecDepth 20000 in
theorem gX6_write_X6_isStroke : GoodIn wsX6_write (va_wsS RX6 55 yX6_isStroke wsX6_isStroke) := goodIn_app (goodIn_of _ (by decide +kernel)) ggX6_write_X6_isStroke
set_option maxRecDepth 20000 in
theorem ggX6_write_X6_fail : GoodIn wsX6_write wsX6_fail := goodIn_r _ [11, 12, 13, 14, 15, 16, 17, 18, 19, 20] (by decide +kernel) (by decide +kernel)
set_option maxRecDepth 20000 in
theorem gX6_write_X6_fail : GoodIn wsX6_write (wsV RX6 59 RX6 yX6_fail wsX6_fail) := goodIn_app (goodIn_of _ (by decide +kernel)) ggX6_write_X6_fail
theorem dX6_write_0 : decode cX6_write 0 = .ok (.iload_n 1, 1) := by decide +kernel
theorem dX6_write_1 : decode cX6_write 1 = .ok (.invokestatic 55, 3) := by decide +kernel
theorem dX6_write_4 : decode cX6_write 4 = .ok (.ifCond .ne 10, 3) := by decide +kernel
theorem dX6_write_7 : decode cX6_write 7 = .ok (.aload_n 0, 1) := by decide +kernel
theorem dX6_write_8 : decode cX6_write 8 = .ok (.bipush (-2), 2) := by decide +kernel
theorem dX6_write_10 : decode cX6_write 10 = .ok (.invokevirtual 59, 3) := by decide +kernel
theorem dX6_write_13 : decode cX6_write 13 = .ok (.ireturn, 1) := by decide +kernel
theorem dX6_write_14 : decode cX6_write 14 = .ok (.aload_n 0, 1) := by decide +kernel
theorem dX6_write_15 : decode cX6_write 15 = .ok (.getfield 40, 3) := by decide +kernel
theorem dX6_write_18 : decode cX6_write 18 = .ok (.getfield 155, 3) := by decide +kernel
theorem dX6_write_21 : decode cX6_write 21 = .ok (.bipush 8, 2) := by decide +kernel
theorem dX6_write_23 : decode cX6_write 23 = .ok (.if_icmp .lt 10, 3) := by decide +kernel
theorem dX6_write_26 : decode cX6_write 26 = .ok (.aload_n 0, 1) := by decide +kernel
theorem dX6_write_27 : decode cX6_write 27 = .ok (.bipush (-4), 2) := by decide +kernel
theorem dX6_write_29 : decode cX6_write 29 = .ok (.invokevirtual 59, 3) := by decide +kernel
theorem dX6_write_32 : decode cX6_write 32 = .ok (.ireturn, 1) := by decide +kernel
theorem dX6_write_33 : decode cX6_write 33 = .ok (.aload_n 0, 1) := by decide +kernel
theorem dX6_write_34 : decode cX6_write 34 = .ok (.getfield 40, 3) := by decide +kernel
theorem dX6_write_37 : decode cX6_write 37 = .ok (.getfield 158, 3) := by decide +kernel
theorem dX6_write_40 : decode cX6_write 40 = .ok (.aload_n 0, 1) := by decide +kernel
theorem dX6_write_41 : decode cX6_write 41 = .ok (.getfield 40, 3) := by decide +kernel
theorem dX6_write_44 : decode cX6_write 44 = .ok (.getfield 155, 3) := by decide +kernel
theorem dX6_write_47 : decode cX6_write 47 = .ok (.iload_n 1, 1) := by decide +kernel
theorem dX6_write_48 : decode cX6_write 48 = .ok (.iastore, 1) := by decide +kernel
theorem dX6_write_49 : decode cX6_write 49 = .ok (.aload_n 0, 1) := by decide +kernel
theorem dX6_write_50 : decode cX6_write 50 = .ok (.getfield 40, 3) := by decide +kernel
theorem dX6_write_53 : decode cX6_write 53 = .ok (.dup, 1) := by decide +kernel
theorem dX6_write_54 : decode cX6_write 54 = .ok (.getfield 155, 3) := by decide +kernel
theorem dX6_write_57 : decode cX6_write 57 = .ok (.iconst 1, 1) := by decide +kernel
theorem dX6_write_58 : decode cX6_write 58 = .ok (.iadd, 1) := by decide +kernel
theorem dX6_write_59 : decode cX6_write 59 = .ok (.putfield 155, 3) := by decide +kernel
theorem dX6_write_62 : decode cX6_write 62 = .ok (.aload_n 0, 1) := by decide +kernel
theorem dX6_write_63 : decode cX6_write 63 = .ok (.getfield 40, 3) := by decide +kernel
theorem dX6_write_66 : decode cX6_write 66 = .ok (.getfield 155, 3) := by decide +kernel
theorem dX6_write_69 : decode cX6_write 69 = .ok (.ireturn, 1) := by decide +kernel
theorem dX6_clearPad_0 : decode cX6_clearPad 0 = .ok (.aload_n 0, 1) := by decide +kernel
theorem dX6_clearPad_1 : decode cX6_clearPad 1 = .ok (.getfield 40, 3) := by decide +kernel
theorem dX6_clearPad_4 : decode cX6_clearPad 4 = .ok (.getfield 155, 3) := by decide +kernel
theorem dX6_clearPad_7 : decode cX6_clearPad 7 = .ok (.istore_n 1, 1) := by decide +kernel
theorem dX6_clearPad_8 : decode cX6_clearPad 8 = .ok (.aload_n 0, 1) := by decide +kernel
theorem dX6_clearPad_9 : decode cX6_clearPad 9 = .ok (.getfield 40, 3) := by decide +kernel
theorem dX6_clearPad_12 : decode cX6_clearPad 12 = .ok (.iconst 0, 1) := by decide +kernel
theorem dX6_clearPad_13 : decode cX6_clearPad 13 = .ok (.putfield 155, 3) := by decide +kernel
theorem dX6_clearPad_16 : decode cX6_clearPad 16 = .ok (.iload_n 1, 1) := by decide +kernel
theorem dX6_clearPad_17 : decode cX6_clearPad 17 = .ok (.ireturn, 1) := by decide +kernel
set_option maxRecDepth 20000 in
theorem ggX6_reading_X6_fail : GoodIn wsX6_reading wsX6_fail := goodIn_r _ [8, 9, 87, 88, 89, 90, 91, 92, 93, 94] (by decide +kernel) (by decide +kernel)
set_option maxRecDepth 20000 in
theorem gX6_reading_X6_fail : GoodIn wsX6_reading (wsV RX6 59 RX6 yX6_fail wsX6_fail) := goodIn_app (goodIn_of _ (by decide +kernel)) ggX6_reading_X6_fail
set_option maxRecDepth 20000 in
theorem ggX6_reading_X2_read : GoodIn wsX6_reading wsX2_read := goodIn_r _ [14, 15, 16, 17, 18, 19, 20, 21, 22, 23, 24, 25, 26, 13, 27, 28, 29, 30, 31, 7, 32, 33, 34, 35, 36, 37, 38, 39, 40, 41, 42, 43, 44, 45, 46, 47, 48, 49, 50, 51, 52, 53, 54, 55, 56, 57, 58, 59, 60, 61, 62, 63, 64, 65, 66, 67, 68, 69, 70, 71, 72, 73, 74, 75, 76, 77, 78, 79, 80, 81, 82, 95, 96, 97, 98, 99, 100, 101, 102, 103, 104, 105, 106, 107, 108, 109] (by decide +kernel) (by decide +kernel)
set_option maxRecDepth 20000 in
theorem gX6_reading_X2_read : GoodIn wsX6_reading (wsV RX6 159 RX2 yX2_read wsX2_read) := goodIn_app (goodIn_of _ (by decide +kernel)) ggX6_reading_X2_read
set_option maxRecDepth 20000 in
theorem ggX6_reading_X4_sizeOrWord : GoodIn wsX6_reading wsX4_sizeOrWord := goodIn_r _ [86, 23, 81, 106, 107, 108, 109] (by decide +kernel) (by decide +kernel)
set_option maxRecDepth 20000 in
theorem gX6_reading_X4_sizeOrWord : GoodIn wsX6_reading (wsV RX6 138 RX4 yX4_sizeOrWord wsX4_sizeOrWord) := goodIn_app (goodIn_of _ (by decide +kernel)) ggX6_reading_X4_sizeOrWord
theorem dX6_reading_0 : decode cX6_reading 0 = .ok (.iload_n 1, 1) := by decide +kernel
theorem dX6_reading_1 : decode cX6_reading 1 = .ok (.iconst (-1), 1) := by decide +kernel
theorem dX6_reading_2 : decode cX6_reading 2 = .ok (.if_icmp .ge 10, 3) := by decide +kernel
theorem dX6_reading_5 : decode cX6_reading 5 = .ok (.aload_n 0, 1) := by decide +kernel
theorem dX6_reading_6 : decode cX6_reading 6 = .ok (.bipush (-2), 2) := by decide +kernel
theorem dX6_reading_8 : decode cX6_reading 8 = .ok (.invokevirtual 59, 3) := by decide +kernel
theorem dX6_reading_11 : decode cX6_reading 11 = .ok (.ireturn, 1) := by decide +kernel
theorem dX6_reading_12 : decode cX6_reading 12 = .ok (.aload_n 0, 1) := by decide +kernel
theorem dX6_reading_13 : decode cX6_reading 13 = .ok (.getfield 40, 3) := by decide +kernel
theorem dX6_reading_16 : decode cX6_reading 16 = .ok (.aload_n 0, 1) := by decide +kernel
theorem dX6_reading_17 : decode cX6_reading 17 = .ok (.getfield 12, 3) := by decide +kernel
theorem dX6_reading_20 : decode cX6_reading 20 = .ok (.invokevirtual 159, 3) := by decide +kernel
theorem dX6_reading_23 : decode cX6_reading 23 = .ok (.aload_n 0, 1) := by decide +kernel
theorem dX6_reading_24 : decode cX6_reading 24 = .ok (.getfield 40, 3) := by decide +kernel
theorem dX6_reading_27 : decode cX6_reading 27 = .ok (.getfield 162, 3) := by decide +kernel
theorem dX6_reading_30 : decode cX6_reading 30 = .ok (.iload_n 1, 1) := by decide +kernel
theorem dX6_reading_31 : decode cX6_reading 31 = .ok (.invokevirtual 138, 3) := by decide +kernel
theorem dX6_reading_34 : decode cX6_reading 34 = .ok (.ireturn, 1) := by decide +kernel
set_option maxRecDepth 20000 in
theorem ggX6_doubt_X6_fail : GoodIn wsX6_doubt wsX6_fail := goodIn_r _ [8, 9, 87, 88, 89, 90, 91, 92, 93, 94] (by decide +kernel) (by decide +kernel)
set_option maxRecDepth 20000 in
theorem gX6_doubt_X6_fail : GoodIn wsX6_doubt (wsV RX6 59 RX6 yX6_fail wsX6_fail) := goodIn_app (goodIn_of _ (by decide +kernel)) ggX6_doubt_X6_fail
set_option maxRecDepth 20000 in
theorem ggX6_doubt_X2_read : GoodIn wsX6_doubt wsX2_read := goodIn_r _ [14, 15, 16, 17, 18, 19, 20, 21, 22, 23, 24, 25, 26, 13, 27, 28, 29, 30, 31, 7, 32, 33, 34, 35, 36, 37, 38, 39, 40, 41, 42, 43, 44, 45, 46, 47, 48, 49, 50, 51, 52, 53, 54, 55, 56, 57, 58, 59, 60, 61, 62, 63, 64, 65, 66, 67, 68, 69, 70, 71, 72, 73, 74, 75, 76, 77, 78, 79, 80, 81, 82, 95, 96, 97, 98, 99, 100, 101, 102, 103, 104, 105, 106, 107, 108, 109] (by decide +kernel) (by decide +kernel)
set_option maxRecDepth 20000 in
theorem gX6_doubt_X2_read : GoodIn wsX6_doubt (wsV RX6 159 RX2 yX2_read wsX2_read) := goodIn_app (goodIn_of _ (by decide +kernel)) ggX6_doubt_X2_read
set_option maxRecDepth 20000 in
theorem ggX6_doubt_X4_valueAt : GoodIn wsX6_doubt wsX4_valueAt := goodIn_r _ [86, 23, 82, 106, 107, 108, 109] (by decide +kernel) (by decide +kernel)
set_option maxRecDepth 20000 in
theorem gX6_doubt_X4_valueAt : GoodIn wsX6_doubt (wsV RX6 143 RX4 yX4_valueAt wsX4_valueAt) := goodIn_app (goodIn_of _ (by decide +kernel)) ggX6_doubt_X4_valueAt
theorem dX6_doubt_0 : decode cX6_doubt 0 = .ok (.iload_n 1, 1) := by decide +kernel
theorem dX6_doubt_1 : decode cX6_doubt 1 = .ok (.ifCond .ge 10, 3) := by decide +kernel
theorem dX6_doubt_4 : decode cX6_doubt 4 = .ok (.aload_n 0, 1) := by decide +kernel
theorem dX6_doubt_5 : decode cX6_doubt 5 = .ok (.bipush (-2), 2) := by decide +kernel
theorem dX6_doubt_7 : decode cX6_doubt 7 = .ok (.invokevirtual 59, 3) := by decide +kernel
theorem dX6_doubt_10 : decode cX6_doubt 10 = .ok (.ireturn, 1) := by decide +kernel
theorem dX6_doubt_11 : decode cX6_doubt 11 = .ok (.aload_n 0, 1) := by decide +kernel
theorem dX6_doubt_12 : decode cX6_doubt 12 = .ok (.getfield 40, 3) := by decide +kernel
theorem dX6_doubt_15 : decode cX6_doubt 15 = .ok (.aload_n 0, 1) := by decide +kernel
theorem dX6_doubt_16 : decode cX6_doubt 16 = .ok (.getfield 12, 3) := by decide +kernel
theorem dX6_doubt_19 : decode cX6_doubt 19 = .ok (.invokevirtual 159, 3) := by decide +kernel
theorem dX6_doubt_22 : decode cX6_doubt 22 = .ok (.aload_n 0, 1) := by decide +kernel
theorem dX6_doubt_23 : decode cX6_doubt 23 = .ok (.getfield 40, 3) := by decide +kernel
theorem dX6_doubt_26 : decode cX6_doubt 26 = .ok (.getfield 162, 3) := by decide +kernel
theorem dX6_doubt_29 : decode cX6_doubt 29 = .ok (.iload_n 1, 1) := by decide +kernel
theorem dX6_doubt_30 : decode cX6_doubt 30 = .ok (.invokevirtual 143, 3) := by decide +kernel
theorem dX6_doubt_33 : decode cX6_doubt 33 = .ok (.ireturn, 1) := by decide +kernel
set_option maxRecDepth 20000 in
theorem ggX6_undo_X6_fail : GoodIn wsX6_undo wsX6_fail := goodIn_r _ [8, 9, 34, 35, 36, 37, 38, 39, 40, 41] (by decide +kernel) (by decide +kernel)
set_option maxRecDepth 20000 in
theorem gX6_undo_X6_fail : GoodIn wsX6_undo (wsV RX6 59 RX6 yX6_fail wsX6_fail) := goodIn_app (goodIn_of _ (by decide +kernel)) ggX6_undo_X6_fail
set_option maxRecDepth 20000 in
theorem ggX6_undo_X0_restore : GoodIn wsX6_undo wsX0_restore := goodIn_r _ [14, 15, 16, 17, 18, 19, 20, 21, 22, 23, 24, 25, 26, 27, 28, 29, 30, 31, 32, 33, 42, 43, 44, 45, 46, 47, 48, 49, 50, 51] (by decide +kernel) (by decide +kernel)
set_option maxRecDepth 20000 in
theorem gX6_undo_X0_restore : GoodIn wsX6_undo (wsV RX6 168 RX0 yX0_restore wsX0_restore) := goodIn_app (goodIn_of _ (by decide +kernel)) ggX6_undo_X0_restore
theorem dX6_undo_0 : decode cX6_undo 0 = .ok (.aload_n 0, 1) := by decide +kernel
theorem dX6_undo_1 : decode cX6_undo 1 = .ok (.getfield 19, 3) := by decide +kernel
theorem dX6_undo_4 : decode cX6_undo 4 = .ok (.getfield 165, 3) := by decide +kernel
theorem dX6_undo_7 : decode cX6_undo 7 = .ok (.ifCond .ne 10, 3) := by decide +kernel
theorem dX6_undo_10 : decode cX6_undo 10 = .ok (.aload_n 0, 1) := by decide +kernel
theorem dX6_undo_11 : decode cX6_undo 11 = .ok (.bipush (-5), 2) := by decide +kernel
theorem dX6_undo_13 : decode cX6_undo 13 = .ok (.invokevirtual 59, 3) := by decide +kernel
theorem dX6_undo_16 : decode cX6_undo 16 = .ok (.ireturn, 1) := by decide +kernel
theorem dX6_undo_17 : decode cX6_undo 17 = .ok (.aload_n 0, 1) := by decide +kernel
theorem dX6_undo_18 : decode cX6_undo 18 = .ok (.getfield 19, 3) := by decide +kernel
theorem dX6_undo_21 : decode cX6_undo 21 = .ok (.aload_n 0, 1) := by decide +kernel
theorem dX6_undo_22 : decode cX6_undo 22 = .ok (.getfield 12, 3) := by decide +kernel
theorem dX6_undo_25 : decode cX6_undo 25 = .ok (.invokevirtual 168, 3) := by decide +kernel
theorem dX6_undo_28 : decode cX6_undo 28 = .ok (.aload_n 0, 1) := by decide +kernel
theorem dX6_undo_29 : decode cX6_undo 29 = .ok (.getfield 19, 3) := by decide +kernel
theorem dX6_undo_32 : decode cX6_undo 32 = .ok (.getfield 165, 3) := by decide +kernel
theorem dX6_undo_35 : decode cX6_undo 35 = .ok (.ireturn, 1) := by decide +kernel
set_option maxRecDepth 20000 in
theorem ggX6_errorCount_X6_fail : GoodIn wsX6_errorCount wsX6_fail := goodIn_r _ [6, 1, 7, 8, 9, 10, 11, 12, 13, 14] (by decide +kernel) (by decide +kernel)
set_option maxRecDepth 20000 in
theorem gX6_errorCount_X6_fail : GoodIn wsX6_errorCount (wsV RX6 59 RX6 yX6_fail wsX6_fail) := goodIn_app (goodIn_of _ (by decide +kernel)) ggX6_errorCount_X6_fail
theorem dX6_errorCount_0 : decode cX6_errorCount 0 = .ok (.iload_n 1, 1) := by decide +kernel
theorem dX6_errorCount_1 : decode cX6_errorCount 1 = .ok (.bipush (-2), 2) := by decide +kernel
theorem dX6_errorCount_3 : decode cX6_errorCount 3 = .ok (.if_icmp .gt 9, 3) := by decide +kernel
theorem dX6_errorCount_6 : decode cX6_errorCount 6 = .ok (.iload_n 1, 1) := by decide +kernel
theorem dX6_errorCount_7 : decode cX6_errorCount 7 = .ok (.bipush (-5), 2) := by decide +kernel
theorem dX6_errorCount_9 : decode cX6_errorCount 9 = .ok (.if_icmp .ge 10, 3) := by decide +kernel
theorem dX6_errorCount_12 : decode cX6_errorCount 12 = .ok (.aload_n 0, 1) := by decide +kernel
theorem dX6_errorCount_13 : decode cX6_errorCount 13 = .ok (.bipush (-2), 2) := by decide +kernel
theorem dX6_errorCount_15 : decode cX6_errorCount 15 = .ok (.invokevirtual 59, 3) := by decide +kernel
theorem dX6_errorCount_18 : decode cX6_errorCount 18 = .ok (.ireturn, 1) := by decide +kernel
theorem dX6_errorCount_19 : decode cX6_errorCount 19 = .ok (.aload_n 0, 1) := by decide +kernel
theorem dX6_errorCount_20 : decode cX6_errorCount 20 = .ok (.getfield 52, 3) := by decide +kernel
theorem dX6_errorCount_23 : decode cX6_errorCount 23 = .ok (.bipush (-2), 2) := by decide +kernel
theorem dX6_errorCount_25 : decode cX6_errorCount 25 = .ok (.iload_n 1, 1) := by decide +kernel
theorem dX6_errorCount_26 : decode cX6_errorCount 26 = .ok (.isub, 1) := by decide +kernel
theorem dX6_errorCount_27 : decode cX6_errorCount 27 = .ok (.iaload, 1) := by decide +kernel
theorem dX6_errorCount_28 : decode cX6_errorCount 28 = .ok (.ireturn, 1) := by decide +kernel
set_option maxRecDepth 20000 in
theorem ggX6_digest_X3_make : GoodIn wsX6_digest wsX3_make := goodIn_r _ [17, 18, 19, 20, 21, 22, 23, 24, 25, 16, 26, 27, 28, 29, 30, 31, 32, 33, 34, 35, 36, 37, 38, 39, 40, 41, 42, 43, 44, 45, 46, 47, 48, 49, 50, 51, 52, 53, 54, 55, 56, 57, 58, 59, 60, 61, 62, 63, 64, 65, 66, 67, 68, 69, 70, 71, 72, 73, 74, 75, 76, 203, 204, 205, 211, 212, 213, 214, 215, 216, 217, 218, 219, 220, 221, 222] (by decide +kernel) (by decide +kernel)
set_option maxRecDepth 20000 in
theorem gX6_digest_X3_make : GoodIn wsX6_digest (wsV RX6 131 RX3 yX3_make wsX3_make) := goodIn_app (goodIn_of _ (by decide +kernel)) ggX6_digest_X3_make
set_option maxRecDepth 20000 in
theorem ggX6_digest_X2_read : GoodIn wsX6_digest wsX2_read := goodIn_r _ [81, 82, 83, 84, 85, 30, 31, 32, 33, 34, 86, 87, 88, 80, 89, 90, 91, 92, 93, 94, 95, 96, 97, 98, 99, 100, 101, 102, 103, 104, 105, 106, 42, 43, 38, 44, 45, 46, 47, 48, 49, 50, 51, 52, 53, 54, 55, 107, 108, 109, 110, 111, 112, 113, 114, 115, 116, 117, 72, 118, 119, 120, 121, 122, 123, 57, 58, 59, 60, 61, 62, 206, 207, 208, 215, 216, 217, 218, 219, 220, 221, 222, 211, 212, 213, 214] (by decide +kernel) (by decide +kernel)
set_option maxRecDepth 20000 in
theorem gX6_digest_X2_read : GoodIn wsX6_digest (wsV RX6 159 RX2 yX2_read wsX2_read) := goodIn_app (goodIn_of _ (by decide +kernel)) ggX6_digest_X2_read
set_option maxRecDepth 20000 in
theorem ggX6_digest_X6_mixAll : GoodIn wsX6_digest wsX6_mixAll := goodIn_r _ [126, 127, 128, 94, 129, 130] (by decide +kernel) (by decide +kernel)
set_option maxRecDepth 20000 in
theorem gX6_digest_X6_mixAll : GoodIn wsX6_digest (va_wsS RX6 173 yX6_mixAll wsX6_mixAll) := goodIn_app (goodIn_of _ (by decide +kernel)) ggX6_digest_X6_mixAll
set_option maxRecDepth 20000 in
theorem ggX6_digest_X6_mixSounds : GoodIn wsX6_digest wsX6_mixSounds := goodIn_r _ [134, 2, 135, 136, 137, 127, 128, 94, 129, 130, 195, 196, 197, 198, 199, 200, 201, 202, 215, 216, 217, 218, 219, 220, 221, 222] (by decide +kernel) (by decide +kernel)
set_option maxRecDepth 20000 in
theorem gX6_digest_X6_mixSounds : GoodIn wsX6_digest (wsV RX6 177 RX6 yX6_mixSounds wsX6_mixSounds) := goodIn_app (goodIn_of _ (by decide +kernel)) ggX6_digest_X6_mixSounds
set_option maxRecDepth 20000 in
theorem ggX6_digest_X6_mixWords : GoodIn wsX6_digest wsX6_mixWords := goodIn_r _ [141, 2, 142, 143, 144, 145, 146, 147, 148, 127, 128, 94, 129, 130, 149, 150, 151, 152, 153, 154, 155, 156, 157, 158, 159, 160, 161, 162, 163, 164, 165, 166, 47, 48, 38, 49, 50, 51, 52, 53, 54, 55, 167, 168, 169, 170, 171, 172, 104, 98, 105, 173, 174, 175, 176, 177, 178, 100, 101, 102, 96, 97, 99, 103, 179, 180, 181, 182, 183, 184, 185, 186, 187, 188, 124, 125, 126, 195, 196, 197, 198, 199, 200, 201, 202, 215, 216, 217, 218, 219, 220, 221, 222, 223, 224, 225, 226, 227, 228, 229] (by decide +kernel) (by decide +kernel)
set_option maxRecDepth 20000 in
theorem gX6_digest_X6_mixWords : GoodIn wsX6_digest (wsV RX6 181 RX6 yX6_mixWords wsX6_mixWords) := goodIn_app (goodIn_of _ (by decide +kernel)) ggX6_digest_X6_mixWords
set_option maxRecDepth 20000 in
theorem ggX6_digest_X6_mixRanking : GoodIn wsX6_digest wsX6_mixRanking := goodIn_r _ [191, 192, 193, 194, 127, 128, 94, 129, 130, 211, 212, 213, 214] (by decide +kernel) (by decide +kernel)
set_option maxRecDepth 20000 in
theorem gX6_digest_X6_mixRanking : GoodIn wsX6_digest (va_wsS RX6 184 yX6_mixRanking wsX6_mixRanking) := goodIn_app (goodIn_of _ (by decide +kernel)) ggX6_digest_X6_mixRanking
set_option maxRecDepth 20000 in
theorem ggX6_digest_X6_mix : GoodIn wsX6_digest wsX6_mix := goodIn_r _ [129, 130] (by decide +kernel) (by decide +kernel)
set_option maxRecDepth 20000 in
theorem gX6_digest_X6_mix : GoodIn wsX6_digest (va_wsS RX6 188 yX6_mix wsX6_mix) := goodIn_app (goodIn_of _ (by decide +kernel)) ggX6_digest_X6_mix
theorem dX6_digest_0 : decode cX6_digest 0 = .ok (.aload_n 0, 1) := by decide +kernel
theorem dX6_digest_1 : decode cX6_digest 1 = .ok (.getfield 33, 3) := by decide +kernel
theorem dX6_digest_4 : decode cX6_digest 4 = .ok (.aload_n 0, 1) := by decide +kernel
theorem dX6_digest_5 : decode cX6_digest 5 = .ok (.getfield 12, 3) := by decide +kernel
theorem dX6_digest_8 : decode cX6_digest 8 = .ok (.invokevirtual 131, 3) := by decide +kernel
theorem dX6_digest_11 : decode cX6_digest 11 = .ok (.aload_n 0, 1) := by decide +kernel
theorem dX6_digest_12 : decode cX6_digest 12 = .ok (.getfield 40, 3) := by decide +kernel
theorem dX6_digest_15 : decode cX6_digest 15 = .ok (.aload_n 0, 1) := by decide +kernel
theorem dX6_digest_16 : decode cX6_digest 16 = .ok (.getfield 12, 3) := by decide +kernel
theorem dX6_digest_19 : decode cX6_digest 19 = .ok (.invokevirtual 159, 3) := by decide +kernel
theorem dX6_digest_22 : decode cX6_digest 22 = .ok (.ldc2_w 171, 3) := by decide +kernel
theorem dX6_digest_25 : decode cX6_digest 25 = .ok (.aload_n 0, 1) := by decide +kernel
theorem dX6_digest_26 : decode cX6_digest 26 = .ok (.getfield 52, 3) := by decide +kernel
theorem dX6_digest_29 : decode cX6_digest 29 = .ok (.iconst 4, 1) := by decide +kernel
theorem dX6_digest_30 : decode cX6_digest 30 = .ok (.invokestatic 173, 3) := by decide +kernel
theorem dX6_digest_33 : decode cX6_digest 33 = .ok (.lstore_n 1, 1) := by decide +kernel
theorem dX6_digest_34 : decode cX6_digest 34 = .ok (.aload_n 0, 1) := by decide +kernel
theorem dX6_digest_35 : decode cX6_digest 35 = .ok (.lload_n 1, 1) := by decide +kernel
theorem dX6_digest_36 : decode cX6_digest 36 = .ok (.invokevirtual 177, 3) := by decide +kernel
theorem dX6_digest_39 : decode cX6_digest 39 = .ok (.lstore_n 1, 1) := by decide +kernel
theorem dX6_digest_40 : decode cX6_digest 40 = .ok (.aload_n 0, 1) := by decide +kernel
theorem dX6_digest_41 : decode cX6_digest 41 = .ok (.lload_n 1, 1) := by decide +kernel
theorem dX6_digest_42 : decode cX6_digest 42 = .ok (.invokevirtual 181, 3) := by decide +kernel
theorem dX6_digest_45 : decode cX6_digest 45 = .ok (.lstore_n 1, 1) := by decide +kernel
theorem dX6_digest_46 : decode cX6_digest 46 = .ok (.lload_n 1, 1) := by decide +kernel
theorem dX6_digest_47 : decode cX6_digest 47 = .ok (.aload_n 0, 1) := by decide +kernel
theorem dX6_digest_48 : decode cX6_digest 48 = .ok (.getfield 33, 3) := by decide +kernel
theorem dX6_digest_51 : decode cX6_digest 51 = .ok (.getfield 134, 3) := by decide +kernel
theorem dX6_digest_54 : decode cX6_digest 54 = .ok (.invokestatic 184, 3) := by decide +kernel
theorem dX6_digest_57 : decode cX6_digest 57 = .ok (.lstore_n 1, 1) := by decide +kernel
theorem dX6_digest_58 : decode cX6_digest 58 = .ok (.lload_n 1, 1) := by decide +kernel
theorem dX6_digest_59 : decode cX6_digest 59 = .ok (.aload_n 0, 1) := by decide +kernel
theorem dX6_digest_60 : decode cX6_digest 60 = .ok (.getfield 40, 3) := by decide +kernel
theorem dX6_digest_63 : decode cX6_digest 63 = .ok (.getfield 155, 3) := by decide +kernel
theorem dX6_digest_66 : decode cX6_digest 66 = .ok (.invokestatic 188, 3) := by decide +kernel
theorem dX6_digest_69 : decode cX6_digest 69 = .ok (.aload_n 0, 1) := by decide +kernel
theorem dX6_digest_70 : decode cX6_digest 70 = .ok (.getfield 40, 3) := by decide +kernel
theorem dX6_digest_73 : decode cX6_digest 73 = .ok (.getfield 158, 3) := by decide +kernel
theorem dX6_digest_76 : decode cX6_digest 76 = .ok (.aload_n 0, 1) := by decide +kernel
theorem dX6_digest_77 : decode cX6_digest 77 = .ok (.getfield 40, 3) := by decide +kernel
theorem dX6_digest_80 : decode cX6_digest 80 = .ok (.getfield 155, 3) := by decide +kernel
theorem dX6_digest_83 : decode cX6_digest 83 = .ok (.invokestatic 173, 3) := by decide +kernel
theorem dX6_digest_86 : decode cX6_digest 86 = .ok (.lstore_n 1, 1) := by decide +kernel
theorem dX6_digest_87 : decode cX6_digest 87 = .ok (.lload_n 1, 1) := by decide +kernel
theorem dX6_digest_88 : decode cX6_digest 88 = .ok (.aload_n 0, 1) := by decide +kernel
theorem dX6_digest_89 : decode cX6_digest 89 = .ok (.getfield 40, 3) := by decide +kernel
theorem dX6_digest_92 : decode cX6_digest 92 = .ok (.getfield 162, 3) := by decide +kernel
