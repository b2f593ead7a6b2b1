theorem dX7_written_45 : decode cX7_written 45 = .ok (.istore_n 2, 1) := by decide +kernel
theorem dX7_written_46 : decode cX7_written 46 = .ok (.iinc 3 1, 3) := by decide +kernel
theorem dX7_written_49 : decode cX7_written 49 = .ok (.goto (-40), 3) := by decide +kernel
theorem dX7_written_52 : decode cX7_written 52 = .ok (.iload_n 2, 1) := by decide +kernel
theorem dX7_written_53 : decode cX7_written 53 = .ok (.ireturn, 1) := by decide +kernel
set_option maxRecDepth 20000 in
theorem ggX7_strokes_X7_isWord : GoodIn wsX7_strokes wsX7_isWord := goodIn_r _ [6, 7, 8, 9, 5, 10, 21, 22, 23, 24, 25, 26, 27, 28, 29, 30, 31, 32, 33, 34, 35, 36] (by decide +kernel) (by decide +kernel)
set_option maxRecDepth 20000 in
theorem gX7_strokes_X7_isWord : GoodIn wsX7_strokes (wsV RX7 63 RX7 yX7_isWord wsX7_isWord) := goodIn_app (goodIn_of _ (by decide +kernel)) ggX7_strokes_X7_isWord
set_option maxRecDepth 20000 in
theorem ggX7_strokes_X7_fails : GoodIn wsX7_strokes wsX7_fails := goodIn_r _ [14, 15, 21, 22, 23, 24, 25, 26, 27, 28, 29, 30, 31, 32, 33, 34, 35, 36] (by decide +kernel) (by decide +kernel)
set_option maxRecDepth 20000 in
theorem gX7_strokes_X7_fails : GoodIn wsX7_strokes (wsV RX7 45 RX7 yX7_fails wsX7_fails) := goodIn_app (goodIn_of _ (by decide +kernel)) ggX7_strokes_X7_fails
set_option maxRecDepth 20000 in
theorem ggX7_strokes_X7_laysSounds : GoodIn wsX7_strokes wsX7_laysSounds := goodIn_r _ [19, 1, 7, 20, 21, 22, 23, 24, 25, 26, 27, 28, 29, 30, 31, 32, 33, 34, 35, 36] (by decide +kernel) (by decide +kernel)
set_option maxRecDepth 20000 in
theorem gX7_strokes_X7_laysSounds : GoodIn wsX7_strokes (wsV RX7 79 RX7 yX7_laysSounds wsX7_laysSounds) := goodIn_app (goodIn_of _ (by decide +kernel)) ggX7_strokes_X7_laysSounds
theorem dX7_strokes_0 : decode cX7_strokes 0 = .ok (.aload_n 0, 1) := by decide +kernel
theorem dX7_strokes_1 : decode cX7_strokes 1 = .ok (.iload_n 1, 1) := by decide +kernel
theorem dX7_strokes_2 : decode cX7_strokes 2 = .ok (.invokevirtual 63, 3) := by decide +kernel
theorem dX7_strokes_5 : decode cX7_strokes 5 = .ok (.ifCond .ne 10, 3) := by decide +kernel
theorem dX7_strokes_8 : decode cX7_strokes 8 = .ok (.aload_n 0, 1) := by decide +kernel
theorem dX7_strokes_9 : decode cX7_strokes 9 = .ok (.bipush (-2), 2) := by decide +kernel
theorem dX7_strokes_11 : decode cX7_strokes 11 = .ok (.invokevirtual 45, 3) := by decide +kernel
theorem dX7_strokes_14 : decode cX7_strokes 14 = .ok (.ireturn, 1) := by decide +kernel
theorem dX7_strokes_15 : decode cX7_strokes 15 = .ok (.aload_n 0, 1) := by decide +kernel
theorem dX7_strokes_16 : decode cX7_strokes 16 = .ok (.iload_n 1, 1) := by decide +kernel
theorem dX7_strokes_17 : decode cX7_strokes 17 = .ok (.invokevirtual 79, 3) := by decide +kernel
theorem dX7_strokes_20 : decode cX7_strokes 20 = .ok (.aload_n 0, 1) := by decide +kernel
theorem dX7_strokes_21 : decode cX7_strokes 21 = .ok (.getfield 70, 3) := by decide +kernel
theorem dX7_strokes_24 : decode cX7_strokes 24 = .ok (.ireturn, 1) := by decide +kernel
set_option maxRecDepth 20000 in
theorem ggX7_stroke_X7_isWord : GoodIn wsX7_stroke wsX7_isWord := goodIn_r _ [6, 7, 8, 9, 5, 10, 43, 44, 45, 46, 47, 48, 49, 50, 51, 52, 53, 54, 55, 56, 57, 58] (by decide +kernel) (by decide +kernel)
set_option maxRecDepth 20000 in
theorem gX7_stroke_X7_isWord : GoodIn wsX7_stroke (wsV RX7 63 RX7 yX7_isWord wsX7_isWord) := goodIn_app (goodIn_of _ (by decide +kernel)) ggX7_stroke_X7_isWord
set_option maxRecDepth 20000 in
theorem ggX7_stroke_X7_fails : GoodIn wsX7_stroke wsX7_fails := goodIn_r _ [14, 15, 43, 44, 45, 46, 47, 48, 49, 50, 51, 52, 53, 54, 55, 56, 57, 58] (by decide +kernel) (by decide +kernel)
set_option maxRecDepth 20000 in
theorem gX7_stroke_X7_fails : GoodIn wsX7_stroke (wsV RX7 45 RX7 yX7_fails wsX7_fails) := goodIn_app (goodIn_of _ (by decide +kernel)) ggX7_stroke_X7_fails
set_option maxRecDepth 20000 in
theorem ggX7_stroke_X7_written : GoodIn wsX7_stroke wsX7_written := goodIn_r _ [19, 1, 20, 21, 22, 5, 23, 7, 24, 25, 26, 27, 28, 29, 30, 31, 32, 33, 34, 35, 36, 37, 38, 39, 40, 41, 42, 43, 44, 45, 46, 47, 48, 49, 50, 51, 52, 53, 54, 55, 56, 57, 58] (by decide +kernel) (by decide +kernel)
set_option maxRecDepth 20000 in
theorem gX7_stroke_X7_written : GoodIn wsX7_stroke (wsV RX7 89 RX7 yX7_written wsX7_written) := goodIn_app (goodIn_of _ (by decide +kernel)) ggX7_stroke_X7_written
set_option maxRecDepth 20000 in
theorem ggX7_stroke_X7_within : GoodIn wsX7_stroke wsX7_within := goodIn_r _ [10] (by decide +kernel) (by decide +kernel)
set_option maxRecDepth 20000 in
theorem gX7_stroke_X7_within : GoodIn wsX7_stroke (va_wsS RX7 37 yX7_within wsX7_within) := goodIn_app (goodIn_of _ (by decide +kernel)) ggX7_stroke_X7_within
set_option maxRecDepth 20000 in
theorem ggX7_stroke_X7_strokeOf : GoodIn wsX7_stroke wsX7_strokeOf := goodIn_r _ [32, 1, 7, 24, 43, 44, 45, 46, 47, 48, 49, 50, 51, 52, 53, 54, 55, 56, 57, 58] (by decide +kernel) (by decide +kernel)
set_option maxRecDepth 20000 in
theorem gX7_stroke_X7_strokeOf : GoodIn wsX7_stroke (wsV RX7 73 RX7 yX7_strokeOf wsX7_strokeOf) := goodIn_app (goodIn_of _ (by decide +kernel)) ggX7_stroke_X7_strokeOf
theorem dX7_stroke_0 : decode cX7_stroke 0 = .ok (.aload_n 0, 1) := by decide +kernel
theorem dX7_stroke_1 : decode cX7_stroke 1 = .ok (.iload_n 1, 1) := by decide +kernel
theorem dX7_stroke_2 : decode cX7_stroke 2 = .ok (.invokevirtual 63, 3) := by decide +kernel
theorem dX7_stroke_5 : decode cX7_stroke 5 = .ok (.ifCond .ne 10, 3) := by decide +kernel
theorem dX7_stroke_8 : decode cX7_stroke 8 = .ok (.aload_n 0, 1) := by decide +kernel
theorem dX7_stroke_9 : decode cX7_stroke 9 = .ok (.bipush (-2), 2) := by decide +kernel
theorem dX7_stroke_11 : decode cX7_stroke 11 = .ok (.invokevirtual 45, 3) := by decide +kernel
theorem dX7_stroke_14 : decode cX7_stroke 14 = .ok (.ireturn, 1) := by decide +kernel
theorem dX7_stroke_15 : decode cX7_stroke 15 = .ok (.aload_n 0, 1) := by decide +kernel
theorem dX7_stroke_16 : decode cX7_stroke 16 = .ok (.iload_n 1, 1) := by decide +kernel
theorem dX7_stroke_17 : decode cX7_stroke 17 = .ok (.invokevirtual 89, 3) := by decide +kernel
theorem dX7_stroke_20 : decode cX7_stroke 20 = .ok (.istore_n 3, 1) := by decide +kernel
theorem dX7_stroke_21 : decode cX7_stroke 21 = .ok (.iload_n 2, 1) := by decide +kernel
theorem dX7_stroke_22 : decode cX7_stroke 22 = .ok (.iconst 0, 1) := by decide +kernel
theorem dX7_stroke_23 : decode cX7_stroke 23 = .ok (.aload_n 0, 1) := by decide +kernel
theorem dX7_stroke_24 : decode cX7_stroke 24 = .ok (.getfield 70, 3) := by decide +kernel
theorem dX7_stroke_27 : decode cX7_stroke 27 = .ok (.iconst 1, 1) := by decide +kernel
theorem dX7_stroke_28 : decode cX7_stroke 28 = .ok (.isub, 1) := by decide +kernel
theorem dX7_stroke_29 : decode cX7_stroke 29 = .ok (.invokestatic 37, 3) := by decide +kernel
theorem dX7_stroke_32 : decode cX7_stroke 32 = .ok (.ifCond .eq 12, 3) := by decide +kernel
theorem dX7_stroke_35 : decode cX7_stroke 35 = .ok (.aload_n 0, 1) := by decide +kernel
theorem dX7_stroke_36 : decode cX7_stroke 36 = .ok (.iload_n 3, 1) := by decide +kernel
theorem dX7_stroke_37 : decode cX7_stroke 37 = .ok (.iload_n 2, 1) := by decide +kernel
theorem dX7_stroke_38 : decode cX7_stroke 38 = .ok (.invokevirtual 73, 3) := by decide +kernel
theorem dX7_stroke_41 : decode cX7_stroke 41 = .ok (.goto 9, 3) := by decide +kernel
theorem dX7_stroke_44 : decode cX7_stroke 44 = .ok (.aload_n 0, 1) := by decide +kernel
theorem dX7_stroke_45 : decode cX7_stroke 45 = .ok (.bipush (-2), 2) := by decide +kernel
theorem dX7_stroke_47 : decode cX7_stroke 47 = .ok (.invokevirtual 45, 3) := by decide +kernel
theorem dX7_stroke_50 : decode cX7_stroke 50 = .ok (.ireturn, 1) := by decide +kernel
set_option maxRecDepth 20000 in
theorem ggX7_cost_X7_isWord : GoodIn wsX7_cost wsX7_isWord := goodIn_r _ [5, 6, 7, 8, 4, 9, 43, 44, 45, 46, 47, 48, 49, 50, 51, 52, 53, 54, 55, 56, 57, 58] (by decide +kernel) (by decide +kernel)
set_option maxRecDepth 20000 in
theorem gX7_cost_X7_isWord : GoodIn wsX7_cost (wsV RX7 63 RX7 yX7_isWord wsX7_isWord) := goodIn_app (goodIn_of _ (by decide +kernel)) ggX7_cost_X7_isWord
set_option maxRecDepth 20000 in
theorem ggX7_cost_X7_written : GoodIn wsX7_cost wsX7_written := goodIn_r _ [13, 14, 15, 16, 17, 4, 18, 6, 19, 20, 21, 22, 23, 24, 25, 26, 27, 28, 29, 30, 31, 32, 33, 34, 35, 36, 37, 43, 44, 45, 46, 47, 48, 49, 50, 51, 52, 53, 54, 55, 56, 57, 58] (by decide +kernel) (by decide +kernel)
set_option maxRecDepth 20000 in
theorem gX7_cost_X7_written : GoodIn wsX7_cost (wsV RX7 89 RX7 yX7_written wsX7_written) := goodIn_app (goodIn_of _ (by decide +kernel)) ggX7_cost_X7_written
set_option maxRecDepth 20000 in
theorem ggX7_cost_X7_costOf : GoodIn wsX7_cost wsX7_costOf := goodIn_r _ [31, 14, 24, 25, 26, 4, 27, 6, 19, 32, 33, 34, 35, 36, 37, 43, 44, 45, 46, 47, 48, 49, 50, 51, 52, 53, 54, 55, 56, 57, 58] (by decide +kernel) (by decide +kernel)
set_option maxRecDepth 20000 in
theorem gX7_cost_X7_costOf : GoodIn wsX7_cost (wsV RX7 86 RX7 yX7_costOf wsX7_costOf) := goodIn_app (goodIn_of _ (by decide +kernel)) ggX7_cost_X7_costOf
set_option maxRecDepth 20000 in
theorem ggX7_cost_X7_fails : GoodIn wsX7_cost wsX7_fails := goodIn_r _ [41, 42, 43, 44, 45, 46, 47, 48, 49, 50, 51, 52, 53, 54, 55, 56, 57, 58] (by decide +kernel) (by decide +kernel)
set_option maxRecDepth 20000 in
theorem gX7_cost_X7_fails : GoodIn wsX7_cost (wsV RX7 45 RX7 yX7_fails wsX7_fails) := goodIn_app (goodIn_of _ (by decide +kernel)) ggX7_cost_X7_fails
theorem dX7_cost_0 : decode cX7_cost 0 = .ok (.aload_n 0, 1) := by decide +kernel
theorem dX7_cost_1 : decode cX7_cost 1 = .ok (.iload_n 1, 1) := by decide +kernel
theorem dX7_cost_2 : decode cX7_cost 2 = .ok (.invokevirtual 63, 3) := by decide +kernel
theorem dX7_cost_5 : decode cX7_cost 5 = .ok (.ifCond .eq 15, 3) := by decide +kernel
theorem dX7_cost_8 : decode cX7_cost 8 = .ok (.aload_n 0, 1) := by decide +kernel
theorem dX7_cost_9 : decode cX7_cost 9 = .ok (.aload_n 0, 1) := by decide +kernel
theorem dX7_cost_10 : decode cX7_cost 10 = .ok (.iload_n 1, 1) := by decide +kernel
theorem dX7_cost_11 : decode cX7_cost 11 = .ok (.invokevirtual 89, 3) := by decide +kernel
theorem dX7_cost_14 : decode cX7_cost 14 = .ok (.invokevirtual 86, 3) := by decide +kernel
theorem dX7_cost_17 : decode cX7_cost 17 = .ok (.goto 9, 3) := by decide +kernel
theorem dX7_cost_20 : decode cX7_cost 20 = .ok (.aload_n 0, 1) := by decide +kernel
theorem dX7_cost_21 : decode cX7_cost 21 = .ok (.bipush (-2), 2) := by decide +kernel
theorem dX7_cost_23 : decode cX7_cost 23 = .ok (.invokevirtual 45, 3) := by decide +kernel
theorem dX7_cost_26 : decode cX7_cost 26 = .ok (.ireturn, 1) := by decide +kernel
set_option maxRecDepth 20000 in
theorem ggX7_outlines_X7_isWord : GoodIn wsX7_outlines wsX7_isWord := goodIn_r _ [6, 7, 8, 9, 5, 10, 29, 30, 31, 32, 33, 34, 35, 36, 37, 38, 39, 40, 41, 42, 43, 44] (by decide +kernel) (by decide +kernel)
set_option maxRecDepth 20000 in
theorem gX7_outlines_X7_isWord : GoodIn wsX7_outlines (wsV RX7 63 RX7 yX7_isWord wsX7_isWord) := goodIn_app (goodIn_of _ (by decide +kernel)) ggX7_outlines_X7_isWord
set_option maxRecDepth 20000 in
theorem ggX7_outlines_X7_fails : GoodIn wsX7_outlines wsX7_fails := goodIn_r _ [14, 15, 29, 30, 31, 32, 33, 34, 35, 36, 37, 38, 39, 40, 41, 42, 43, 44] (by decide +kernel) (by decide +kernel)
set_option maxRecDepth 20000 in
theorem gX7_outlines_X7_fails : GoodIn wsX7_outlines (wsV RX7 45 RX7 yX7_fails wsX7_fails) := goodIn_app (goodIn_of _ (by decide +kernel)) ggX7_outlines_X7_fails
set_option maxRecDepth 20000 in
theorem ggX7_outlines_X7_laysSounds : GoodIn wsX7_outlines wsX7_laysSounds := goodIn_r _ [19, 1, 7, 20, 29, 30, 31, 32, 33, 34, 35, 36, 37, 38, 39, 40, 41, 42, 43, 44] (by decide +kernel) (by decide +kernel)
set_option maxRecDepth 20000 in
theorem gX7_outlines_X7_laysSounds : GoodIn wsX7_outlines (wsV RX7 79 RX7 yX7_laysSounds wsX7_laysSounds) := goodIn_app (goodIn_of _ (by decide +kernel)) ggX7_outlines_X7_laysSounds
set_option maxRecDepth 20000 in
theorem ggX7_outlines_X7_isChoice : GoodIn wsX7_outlines wsX7_isChoice := goodIn_r _ [24, 1, 25, 26, 27, 5, 28, 7, 20, 29, 30, 31, 32, 33, 34, 35, 36, 37, 38, 39, 40, 41, 42, 43, 44] (by decide +kernel) (by decide +kernel)
set_option maxRecDepth 20000 in
theorem gX7_outlines_X7_isChoice : GoodIn wsX7_outlines (wsV RX7 83 RX7 yX7_isChoice wsX7_isChoice) := goodIn_app (goodIn_of _ (by decide +kernel)) ggX7_outlines_X7_isChoice
theorem dX7_outlines_0 : decode cX7_outlines 0 = .ok (.aload_n 0, 1) := by decide +kernel
theorem dX7_outlines_1 : decode cX7_outlines 1 = .ok (.iload_n 1, 1) := by decide +kernel
theorem dX7_outlines_2 : decode cX7_outlines 2 = .ok (.invokevirtual 63, 3) := by decide +kernel
theorem dX7_outlines_5 : decode cX7_outlines 5 = .ok (.ifCond .ne 10, 3) := by decide +kernel
theorem dX7_outlines_8 : decode cX7_outlines 8 = .ok (.aload_n 0, 1) := by decide +kernel
theorem dX7_outlines_9 : decode cX7_outlines 9 = .ok (.bipush (-2), 2) := by decide +kernel
theorem dX7_outlines_11 : decode cX7_outlines 11 = .ok (.invokevirtual 45, 3) := by decide +kernel
theorem dX7_outlines_14 : decode cX7_outlines 14 = .ok (.ireturn, 1) := by decide +kernel
theorem dX7_outlines_15 : decode cX7_outlines 15 = .ok (.aload_n 0, 1) := by decide +kernel
theorem dX7_outlines_16 : decode cX7_outlines 16 = .ok (.iload_n 1, 1) := by decide +kernel
theorem dX7_outlines_17 : decode cX7_outlines 17 = .ok (.invokevirtual 79, 3) := by decide +kernel
theorem dX7_outlines_20 : decode cX7_outlines 20 = .ok (.iconst 0, 1) := by decide +kernel
theorem dX7_outlines_21 : decode cX7_outlines 21 = .ok (.istore_n 2, 1) := by decide +kernel
theorem dX7_outlines_22 : decode cX7_outlines 22 = .ok (.iconst 0, 1) := by decide +kernel
theorem dX7_outlines_23 : decode cX7_outlines 23 = .ok (.istore_n 3, 1) := by decide +kernel
theorem dX7_outlines_24 : decode cX7_outlines 24 = .ok (.iload_n 3, 1) := by decide +kernel
theorem dX7_outlines_25 : decode cX7_outlines 25 = .ok (.iconst 1, 1) := by decide +kernel
theorem dX7_outlines_26 : decode cX7_outlines 26 = .ok (.aload_n 0, 1) := by decide +kernel
theorem dX7_outlines_27 : decode cX7_outlines 27 = .ok (.getfield 70, 3) := by decide +kernel
theorem dX7_outlines_30 : decode cX7_outlines 30 = .ok (.ishl, 1) := by decide +kernel
theorem dX7_outlines_31 : decode cX7_outlines 31 = .ok (.if_icmp .ge 25, 3) := by decide +kernel
theorem dX7_outlines_34 : decode cX7_outlines 34 = .ok (.iload_n 2, 1) := by decide +kernel
theorem dX7_outlines_35 : decode cX7_outlines 35 = .ok (.aload_n 0, 1) := by decide +kernel
theorem dX7_outlines_36 : decode cX7_outlines 36 = .ok (.iload_n 3, 1) := by decide +kernel
theorem dX7_outlines_37 : decode cX7_outlines 37 = .ok (.invokevirtual 83, 3) := by decide +kernel
theorem dX7_outlines_40 : decode cX7_outlines 40 = .ok (.ifCond .eq 7, 3) := by decide +kernel
theorem dX7_outlines_43 : decode cX7_outlines 43 = .ok (.iconst 1, 1) := by decide +kernel
theorem dX7_outlines_44 : decode cX7_outlines 44 = .ok (.goto 4, 3) := by decide +kernel
theorem dX7_outlines_47 : decode cX7_outlines 47 = .ok (.iconst 0, 1) := by decide +kernel
theorem dX7_outlines_48 : decode cX7_outlines 48 = .ok (.iadd, 1) := by decide +kernel
theorem dX7_outlines_49 : decode cX7_outlines 49 = .ok (.istore_n 2, 1) := by decide +kernel
theorem dX7_outlines_50 : decode cX7_outlines 50 = .ok (.iinc 3 1, 3) := by decide +kernel
theorem dX7_outlines_53 : decode cX7_outlines 53 = .ok (.goto (-29), 3) := by decide +kernel
theorem dX7_outlines_56 : decode cX7_outlines 56 = .ok (.iload_n 2, 1) := by decide +kernel
theorem dX7_outlines_57 : decode cX7_outlines 57 = .ok (.ireturn, 1) := by decide +kernel
set_option maxRecDepth 20000 in
theorem ggX7_joinCost_X7_isCode : GoodIn wsX7_joinCost wsX7_isCode := goodIn_r _ [4, 5, 6, 3, 7] (by decide +kernel) (by decide +kernel)
set_option maxRecDepth 20000 in
theorem gX7_joinCost_X7_isCode : GoodIn wsX7_joinCost (va_wsS RX7 49 yX7_isCode wsX7_isCode) := goodIn_app (goodIn_of _ (by decide +kernel)) ggX7_joinCost_X7_isCode
set_option maxRecDepth 20000 in
theorem ggX7_joinCost_X7_joins : GoodIn wsX7_joinCost wsX7_joins := goodIn_r _ [10, 11, 12, 3, 13] (by decide +kernel) (by decide +kernel)
set_option maxRecDepth 20000 in
theorem gX7_joinCost_X7_joins : GoodIn wsX7_joinCost (va_wsS RX7 76 yX7_joins wsX7_joins) := goodIn_app (goodIn_of _ (by decide +kernel)) ggX7_joinCost_X7_joins
set_option maxRecDepth 20000 in
theorem ggX7_joinCost_X7_fails : GoodIn wsX7_joinCost wsX7_fails := goodIn_r _ [17, 18, 19, 20, 21, 22, 23, 24, 25, 26, 27, 28, 29, 30, 31, 32, 33, 34] (by decide +kernel) (by decide +kernel)
set_option maxRecDepth 20000 in
theorem gX7_joinCost_X7_fails : GoodIn wsX7_joinCost (wsV RX7 45 RX7 yX7_fails wsX7_fails) := goodIn_app (goodIn_of _ (by decide +kernel)) ggX7_joinCost_X7_fails
theorem dX7_joinCost_0 : decode cX7_joinCost 0 = .ok (.iload_n 1, 1) := by decide +kernel
theorem dX7_joinCost_1 : decode cX7_joinCost 1 = .ok (.invokestatic 49, 3) := by decide +kernel
theorem dX7_joinCost_4 : decode cX7_joinCost 4 = .ok (.ifCond .eq 18, 3) := by decide +kernel
theorem dX7_joinCost_7 : decode cX7_joinCost 7 = .ok (.iload_n 2, 1) := by decide +kernel
theorem dX7_joinCost_8 : decode cX7_joinCost 8 = .ok (.invokestatic 49, 3) := by decide +kernel
theorem dX7_joinCost_11 : decode cX7_joinCost 11 = .ok (.ifCond .eq 11, 3) := by decide +kernel
theorem dX7_joinCost_14 : decode cX7_joinCost 14 = .ok (.iload_n 1, 1) := by decide +kernel
theorem dX7_joinCost_15 : decode cX7_joinCost 15 = .ok (.iload_n 2, 1) := by decide +kernel
theorem dX7_joinCost_16 : decode cX7_joinCost 16 = .ok (.invokestatic 76, 3) := by decide +kernel
theorem dX7_joinCost_19 : decode cX7_joinCost 19 = .ok (.goto 9, 3) := by decide +kernel
theorem dX7_joinCost_22 : decode cX7_joinCost 22 = .ok (.aload_n 0, 1) := by decide +kernel
theorem dX7_joinCost_23 : decode cX7_joinCost 23 = .ok (.bipush (-2), 2) := by decide +kernel
theorem dX7_joinCost_25 : decode cX7_joinCost 25 = .ok (.invokevirtual 45, 3) := by decide +kernel
theorem dX7_joinCost_28 : decode cX7_joinCost 28 = .ok (.ireturn, 1) := by decide +kernel
set_option maxRecDepth 20000 in
theorem ggX7_isFree_X7_written : GoodIn wsX7_isFree wsX7_written := goodIn_r _ [7, 2, 8, 9, 10, 6, 11, 1, 12, 13, 14, 15, 16, 17, 18, 19, 20, 21, 22, 23, 24, 25, 26, 27, 28, 29, 30, 31, 32, 33, 34, 35, 36, 37, 38, 39, 40, 41, 42, 43, 44, 45, 46] (by decide +kernel) (by decide +kernel)
set_option maxRecDepth 20000 in
theorem gX7_isFree_X7_written : GoodIn wsX7_isFree (wsV RX7 89 RX7 yX7_written wsX7_written) := goodIn_app (goodIn_of _ (by decide +kernel)) ggX7_isFree_X7_written
set_option maxRecDepth 20000 in
theorem ggX7_isFree_X7_strokeOf : GoodIn wsX7_isFree wsX7_strokeOf := goodIn_r _ [20, 2, 1, 12, 31, 32, 33, 34, 35, 36, 37, 38, 39, 40, 41, 42, 43, 44, 45, 46] (by decide +kernel) (by decide +kernel)
set_option maxRecDepth 20000 in
theorem gX7_isFree_X7_strokeOf : GoodIn wsX7_isFree (wsV RX7 73 RX7 yX7_strokeOf wsX7_strokeOf) := goodIn_app (goodIn_of _ (by decide +kernel)) ggX7_isFree_X7_strokeOf
theorem dX7_isFree_0 : decode cX7_isFree 0 = .ok (.iconst 1, 1) := by decide +kernel
theorem dX7_isFree_1 : decode cX7_isFree 1 = .ok (.istore_n 3, 1) := by decide +kernel
theorem dX7_isFree_2 : decode cX7_isFree 2 = .ok (.iconst 0, 1) := by decide +kernel
theorem dX7_isFree_3 : decode cX7_isFree 3 = .ok (.istore 4, 2) := by decide +kernel
theorem dX7_isFree_5 : decode cX7_isFree 5 = .ok (.iload 4, 2) := by decide +kernel
theorem dX7_isFree_7 : decode cX7_isFree 7 = .ok (.aload_n 0, 1) := by decide +kernel
theorem dX7_isFree_8 : decode cX7_isFree 8 = .ok (.getfield 7, 3) := by decide +kernel
theorem dX7_isFree_11 : decode cX7_isFree 11 = .ok (.bipush 17, 2) := by decide +kernel
theorem dX7_isFree_13 : decode cX7_isFree 13 = .ok (.iaload, 1) := by decide +kernel
theorem dX7_isFree_14 : decode cX7_isFree 14 = .ok (.if_icmp .ge 83, 3) := by decide +kernel
theorem dX7_isFree_17 : decode cX7_isFree 17 = .ok (.iload 4, 2) := by decide +kernel
theorem dX7_isFree_19 : decode cX7_isFree 19 = .ok (.iload_n 1, 1) := by decide +kernel
theorem dX7_isFree_20 : decode cX7_isFree 20 = .ok (.if_icmp .eq 71, 3) := by decide +kernel
theorem dX7_isFree_23 : decode cX7_isFree 23 = .ok (.aload_n 0, 1) := by decide +kernel
theorem dX7_isFree_24 : decode cX7_isFree 24 = .ok (.iload 4, 2) := by decide +kernel
theorem dX7_isFree_26 : decode cX7_isFree 26 = .ok (.invokevirtual 89, 3) := by decide +kernel
theorem dX7_isFree_29 : decode cX7_isFree 29 = .ok (.istore 5, 2) := by decide +kernel
theorem dX7_isFree_31 : decode cX7_isFree 31 = .ok (.iload_n 3, 1) := by decide +kernel
theorem dX7_isFree_32 : decode cX7_isFree 32 = .ok (.ifCond .eq 57, 3) := by decide +kernel
theorem dX7_isFree_35 : decode cX7_isFree 35 = .ok (.aload_n 0, 1) := by decide +kernel
theorem dX7_isFree_36 : decode cX7_isFree 36 = .ok (.getfield 7, 3) := by decide +kernel
theorem dX7_isFree_39 : decode cX7_isFree 39 = .ok (.bipush 42, 2) := by decide +kernel
theorem dX7_isFree_41 : decode cX7_isFree 41 = .ok (.iload 4, 2) := by decide +kernel
theorem dX7_isFree_43 : decode cX7_isFree 43 = .ok (.iadd, 1) := by decide +kernel
theorem dX7_isFree_44 : decode cX7_isFree 44 = .ok (.iaload, 1) := by decide +kernel
theorem dX7_isFree_45 : decode cX7_isFree 45 = .ok (.iconst (-1), 1) := by decide +kernel
theorem dX7_isFree_46 : decode cX7_isFree 46 = .ok (.if_icmp .ne 25, 3) := by decide +kernel
theorem dX7_isFree_49 : decode cX7_isFree 49 = .ok (.aload_n 0, 1) := by decide +kernel
theorem dX7_isFree_50 : decode cX7_isFree 50 = .ok (.getfield 70, 3) := by decide +kernel
theorem dX7_isFree_53 : decode cX7_isFree 53 = .ok (.iconst 1, 1) := by decide +kernel
theorem dX7_isFree_54 : decode cX7_isFree 54 = .ok (.if_icmp .gt 31, 3) := by decide +kernel
theorem dX7_isFree_57 : decode cX7_isFree 57 = .ok (.aload_n 0, 1) := by decide +kernel
theorem dX7_isFree_58 : decode cX7_isFree 58 = .ok (.iload 5, 2) := by decide +kernel
theorem dX7_isFree_60 : decode cX7_isFree 60 = .ok (.iconst 0, 1) := by decide +kernel
theorem dX7_isFree_61 : decode cX7_isFree 61 = .ok (.invokevirtual 73, 3) := by decide +kernel
theorem dX7_isFree_64 : decode cX7_isFree 64 = .ok (.iload_n 2, 1) := by decide +kernel
theorem dX7_isFree_65 : decode cX7_isFree 65 = .ok (.if_icmp .eq 24, 3) := by decide +kernel
theorem dX7_isFree_68 : decode cX7_isFree 68 = .ok (.goto 17, 3) := by decide +kernel
theorem dX7_isFree_71 : decode cX7_isFree 71 = .ok (.aload_n 0, 1) := by decide +kernel
theorem dX7_isFree_72 : decode cX7_isFree 72 = .ok (.getfield 7, 3) := by decide +kernel
theorem dX7_isFree_75 : decode cX7_isFree 75 = .ok (.bipush 42, 2) := by decide +kernel
theorem dX7_isFree_77 : decode cX7_isFree 77 = .ok (.iload 4, 2) := by decide +kernel
theorem dX7_isFree_79 : decode cX7_isFree 79 = .ok (.iadd, 1) := by decide +kernel
theorem dX7_isFree_80 : decode cX7_isFree 80 = .ok (.iaload, 1) := by decide +kernel
theorem dX7_isFree_81 : decode cX7_isFree 81 = .ok (.iload_n 2, 1) := by decide +kernel
theorem dX7_isFree_82 : decode cX7_isFree 82 = .ok (.if_icmp .eq 7, 3) := by decide +kernel
theorem dX7_isFree_85 : decode cX7_isFree 85 = .ok (.iconst 1, 1) := by decide +kernel
theorem dX7_isFree_86 : decode cX7_isFree 86 = .ok (.goto 4, 3) := by decide +kernel
theorem dX7_isFree_89 : decode cX7_isFree 89 = .ok (.iconst 0, 1) := by decide +kernel
theorem dX7_isFree_90 : decode cX7_isFree 90 = .ok (.istore_n 3, 1) := by decide +kernel
theorem dX7_isFree_91 : decode cX7_isFree 91 = .ok (.iinc 4 1, 3) := by decide +kernel
theorem dX7_isFree_94 : decode cX7_isFree 94 = .ok (.goto (-89), 3) := by decide +kernel
theorem dX7_isFree_97 : decode cX7_isFree 97 = .ok (.iload_n 3, 1) := by decide +kernel
theorem dX7_isFree_98 : decode cX7_isFree 98 = .ok (.ireturn, 1) := by decide +kernel
set_option maxRecDepth 20000 in
theorem ggX7_setBrief_X7_isWord : GoodIn wsX7_setBrief wsX7_isWord := goodIn_r _ [6, 1, 7, 8, 5, 9, 56, 57, 58, 59, 60, 61, 62, 63, 64, 65, 66, 67, 68, 69, 70, 71] (by decide +kernel) (by decide +kernel)
set_option maxRecDepth 20000 in
theorem gX7_setBrief_X7_isWord : GoodIn wsX7_setBrief (wsV RX7 63 RX7 yX7_isWord wsX7_isWord) := goodIn_app (goodIn_of _ (by decide +kernel)) ggX7_setBrief_X7_isWord
set_option maxRecDepth 20000 in
theorem ggX7_setBrief_X7_isCode : GoodIn wsX7_setBrief wsX7_isCode := goodIn_r _ [12, 7, 8, 5, 9] (by decide +kernel) (by decide +kernel)
set_option maxRecDepth 20000 in
theorem gX7_setBrief_X7_isCode : GoodIn wsX7_setBrief (va_wsS RX7 49 yX7_isCode wsX7_isCode) := goodIn_app (goodIn_of _ (by decide +kernel)) ggX7_setBrief_X7_isCode
set_option maxRecDepth 20000 in
theorem ggX7_setBrief_X7_fails : GoodIn wsX7_setBrief wsX7_fails := goodIn_r _ [16, 17, 56, 57, 58, 59, 60, 61, 62, 63, 64, 65, 66, 67, 68, 69, 70, 71] (by decide +kernel) (by decide +kernel)
set_option maxRecDepth 20000 in
theorem gX7_setBrief_X7_fails : GoodIn wsX7_setBrief (wsV RX7 45 RX7 yX7_fails wsX7_fails) := goodIn_app (goodIn_of _ (by decide +kernel)) ggX7_setBrief_X7_fails
set_option maxRecDepth 20000 in
theorem ggX7_setBrief_X7_isFree : GoodIn wsX7_setBrief wsX7_isFree := goodIn_r _ [21, 1, 22, 23, 24, 25, 5, 26, 27, 28, 29, 30, 31, 32, 33, 34, 35, 36, 37, 38, 39, 40, 41, 42, 43, 44, 45, 46, 47, 48, 49, 56, 57, 58, 59, 60, 61, 62, 63, 64, 65, 66, 67, 68, 69, 70, 71] (by decide +kernel) (by decide +kernel)
set_option maxRecDepth 20000 in
theorem gX7_setBrief_X7_isFree : GoodIn wsX7_setBrief (wsV RX7 92 RX7 yX7_isFree wsX7_isFree) := goodIn_app (goodIn_of _ (by decide +kernel)) ggX7_setBrief_X7_isFree
set_option maxRecDepth 20000 in
theorem ggX7_setBrief_X7_saves : GoodIn wsX7_setBrief wsX7_saves := goodIn_r _ [53, 54, 55, 1, 56, 57, 58, 59, 60, 61, 62, 63, 64, 65, 66, 67, 68, 69, 70, 71] (by decide +kernel) (by decide +kernel)
set_option maxRecDepth 20000 in
theorem gX7_setBrief_X7_saves : GoodIn wsX7_setBrief (wsV RX7 53 RX7 yX7_saves wsX7_saves) := goodIn_app (goodIn_of _ (by decide +kernel)) ggX7_setBrief_X7_saves
theorem dX7_setBrief_0 : decode cX7_setBrief 0 = .ok (.aload_n 0, 1) := by decide +kernel
theorem dX7_setBrief_1 : decode cX7_setBrief 1 = .ok (.iload_n 1, 1) := by decide +kernel
theorem dX7_setBrief_2 : decode cX7_setBrief 2 = .ok (.invokevirtual 63, 3) := by decide +kernel
theorem dX7_setBrief_5 : decode cX7_setBrief 5 = .ok (.ifCond .eq 10, 3) := by decide +kernel
theorem dX7_setBrief_8 : decode cX7_setBrief 8 = .ok (.iload_n 2, 1) := by decide +kernel
theorem dX7_setBrief_9 : decode cX7_setBrief 9 = .ok (.invokestatic 49, 3) := by decide +kernel
theorem dX7_setBrief_12 : decode cX7_setBrief 12 = .ok (.ifCond .ne 10, 3) := by decide +kernel
theorem dX7_setBrief_15 : decode cX7_setBrief 15 = .ok (.aload_n 0, 1) := by decide +kernel
theorem dX7_setBrief_16 : decode cX7_setBrief 16 = .ok (.bipush (-2), 2) := by decide +kernel
theorem dX7_setBrief_18 : decode cX7_setBrief 18 = .ok (.invokevirtual 45, 3) := by decide +kernel
theorem dX7_setBrief_21 : decode cX7_setBrief 21 = .ok (.ireturn, 1) := by decide +kernel
theorem dX7_setBrief_22 : decode cX7_setBrief 22 = .ok (.aload_n 0, 1) := by decide +kernel
theorem dX7_setBrief_23 : decode cX7_setBrief 23 = .ok (.iload_n 1, 1) := by decide +kernel
theorem dX7_setBrief_24 : decode cX7_setBrief 24 = .ok (.iload_n 2, 1) := by decide +kernel
theorem dX7_setBrief_25 : decode cX7_setBrief 25 = .ok (.invokevirtual 92, 3) := by decide +kernel
theorem dX7_setBrief_28 : decode cX7_setBrief 28 = .ok (.ifCond .ne 10, 3) := by decide +kernel
theorem dX7_setBrief_31 : decode cX7_setBrief 31 = .ok (.aload_n 0, 1) := by decide +kernel
theorem dX7_setBrief_32 : decode cX7_setBrief 32 = .ok (.bipush (-3), 2) := by decide +kernel
theorem dX7_setBrief_34 : decode cX7_setBrief 34 = .ok (.invokevirtual 45, 3) := by decide +kernel
theorem dX7_setBrief_37 : decode cX7_setBrief 37 = .ok (.ireturn, 1) := by decide +kernel
theorem dX7_setBrief_38 : decode cX7_setBrief 38 = .ok (.aload_n 0, 1) := by decide +kernel
theorem dX7_setBrief_39 : decode cX7_setBrief 39 = .ok (.invokevirtual 53, 3) := by decide +kernel
theorem dX7_setBrief_42 : decode cX7_setBrief 42 = .ok (.aload_n 0, 1) := by decide +kernel
theorem dX7_setBrief_43 : decode cX7_setBrief 43 = .ok (.getfield 7, 3) := by decide +kernel
theorem dX7_setBrief_46 : decode cX7_setBrief 46 = .ok (.bipush 42, 2) := by decide +kernel
theorem dX7_setBrief_48 : decode cX7_setBrief 48 = .ok (.iload_n 1, 1) := by decide +kernel
theorem dX7_setBrief_49 : decode cX7_setBrief 49 = .ok (.iadd, 1) := by decide +kernel
theorem dX7_setBrief_50 : decode cX7_setBrief 50 = .ok (.iaload, 1) := by decide +kernel
theorem dX7_setBrief_51 : decode cX7_setBrief 51 = .ok (.istore_n 3, 1) := by decide +kernel
theorem dX7_setBrief_52 : decode cX7_setBrief 52 = .ok (.aload_n 0, 1) := by decide +kernel
theorem dX7_setBrief_53 : decode cX7_setBrief 53 = .ok (.getfield 7, 3) := by decide +kernel
theorem dX7_setBrief_56 : decode cX7_setBrief 56 = .ok (.bipush 42, 2) := by decide +kernel
theorem dX7_setBrief_58 : decode cX7_setBrief 58 = .ok (.iload_n 1, 1) := by decide +kernel
theorem dX7_setBrief_59 : decode cX7_setBrief 59 = .ok (.iadd, 1) := by decide +kernel
theorem dX7_setBrief_60 : decode cX7_setBrief 60 = .ok (.iload_n 2, 1) := by decide +kernel
theorem dX7_setBrief_61 : decode cX7_setBrief 61 = .ok (.iastore, 1) := by decide +kernel
theorem dX7_setBrief_62 : decode cX7_setBrief 62 = .ok (.iload_n 3, 1) := by decide +kernel
theorem dX7_setBrief_63 : decode cX7_setBrief 63 = .ok (.ireturn, 1) := by decide +kernel
set_option maxRecDepth 20000 in
theorem ggX7_clearBrief_X7_isWord : GoodIn wsX7_clearBrief wsX7_isWord := goodIn_r _ [6, 1, 7, 8, 5, 9, 21, 22, 23, 24, 25, 26, 27, 28, 29, 30, 31, 32, 33, 34, 35, 36] (by decide +kernel) (by decide +kernel)
set_option maxRecDepth 20000 in
theorem gX7_clearBrief_X7_isWord : GoodIn wsX7_clearBrief (wsV RX7 63 RX7 yX7_isWord wsX7_isWord) := goodIn_app (goodIn_of _ (by decide +kernel)) ggX7_clearBrief_X7_isWord
set_option maxRecDepth 20000 in
theorem ggX7_clearBrief_X7_fails : GoodIn wsX7_clearBrief wsX7_fails := goodIn_r _ [13, 14, 21, 22, 23, 24, 25, 26, 27, 28, 29, 30, 31, 32, 33, 34, 35, 36] (by decide +kernel) (by decide +kernel)
set_option maxRecDepth 20000 in
theorem gX7_clearBrief_X7_fails : GoodIn wsX7_clearBrief (wsV RX7 45 RX7 yX7_fails wsX7_fails) := goodIn_app (goodIn_of _ (by decide +kernel)) ggX7_clearBrief_X7_fails
set_option maxRecDepth 20000 in
theorem ggX7_clearBrief_X7_saves : GoodIn wsX7_clearBrief wsX7_saves := goodIn_r _ [18, 19, 20, 1, 21, 22, 23, 24, 25, 26, 27, 28, 29, 30, 31, 32, 33, 34, 35, 36] (by decide +kernel) (by decide +kernel)
set_option maxRecDepth 20000 in
theorem gX7_clearBrief_X7_saves : GoodIn wsX7_clearBrief (wsV RX7 53 RX7 yX7_saves wsX7_saves) := goodIn_app (goodIn_of _ (by decide +kernel)) ggX7_clearBrief_X7_saves
theorem dX7_clearBrief_0 : decode cX7_clearBrief 0 = .ok (.aload_n 0, 1) := by decide +kernel
theorem dX7_clearBrief_1 : decode cX7_clearBrief 1 = .ok (.iload_n 1, 1) := by decide +kernel
theorem dX7_clearBrief_2 : decode cX7_clearBrief 2 = .ok (.invokevirtual 63, 3) := by decide +kernel
theorem dX7_clearBrief_5 : decode cX7_clearBrief 5 = .ok (.ifCond .ne 10, 3) := by decide +kernel
theorem dX7_clearBrief_8 : decode cX7_clearBrief 8 = .ok (.aload_n 0, 1) := by decide +kernel
theorem dX7_clearBrief_9 : decode cX7_clearBrief 9 = .ok (.bipush (-2), 2) := by decide +kernel
theorem dX7_clearBrief_11 : decode cX7_clearBrief 11 = .ok (.invokevirtual 45, 3) := by decide +kernel
theorem dX7_clearBrief_14 : decode cX7_clearBrief 14 = .ok (.ireturn, 1) := by decide +kernel
theorem dX7_clearBrief_15 : decode cX7_clearBrief 15 = .ok (.aload_n 0, 1) := by decide +kernel
theorem dX7_clearBrief_16 : decode cX7_clearBrief 16 = .ok (.getfield 7, 3) := by decide +kernel
theorem dX7_clearBrief_19 : decode cX7_clearBrief 19 = .ok (.bipush 42, 2) := by decide +kernel
theorem dX7_clearBrief_21 : decode cX7_clearBrief 21 = .ok (.iload_n 1, 1) := by decide +kernel
theorem dX7_clearBrief_22 : decode cX7_clearBrief 22 = .ok (.iadd, 1) := by decide +kernel
theorem dX7_clearBrief_23 : decode cX7_clearBrief 23 = .ok (.iaload, 1) := by decide +kernel
theorem dX7_clearBrief_24 : decode cX7_clearBrief 24 = .ok (.istore_n 2, 1) := by decide +kernel
theorem dX7_clearBrief_25 : decode cX7_clearBrief 25 = .ok (.iload_n 2, 1) := by decide +kernel
theorem dX7_clearBrief_26 : decode cX7_clearBrief 26 = .ok (.iconst (-1), 1) := by decide +kernel
theorem dX7_clearBrief_27 : decode cX7_clearBrief 27 = .ok (.if_icmp .ne 10, 3) := by decide +kernel
theorem dX7_clearBrief_30 : decode cX7_clearBrief 30 = .ok (.aload_n 0, 1) := by decide +kernel
theorem dX7_clearBrief_31 : decode cX7_clearBrief 31 = .ok (.bipush (-3), 2) := by decide +kernel
theorem dX7_clearBrief_33 : decode cX7_clearBrief 33 = .ok (.invokevirtual 45, 3) := by decide +kernel
theorem dX7_clearBrief_36 : decode cX7_clearBrief 36 = .ok (.ireturn, 1) := by decide +kernel
theorem dX7_clearBrief_37 : decode cX7_clearBrief 37 = .ok (.aload_n 0, 1) := by decide +kernel
theorem dX7_clearBrief_38 : decode cX7_clearBrief 38 = .ok (.invokevirtual 53, 3) := by decide +kernel
theorem dX7_clearBrief_41 : decode cX7_clearBrief 41 = .ok (.aload_n 0, 1) := by decide +kernel
theorem dX7_clearBrief_42 : decode cX7_clearBrief 42 = .ok (.getfield 7, 3) := by decide +kernel
theorem dX7_clearBrief_45 : decode cX7_clearBrief 45 = .ok (.bipush 42, 2) := by decide +kernel
theorem dX7_clearBrief_47 : decode cX7_clearBrief 47 = .ok (.iload_n 1, 1) := by decide +kernel
theorem dX7_clearBrief_48 : decode cX7_clearBrief 48 = .ok (.iadd, 1) := by decide +kernel
theorem dX7_clearBrief_49 : decode cX7_clearBrief 49 = .ok (.iconst (-1), 1) := by decide +kernel
theorem dX7_clearBrief_50 : decode cX7_clearBrief 50 = .ok (.iastore, 1) := by decide +kernel
theorem dX7_clearBrief_51 : decode cX7_clearBrief 51 = .ok (.iload_n 2, 1) := by decide +kernel
theorem dX7_clearBrief_52 : decode cX7_clearBrief 52 = .ok (.ireturn, 1) := by decide +kernel
set_option maxRecDepth 20000 in
theorem ggX7_brief_X7_isWord : GoodIn wsX7_brief wsX7_isWord := goodIn_r _ [6, 1, 7, 8, 5, 9, 15, 16, 17, 18, 19, 20, 21, 22, 23, 24, 25, 26, 27, 28, 29, 30] (by decide +kernel) (by decide +kernel)
set_option maxRecDepth 20000 in
theorem gX7_brief_X7_isWord : GoodIn wsX7_brief (wsV RX7 63 RX7 yX7_isWord wsX7_isWord) := goodIn_app (goodIn_of _ (by decide +kernel)) ggX7_brief_X7_isWord
set_option maxRecDepth 20000 in
theorem ggX7_brief_X7_fails : GoodIn wsX7_brief wsX7_fails := goodIn_r _ [13, 14, 15, 16, 17, 18, 19, 20, 21, 22, 23, 24, 25, 26, 27, 28, 29, 30] (by decide +kernel) (by decide +kernel)
set_option maxRecDepth 20000 in
theorem gX7_brief_X7_fails : GoodIn wsX7_brief (wsV RX7 45 RX7 yX7_fails wsX7_fails) := goodIn_app (goodIn_of _ (by decide +kernel)) ggX7_brief_X7_fails
theorem dX7_brief_0 : decode cX7_brief 0 = .ok (.aload_n 0, 1) := by decide +kernel
theorem dX7_brief_1 : decode cX7_brief 1 = .ok (.iload_n 1, 1) := by decide +kernel
theorem dX7_brief_2 : decode cX7_brief 2 = .ok (.invokevirtual 63, 3) := by decide +kernel
theorem dX7_brief_5 : decode cX7_brief 5 = .ok (.ifCond .eq 15, 3) := by decide +kernel
theorem dX7_brief_8 : decode cX7_brief 8 = .ok (.aload_n 0, 1) := by decide +kernel
theorem dX7_brief_9 : decode cX7_brief 9 = .ok (.getfield 7, 3) := by decide +kernel
theorem dX7_brief_12 : decode cX7_brief 12 = .ok (.bipush 42, 2) := by decide +kernel
theorem dX7_brief_14 : decode cX7_brief 14 = .ok (.iload_n 1, 1) := by decide +kernel
theorem dX7_brief_15 : decode cX7_brief 15 = .ok (.iadd, 1) := by decide +kernel
theorem dX7_brief_16 : decode cX7_brief 16 = .ok (.iaload, 1) := by decide +kernel
theorem dX7_brief_17 : decode cX7_brief 17 = .ok (.goto 9, 3) := by decide +kernel
theorem dX7_brief_20 : decode cX7_brief 20 = .ok (.aload_n 0, 1) := by decide +kernel
theorem dX7_brief_21 : decode cX7_brief 21 = .ok (.bipush (-2), 2) := by decide +kernel
theorem dX7_brief_23 : decode cX7_brief 23 = .ok (.invokevirtual 45, 3) := by decide +kernel
theorem dX7_brief_26 : decode cX7_brief 26 = .ok (.ireturn, 1) := by decide +kernel
set_option maxRecDepth 20000 in
theorem ggX7_gainOf_X7_laysSounds : GoodIn wsX7_gainOf wsX7_laysSounds := goodIn_r _ [7, 2, 1, 8, 9, 10, 11, 12, 13, 14, 15, 16, 17, 18, 19, 20, 21, 22, 23, 24] (by decide +kernel) (by decide +kernel)
set_option maxRecDepth 20000 in
theorem gX7_gainOf_X7_laysSounds : GoodIn wsX7_gainOf (wsV RX7 79 RX7 yX7_laysSounds wsX7_laysSounds) := goodIn_app (goodIn_of _ (by decide +kernel)) ggX7_gainOf_X7_laysSounds
theorem dX7_gainOf_0 : decode cX7_gainOf 0 = .ok (.aload_n 0, 1) := by decide +kernel
theorem dX7_gainOf_1 : decode cX7_gainOf 1 = .ok (.iload_n 1, 1) := by decide +kernel
theorem dX7_gainOf_2 : decode cX7_gainOf 2 = .ok (.invokevirtual 79, 3) := by decide +kernel
theorem dX7_gainOf_5 : decode cX7_gainOf 5 = .ok (.aload_n 0, 1) := by decide +kernel
theorem dX7_gainOf_6 : decode cX7_gainOf 6 = .ok (.getfield 7, 3) := by decide +kernel
theorem dX7_gainOf_9 : decode cX7_gainOf 9 = .ok (.bipush 30, 2) := by decide +kernel
theorem dX7_gainOf_11 : decode cX7_gainOf 11 = .ok (.iload_n 1, 1) := by decide +kernel
theorem dX7_gainOf_12 : decode cX7_gainOf 12 = .ok (.iadd, 1) := by decide +kernel
theorem dX7_gainOf_13 : decode cX7_gainOf 13 = .ok (.iaload, 1) := by decide +kernel
theorem dX7_gainOf_14 : decode cX7_gainOf 14 = .ok (.aload_n 0, 1) := by decide +kernel
theorem dX7_gainOf_15 : decode cX7_gainOf 15 = .ok (.getfield 70, 3) := by decide +kernel
theorem dX7_gainOf_18 : decode cX7_gainOf 18 = .ok (.iconst 1, 1) := by decide +kernel
theorem dX7_gainOf_19 : decode cX7_gainOf 19 = .ok (.isub, 1) := by decide +kernel
theorem dX7_gainOf_20 : decode cX7_gainOf 20 = .ok (.imul, 1) := by decide +kernel
theorem dX7_gainOf_21 : decode cX7_gainOf 21 = .ok (.ireturn, 1) := by decide +kernel
set_option maxRecDepth 20000 in
theorem ggX7_gain_X7_isWord : GoodIn wsX7_gain wsX7_isWord := goodIn_r _ [5, 6, 7, 8, 4, 9, 25, 26, 27, 28, 29, 30, 31, 32, 33, 34, 35, 36, 37, 38, 39, 40] (by decide +kernel) (by decide +kernel)
set_option maxRecDepth 20000 in
theorem gX7_gain_X7_isWord : GoodIn wsX7_gain (wsV RX7 63 RX7 yX7_isWord wsX7_isWord) := goodIn_app (goodIn_of _ (by decide +kernel)) ggX7_gain_X7_isWord
set_option maxRecDepth 20000 in
theorem ggX7_gain_X7_gainOf : GoodIn wsX7_gain wsX7_gainOf := goodIn_r _ [13, 6, 14, 15, 16, 17, 4, 18, 19, 25, 26, 27, 28, 29, 30, 31, 32, 33, 34, 35, 36, 37, 38, 39, 40] (by decide +kernel) (by decide +kernel)
set_option maxRecDepth 20000 in
theorem gX7_gain_X7_gainOf : GoodIn wsX7_gain (wsV RX7 96 RX7 yX7_gainOf wsX7_gainOf) := goodIn_app (goodIn_of _ (by decide +kernel)) ggX7_gain_X7_gainOf
set_option maxRecDepth 20000 in
theorem ggX7_gain_X7_fails : GoodIn wsX7_gain wsX7_fails := goodIn_r _ [23, 24, 25, 26, 27, 28, 29, 30, 31, 32, 33, 34, 35, 36, 37, 38, 39, 40] (by decide +kernel) (by decide +kernel)
set_option maxRecDepth 20000 in
theorem gX7_gain_X7_fails : GoodIn wsX7_gain (wsV RX7 45 RX7 yX7_fails wsX7_fails) := goodIn_app (goodIn_of _ (by decide +kernel)) ggX7_gain_X7_fails
theorem dX7_gain_0 : decode cX7_gain 0 = .ok (.aload_n 0, 1) := by decide +kernel
theorem dX7_gain_1 : decode cX7_gain 1 = .ok (.iload_n 1, 1) := by decide +kernel
theorem dX7_gain_2 : decode cX7_gain 2 = .ok (.invokevirtual 63, 3) := by decide +kernel
theorem dX7_gain_5 : decode cX7_gain 5 = .ok (.ifCond .eq 11, 3) := by decide +kernel
theorem dX7_gain_8 : decode cX7_gain 8 = .ok (.aload_n 0, 1) := by decide +kernel
theorem dX7_gain_9 : decode cX7_gain 9 = .ok (.iload_n 1, 1) := by decide +kernel
theorem dX7_gain_10 : decode cX7_gain 10 = .ok (.invokevirtual 96, 3) := by decide +kernel
theorem dX7_gain_13 : decode cX7_gain 13 = .ok (.goto 9, 3) := by decide +kernel
theorem dX7_gain_16 : decode cX7_gain 16 = .ok (.aload_n 0, 1) := by decide +kernel
theorem dX7_gain_17 : decode cX7_gain 17 = .ok (.bipush (-2), 2) := by decide +kernel
theorem dX7_gain_19 : decode cX7_gain 19 = .ok (.invokevirtual 45, 3) := by decide +kernel
theorem dX7_gain_22 : decode cX7_gain 22 = .ok (.ireturn, 1) := by decide +kernel
set_option maxRecDepth 20000 in
theorem ggX7_proposes_X7_gainOf : GoodIn wsX7_proposes wsX7_gainOf := goodIn_r _ [9, 2, 10, 11, 12, 13, 8, 14, 15, 42, 43, 44, 45, 46, 47, 48, 49, 50, 51, 52, 53, 54, 55, 56, 57] (by decide +kernel) (by decide +kernel)
set_option maxRecDepth 20000 in
theorem gX7_proposes_X7_gainOf : GoodIn wsX7_proposes (wsV RX7 96 RX7 yX7_gainOf wsX7_gainOf) := goodIn_app (goodIn_of _ (by decide +kernel)) ggX7_proposes_X7_gainOf
set_option maxRecDepth 20000 in
theorem ggX7_proposes_X7_isFree : GoodIn wsX7_proposes wsX7_isFree := goodIn_r _ [19, 2, 10, 20, 21, 22, 8, 23, 11, 12, 13, 14, 15, 24, 25, 26, 27, 28, 29, 30, 31, 32, 33, 34, 35, 36, 37, 38, 39, 40, 41, 42, 43, 44, 45, 46, 47, 48, 49, 50, 51, 52, 53, 54, 55, 56, 57] (by decide +kernel) (by decide +kernel)
set_option maxRecDepth 20000 in
theorem gX7_proposes_X7_isFree : GoodIn wsX7_proposes (wsV RX7 92 RX7 yX7_isFree wsX7_isFree) := goodIn_app (goodIn_of _ (by decide +kernel)) ggX7_proposes_X7_isFree
theorem dX7_proposes_0 : decode cX7_proposes 0 = .ok (.aload_n 0, 1) := by decide +kernel
theorem dX7_proposes_1 : decode cX7_proposes 1 = .ok (.iconst 0, 1) := by decide +kernel
theorem dX7_proposes_2 : decode cX7_proposes 2 = .ok (.putfield 99, 3) := by decide +kernel
theorem dX7_proposes_5 : decode cX7_proposes 5 = .ok (.iconst 0, 1) := by decide +kernel
theorem dX7_proposes_6 : decode cX7_proposes 6 = .ok (.istore_n 1, 1) := by decide +kernel
theorem dX7_proposes_7 : decode cX7_proposes 7 = .ok (.iconst 0, 1) := by decide +kernel
theorem dX7_proposes_8 : decode cX7_proposes 8 = .ok (.istore_n 2, 1) := by decide +kernel
theorem dX7_proposes_9 : decode cX7_proposes 9 = .ok (.iconst 0, 1) := by decide +kernel
theorem dX7_proposes_10 : decode cX7_proposes 10 = .ok (.istore_n 3, 1) := by decide +kernel
theorem dX7_proposes_11 : decode cX7_proposes 11 = .ok (.iload_n 3, 1) := by decide +kernel
theorem dX7_proposes_12 : decode cX7_proposes 12 = .ok (.aload_n 0, 1) := by decide +kernel
theorem dX7_proposes_13 : decode cX7_proposes 13 = .ok (.getfield 7, 3) := by decide +kernel
theorem dX7_proposes_16 : decode cX7_proposes 16 = .ok (.bipush 17, 2) := by decide +kernel
theorem dX7_proposes_18 : decode cX7_proposes 18 = .ok (.iaload, 1) := by decide +kernel
theorem dX7_proposes_19 : decode cX7_proposes 19 = .ok (.if_icmp .ge 204, 3) := by decide +kernel
theorem dX7_proposes_22 : decode cX7_proposes 22 = .ok (.iconst (-1), 1) := by decide +kernel
theorem dX7_proposes_23 : decode cX7_proposes 23 = .ok (.istore 4, 2) := by decide +kernel
theorem dX7_proposes_25 : decode cX7_proposes 25 = .ok (.iconst 0, 1) := by decide +kernel
theorem dX7_proposes_26 : decode cX7_proposes 26 = .ok (.istore 5, 2) := by decide +kernel
theorem dX7_proposes_28 : decode cX7_proposes 28 = .ok (.iload 5, 2) := by decide +kernel
theorem dX7_proposes_30 : decode cX7_proposes 30 = .ok (.aload_n 0, 1) := by decide +kernel
theorem dX7_proposes_31 : decode cX7_proposes 31 = .ok (.getfield 7, 3) := by decide +kernel
theorem dX7_proposes_34 : decode cX7_proposes 34 = .ok (.bipush 17, 2) := by decide +kernel
theorem dX7_proposes_36 : decode cX7_proposes 36 = .ok (.iaload, 1) := by decide +kernel
theorem dX7_proposes_37 : decode cX7_proposes 37 = .ok (.if_icmp .ge 83, 3) := by decide +kernel
theorem dX7_proposes_40 : decode cX7_proposes 40 = .ok (.iload_n 1, 1) := by decide +kernel
theorem dX7_proposes_41 : decode cX7_proposes 41 = .ok (.iload 5, 2) := by decide +kernel
theorem dX7_proposes_43 : decode cX7_proposes 43 = .ok (.ishr, 1) := by decide +kernel
theorem dX7_proposes_44 : decode cX7_proposes 44 = .ok (.iconst 1, 1) := by decide +kernel
theorem dX7_proposes_45 : decode cX7_proposes 45 = .ok (.iand, 1) := by decide +kernel
theorem dX7_proposes_46 : decode cX7_proposes 46 = .ok (.ifCond .ne 30, 3) := by decide +kernel
theorem dX7_proposes_49 : decode cX7_proposes 49 = .ok (.aload_n 0, 1) := by decide +kernel
theorem dX7_proposes_50 : decode cX7_proposes 50 = .ok (.getfield 7, 3) := by decide +kernel
theorem dX7_proposes_53 : decode cX7_proposes 53 = .ok (.bipush 42, 2) := by decide +kernel
theorem dX7_proposes_55 : decode cX7_proposes 55 = .ok (.iload 5, 2) := by decide +kernel
theorem dX7_proposes_57 : decode cX7_proposes 57 = .ok (.iadd, 1) := by decide +kernel
theorem dX7_proposes_58 : decode cX7_proposes 58 = .ok (.iaload, 1) := by decide +kernel
theorem dX7_proposes_59 : decode cX7_proposes 59 = .ok (.iconst (-1), 1) := by decide +kernel
theorem dX7_proposes_60 : decode cX7_proposes 60 = .ok (.if_icmp .ne 16, 3) := by decide +kernel
theorem dX7_proposes_63 : decode cX7_proposes 63 = .ok (.aload_n 0, 1) := by decide +kernel
theorem dX7_proposes_64 : decode cX7_proposes 64 = .ok (.iload 5, 2) := by decide +kernel
theorem dX7_proposes_66 : decode cX7_proposes 66 = .ok (.invokevirtual 96, 3) := by decide +kernel
theorem dX7_proposes_69 : decode cX7_proposes 69 = .ok (.ifCond .le 7, 3) := by decide +kernel
theorem dX7_proposes_72 : decode cX7_proposes 72 = .ok (.iconst 1, 1) := by decide +kernel
theorem dX7_proposes_73 : decode cX7_proposes 73 = .ok (.goto 4, 3) := by decide +kernel
theorem dX7_proposes_76 : decode cX7_proposes 76 = .ok (.iconst 0, 1) := by decide +kernel
theorem dX7_proposes_77 : decode cX7_proposes 77 = .ok (.istore 6, 2) := by decide +kernel
theorem dX7_proposes_79 : decode cX7_proposes 79 = .ok (.iload 6, 2) := by decide +kernel
theorem dX7_proposes_81 : decode cX7_proposes 81 = .ok (.ifCond .eq 29, 3) := by decide +kernel
theorem dX7_proposes_84 : decode cX7_proposes 84 = .ok (.iload 4, 2) := by decide +kernel
theorem dX7_proposes_86 : decode cX7_proposes 86 = .ok (.iconst (-1), 1) := by decide +kernel
theorem dX7_proposes_87 : decode cX7_proposes 87 = .ok (.if_icmp .eq 18, 3) := by decide +kernel
theorem dX7_proposes_90 : decode cX7_proposes 90 = .ok (.aload_n 0, 1) := by decide +kernel
theorem dX7_proposes_91 : decode cX7_proposes 91 = .ok (.iload 5, 2) := by decide +kernel
theorem dX7_proposes_93 : decode cX7_proposes 93 = .ok (.invokevirtual 96, 3) := by decide +kernel
theorem dX7_proposes_96 : decode cX7_proposes 96 = .ok (.aload_n 0, 1) := by decide +kernel
theorem dX7_proposes_97 : decode cX7_proposes 97 = .ok (.iload 4, 2) := by decide +kernel
theorem dX7_proposes_99 : decode cX7_proposes 99 = .ok (.invokevirtual 96, 3) := by decide +kernel
theorem dX7_proposes_102 : decode cX7_proposes 102 = .ok (.if_icmp .le 8, 3) := by decide +kernel
theorem dX7_proposes_105 : decode cX7_proposes 105 = .ok (.iload 5, 2) := by decide +kernel
theorem dX7_proposes_107 : decode cX7_proposes 107 = .ok (.goto 5, 3) := by decide +kernel
theorem dX7_proposes_110 : decode cX7_proposes 110 = .ok (.iload 4, 2) := by decide +kernel
theorem dX7_proposes_112 : decode cX7_proposes 112 = .ok (.istore 4, 2) := by decide +kernel
theorem dX7_proposes_114 : decode cX7_proposes 114 = .ok (.iinc 5 1, 3) := by decide +kernel
theorem dX7_proposes_117 : decode cX7_proposes 117 = .ok (.goto (-89), 3) := by decide +kernel
theorem dX7_proposes_120 : decode cX7_proposes 120 = .ok (.iload 4, 2) := by decide +kernel
theorem dX7_proposes_122 : decode cX7_proposes 122 = .ok (.iconst (-1), 1) := by decide +kernel
theorem dX7_proposes_123 : decode cX7_proposes 123 = .ok (.if_icmp .ne 4, 3) := by decide +kernel
theorem dX7_proposes_126 : decode cX7_proposes 126 = .ok (.return_, 1) := by decide +kernel
theorem dX7_proposes_127 : decode cX7_proposes 127 = .ok (.iload_n 1, 1) := by decide +kernel
theorem dX7_proposes_128 : decode cX7_proposes 128 = .ok (.iconst 1, 1) := by decide +kernel
theorem dX7_proposes_129 : decode cX7_proposes 129 = .ok (.iload 4, 2) := by decide +kernel
theorem dX7_proposes_131 : decode cX7_proposes 131 = .ok (.ishl, 1) := by decide +kernel
theorem dX7_proposes_132 : decode cX7_proposes 132 = .ok (.ior, 1) := by decide +kernel
theorem dX7_proposes_133 : decode cX7_proposes 133 = .ok (.istore_n 1, 1) := by decide +kernel
theorem dX7_proposes_134 : decode cX7_proposes 134 = .ok (.iconst 0, 1) := by decide +kernel
theorem dX7_proposes_135 : decode cX7_proposes 135 = .ok (.istore 5, 2) := by decide +kernel
theorem dX7_proposes_137 : decode cX7_proposes 137 = .ok (.iload 5, 2) := by decide +kernel
theorem dX7_proposes_139 : decode cX7_proposes 139 = .ok (.bipush 24, 2) := by decide +kernel
theorem dX7_proposes_141 : decode cX7_proposes 141 = .ok (.if_icmp .ge 30, 3) := by decide +kernel
theorem dX7_proposes_144 : decode cX7_proposes 144 = .ok (.iload_n 2, 1) := by decide +kernel
theorem dX7_proposes_145 : decode cX7_proposes 145 = .ok (.iload 5, 2) := by decide +kernel
theorem dX7_proposes_147 : decode cX7_proposes 147 = .ok (.ishr, 1) := by decide +kernel
theorem dX7_proposes_148 : decode cX7_proposes 148 = .ok (.iconst 1, 1) := by decide +kernel
theorem dX7_proposes_149 : decode cX7_proposes 149 = .ok (.iand, 1) := by decide +kernel
theorem dX7_proposes_150 : decode cX7_proposes 150 = .ok (.iconst 1, 1) := by decide +kernel
theorem dX7_proposes_151 : decode cX7_proposes 151 = .ok (.if_icmp .eq 14, 3) := by decide +kernel
theorem dX7_proposes_154 : decode cX7_proposes 154 = .ok (.aload_n 0, 1) := by decide +kernel
theorem dX7_proposes_155 : decode cX7_proposes 155 = .ok (.iload 4, 2) := by decide +kernel
theorem dX7_proposes_157 : decode cX7_proposes 157 = .ok (.iload 5, 2) := by decide +kernel
theorem dX7_proposes_159 : decode cX7_proposes 159 = .ok (.invokevirtual 92, 3) := by decide +kernel
theorem dX7_proposes_162 : decode cX7_proposes 162 = .ok (.ifCond .ne 9, 3) := by decide +kernel
theorem dX7_proposes_165 : decode cX7_proposes 165 = .ok (.iinc 5 1, 3) := by decide +kernel
theorem dX7_proposes_168 : decode cX7_proposes 168 = .ok (.goto (-31), 3) := by decide +kernel
theorem dX7_proposes_171 : decode cX7_proposes 171 = .ok (.iload 5, 2) := by decide +kernel
theorem dX7_proposes_173 : decode cX7_proposes 173 = .ok (.bipush 24, 2) := by decide +kernel
theorem dX7_proposes_175 : decode cX7_proposes 175 = .ok (.if_icmp .ge 42, 3) := by decide +kernel
theorem dX7_proposes_178 : decode cX7_proposes 178 = .ok (.iload_n 2, 1) := by decide +kernel
theorem dX7_proposes_179 : decode cX7_proposes 179 = .ok (.iconst 1, 1) := by decide +kernel
theorem dX7_proposes_180 : decode cX7_proposes 180 = .ok (.iload 5, 2) := by decide +kernel
theorem dX7_proposes_182 : decode cX7_proposes 182 = .ok (.ishl, 1) := by decide +kernel
theorem dX7_proposes_183 : decode cX7_proposes 183 = .ok (.ior, 1) := by decide +kernel
theorem dX7_proposes_184 : decode cX7_proposes 184 = .ok (.istore_n 2, 1) := by decide +kernel
theorem dX7_proposes_185 : decode cX7_proposes 185 = .ok (.aload_n 0, 1) := by decide +kernel
theorem dX7_proposes_186 : decode cX7_proposes 186 = .ok (.getfield 28, 3) := by decide +kernel
theorem dX7_proposes_189 : decode cX7_proposes 189 = .ok (.aload_n 0, 1) := by decide +kernel
theorem dX7_proposes_190 : decode cX7_proposes 190 = .ok (.getfield 99, 3) := by decide +kernel
theorem dX7_proposes_193 : decode cX7_proposes 193 = .ok (.iload 4, 2) := by decide +kernel
theorem dX7_proposes_195 : decode cX7_proposes 195 = .ok (.iastore, 1) := by decide +kernel
theorem dX7_proposes_196 : decode cX7_proposes 196 = .ok (.aload_n 0, 1) := by decide +kernel
theorem dX7_proposes_197 : decode cX7_proposes 197 = .ok (.getfield 31, 3) := by decide +kernel
theorem dX7_proposes_200 : decode cX7_proposes 200 = .ok (.aload_n 0, 1) := by decide +kernel
theorem dX7_proposes_201 : decode cX7_proposes 201 = .ok (.getfield 99, 3) := by decide +kernel
theorem dX7_proposes_204 : decode cX7_proposes 204 = .ok (.iload 5, 2) := by decide +kernel
theorem dX7_proposes_206 : decode cX7_proposes 206 = .ok (.iastore, 1) := by decide +kernel
theorem dX7_proposes_207 : decode cX7_proposes 207 = .ok (.aload_n 0, 1) := by decide +kernel
theorem dX7_proposes_208 : decode cX7_proposes 208 = .ok (.dup, 1) := by decide +kernel
theorem dX7_proposes_209 : decode cX7_proposes 209 = .ok (.getfield 99, 3) := by decide +kernel
theorem dX7_proposes_212 : decode cX7_proposes 212 = .ok (.iconst 1, 1) := by decide +kernel
theorem dX7_proposes_213 : decode cX7_proposes 213 = .ok (.iadd, 1) := by decide +kernel
theorem dX7_proposes_214 : decode cX7_proposes 214 = .ok (.putfield 99, 3) := by decide +kernel
theorem dX7_proposes_217 : decode cX7_proposes 217 = .ok (.iinc 3 1, 3) := by decide +kernel
theorem dX7_proposes_220 : decode cX7_proposes 220 = .ok (.goto (-209), 3) := by decide +kernel
theorem dX7_proposes_223 : decode cX7_proposes 223 = .ok (.return_, 1) := by decide +kernel
set_option maxRecDepth 20000 in
theorem ggX7_proposedWord_X7_fails : GoodIn wsX7_proposedWord wsX7_fails := goodIn_r _ [7, 8, 51, 52, 53, 54, 55, 56, 57, 58, 59, 60, 61, 62, 63, 64, 65, 66] (by decide +kernel) (by decide +kernel)
set_option maxRecDepth 20000 in
theorem gX7_proposedWord_X7_fails : GoodIn wsX7_proposedWord (wsV RX7 45 RX7 yX7_fails wsX7_fails) := goodIn_app (goodIn_of _ (by decide +kernel)) ggX7_proposedWord_X7_fails
set_option maxRecDepth 20000 in
theorem ggX7_proposedWord_X7_proposes : GoodIn wsX7_proposedWord wsX7_proposes := goodIn_r _ [12, 1, 13, 2, 14, 15, 16, 17, 6, 18, 19, 20, 21, 22, 23, 24, 25, 26, 27, 28, 29, 30, 31, 32, 33, 34, 35, 36, 37, 38, 39, 40, 41, 42, 43, 44, 45, 46, 47, 48, 49, 50, 51, 52, 53, 54, 55, 56, 57, 58, 59, 60, 61, 62, 63, 64, 65, 66] (by decide +kernel) (by decide +kernel)
set_option maxRecDepth 20000 in
theorem gX7_proposedWord_X7_proposes : GoodIn wsX7_proposedWord (wsV RX7 102 RX7 yX7_proposes wsX7_proposes) := goodIn_app (goodIn_of _ (by decide +kernel)) ggX7_proposedWord_X7_proposes
theorem dX7_proposedWord_0 : decode cX7_proposedWord 0 = .ok (.iload_n 1, 1) := by decide +kernel
theorem dX7_proposedWord_1 : decode cX7_proposedWord 1 = .ok (.iconst (-1), 1) := by decide +kernel
theorem dX7_proposedWord_2 : decode cX7_proposedWord 2 = .ok (.if_icmp .ge 10, 3) := by decide +kernel
theorem dX7_proposedWord_5 : decode cX7_proposedWord 5 = .ok (.aload_n 0, 1) := by decide +kernel
theorem dX7_proposedWord_6 : decode cX7_proposedWord 6 = .ok (.bipush (-2), 2) := by decide +kernel
theorem dX7_proposedWord_8 : decode cX7_proposedWord 8 = .ok (.invokevirtual 45, 3) := by decide +kernel
theorem dX7_proposedWord_11 : decode cX7_proposedWord 11 = .ok (.ireturn, 1) := by decide +kernel
theorem dX7_proposedWord_12 : decode cX7_proposedWord 12 = .ok (.aload_n 0, 1) := by decide +kernel
theorem dX7_proposedWord_13 : decode cX7_proposedWord 13 = .ok (.invokevirtual 102, 3) := by decide +kernel
theorem dX7_proposedWord_16 : decode cX7_proposedWord 16 = .ok (.iload_n 1, 1) := by decide +kernel
theorem dX7_proposedWord_17 : decode cX7_proposedWord 17 = .ok (.iconst (-1), 1) := by decide +kernel
theorem dX7_proposedWord_18 : decode cX7_proposedWord 18 = .ok (.if_icmp .ne 10, 3) := by decide +kernel
theorem dX7_proposedWord_21 : decode cX7_proposedWord 21 = .ok (.aload_n 0, 1) := by decide +kernel
theorem dX7_proposedWord_22 : decode cX7_proposedWord 22 = .ok (.getfield 99, 3) := by decide +kernel
theorem dX7_proposedWord_25 : decode cX7_proposedWord 25 = .ok (.goto 21, 3) := by decide +kernel
theorem dX7_proposedWord_28 : decode cX7_proposedWord 28 = .ok (.iload_n 1, 1) := by decide +kernel
theorem dX7_proposedWord_29 : decode cX7_proposedWord 29 = .ok (.aload_n 0, 1) := by decide +kernel
theorem dX7_proposedWord_30 : decode cX7_proposedWord 30 = .ok (.getfield 99, 3) := by decide +kernel
theorem dX7_proposedWord_33 : decode cX7_proposedWord 33 = .ok (.if_icmp .ge 12, 3) := by decide +kernel
theorem dX7_proposedWord_36 : decode cX7_proposedWord 36 = .ok (.aload_n 0, 1) := by decide +kernel
theorem dX7_proposedWord_37 : decode cX7_proposedWord 37 = .ok (.getfield 28, 3) := by decide +kernel
theorem dX7_proposedWord_40 : decode cX7_proposedWord 40 = .ok (.iload_n 1, 1) := by decide +kernel
theorem dX7_proposedWord_41 : decode cX7_proposedWord 41 = .ok (.iaload, 1) := by decide +kernel
theorem dX7_proposedWord_42 : decode cX7_proposedWord 42 = .ok (.goto 4, 3) := by decide +kernel
theorem dX7_proposedWord_45 : decode cX7_proposedWord 45 = .ok (.iconst (-1), 1) := by decide +kernel
theorem dX7_proposedWord_46 : decode cX7_proposedWord 46 = .ok (.ireturn, 1) := by decide +kernel
set_option maxRecDepth 20000 in
theorem ggX7_proposedStroke_X7_fails : GoodIn wsX7_proposedStroke wsX7_fails := goodIn_r _ [7, 8, 51, 52, 53, 54, 55, 56, 57, 58, 59, 60, 61, 62, 63, 64, 65, 66] (by decide +kernel) (by decide +kernel)
set_option maxRecDepth 20000 in
theorem gX7_proposedStroke_X7_fails : GoodIn wsX7_proposedStroke (wsV RX7 45 RX7 yX7_fails wsX7_fails) := goodIn_app (goodIn_of _ (by decide +kernel)) ggX7_proposedStroke_X7_fails
set_option maxRecDepth 20000 in
theorem ggX7_proposedStroke_X7_proposes : GoodIn wsX7_proposedStroke wsX7_proposes := goodIn_r _ [12, 1, 13, 14, 2, 15, 16, 17, 6, 18, 19, 20, 21, 22, 23, 24, 25, 26, 27, 28, 29, 30, 31, 32, 33, 34, 35, 36, 37, 38, 39, 40, 41, 42, 43, 44, 45, 46, 47, 48, 49, 50, 51, 52, 53, 54, 55, 56, 57, 58, 59, 60, 61, 62, 63, 64, 65, 66] (by decide +kernel) (by decide +kernel)
set_option maxRecDepth 20000 in
theorem gX7_proposedStroke_X7_proposes : GoodIn wsX7_proposedStroke (wsV RX7 102 RX7 yX7_proposes wsX7_proposes) := goodIn_app (goodIn_of _ (by decide +kernel)) ggX7_proposedStroke_X7_proposes
theorem dX7_proposedStroke_0 : decode cX7_proposedStroke 0 = .ok (.iload_n 1, 1) := by decide +kernel
theorem dX7_proposedStroke_1 : decode cX7_proposedStroke 1 = .ok (.ifCond .ge 10, 3) := by decide +kernel
theorem dX7_proposedStroke_4 : decode cX7_proposedStroke 4 = .ok (.aload_n 0, 1) := by decide +kernel
theorem dX7_proposedStroke_5 : decode cX7_proposedStroke 5 = .ok (.bipush (-2), 2) := by decide +kernel
theorem dX7_proposedStroke_7 : decode cX7_proposedStroke 7 = .ok (.invokevirtual 45, 3) := by decide +kernel
theorem dX7_proposedStroke_10 : decode cX7_proposedStroke 10 = .ok (.ireturn, 1) := by decide +kernel
theorem dX7_proposedStroke_11 : decode cX7_proposedStroke 11 = .ok (.aload_n 0, 1) := by decide +kernel
theorem dX7_proposedStroke_12 : decode cX7_proposedStroke 12 = .ok (.invokevirtual 102, 3) := by decide +kernel
theorem dX7_proposedStroke_15 : decode cX7_proposedStroke 15 = .ok (.iload_n 1, 1) := by decide +kernel
theorem dX7_proposedStroke_16 : decode cX7_proposedStroke 16 = .ok (.aload_n 0, 1) := by decide +kernel
theorem dX7_proposedStroke_17 : decode cX7_proposedStroke 17 = .ok (.getfield 99, 3) := by decide +kernel
theorem dX7_proposedStroke_20 : decode cX7_proposedStroke 20 = .ok (.if_icmp .ge 12, 3) := by decide +kernel
theorem dX7_proposedStroke_23 : decode cX7_proposedStroke 23 = .ok (.aload_n 0, 1) := by decide +kernel
theorem dX7_proposedStroke_24 : decode cX7_proposedStroke 24 = .ok (.getfield 31, 3) := by decide +kernel
theorem dX7_proposedStroke_27 : decode cX7_proposedStroke 27 = .ok (.iload_n 1, 1) := by decide +kernel
theorem dX7_proposedStroke_28 : decode cX7_proposedStroke 28 = .ok (.iaload, 1) := by decide +kernel
theorem dX7_proposedStroke_29 : decode cX7_proposedStroke 29 = .ok (.goto 4, 3) := by decide +kernel
theorem dX7_proposedStroke_32 : decode cX7_proposedStroke 32 = .ok (.iconst (-1), 1) := by decide +kernel
theorem dX7_proposedStroke_33 : decode cX7_proposedStroke 33 = .ok (.ireturn, 1) := by decide +kernel
set_option maxRecDepth 20000 in
theorem ggX7_acceptProposal_X7_saves : GoodIn wsX7_acceptProposal wsX7_saves := goodIn_r _ [9, 10, 11, 2, 52, 53, 54, 55, 56, 57, 58, 59, 60, 61, 62, 63, 64, 65, 66, 67] (by decide +kernel) (by decide +kernel)
set_option maxRecDepth 20000 in
theorem gX7_acceptProposal_X7_saves : GoodIn wsX7_acceptProposal (wsV RX7 53 RX7 yX7_saves wsX7_saves) := goodIn_app (goodIn_of _ (by decide +kernel)) ggX7_acceptProposal_X7_saves
set_option maxRecDepth 20000 in
theorem ggX7_acceptProposal_X7_proposes : GoodIn wsX7_acceptProposal wsX7_proposes := goodIn_r _ [15, 1, 2, 3, 4, 16, 17, 18, 8, 19, 20, 21, 22, 23, 24, 25, 26, 27, 28, 29, 30, 31, 32, 33, 34, 35, 36, 37, 38, 39, 40, 41, 42, 43, 44, 45, 46, 47, 48, 49, 50, 51, 52, 53, 54, 55, 56, 57, 58, 59, 60, 61, 62, 63, 64, 65, 66, 67] (by decide +kernel) (by decide +kernel)
set_option maxRecDepth 20000 in
theorem gX7_acceptProposal_X7_proposes : GoodIn wsX7_acceptProposal (wsV RX7 102 RX7 yX7_proposes wsX7_proposes) := goodIn_app (goodIn_of _ (by decide +kernel)) ggX7_acceptProposal_X7_proposes
theorem dX7_acceptProposal_0 : decode cX7_acceptProposal 0 = .ok (.aload_n 0, 1) := by decide +kernel
theorem dX7_acceptProposal_1 : decode cX7_acceptProposal 1 = .ok (.invokevirtual 53, 3) := by decide +kernel
theorem dX7_acceptProposal_4 : decode cX7_acceptProposal 4 = .ok (.aload_n 0, 1) := by decide +kernel
theorem dX7_acceptProposal_5 : decode cX7_acceptProposal 5 = .ok (.invokevirtual 102, 3) := by decide +kernel
theorem dX7_acceptProposal_8 : decode cX7_acceptProposal 8 = .ok (.iconst 0, 1) := by decide +kernel
theorem dX7_acceptProposal_9 : decode cX7_acceptProposal 9 = .ok (.istore_n 1, 1) := by decide +kernel
theorem dX7_acceptProposal_10 : decode cX7_acceptProposal 10 = .ok (.iload_n 1, 1) := by decide +kernel
theorem dX7_acceptProposal_11 : decode cX7_acceptProposal 11 = .ok (.aload_n 0, 1) := by decide +kernel
theorem dX7_acceptProposal_12 : decode cX7_acceptProposal 12 = .ok (.getfield 99, 3) := by decide +kernel
theorem dX7_acceptProposal_15 : decode cX7_acceptProposal 15 = .ok (.if_icmp .ge 29, 3) := by decide +kernel
theorem dX7_acceptProposal_18 : decode cX7_acceptProposal 18 = .ok (.aload_n 0, 1) := by decide +kernel
theorem dX7_acceptProposal_19 : decode cX7_acceptProposal 19 = .ok (.getfield 7, 3) := by decide +kernel
theorem dX7_acceptProposal_22 : decode cX7_acceptProposal 22 = .ok (.bipush 42, 2) := by decide +kernel
theorem dX7_acceptProposal_24 : decode cX7_acceptProposal 24 = .ok (.aload_n 0, 1) := by decide +kernel
theorem dX7_acceptProposal_25 : decode cX7_acceptProposal 25 = .ok (.getfield 28, 3) := by decide +kernel
theorem dX7_acceptProposal_28 : decode cX7_acceptProposal 28 = .ok (.iload_n 1, 1) := by decide +kernel
theorem dX7_acceptProposal_29 : decode cX7_acceptProposal 29 = .ok (.iaload, 1) := by decide +kernel
theorem dX7_acceptProposal_30 : decode cX7_acceptProposal 30 = .ok (.iadd, 1) := by decide +kernel
theorem dX7_acceptProposal_31 : decode cX7_acceptProposal 31 = .ok (.aload_n 0, 1) := by decide +kernel
theorem dX7_acceptProposal_32 : decode cX7_acceptProposal 32 = .ok (.getfield 31, 3) := by decide +kernel
theorem dX7_acceptProposal_35 : decode cX7_acceptProposal 35 = .ok (.iload_n 1, 1) := by decide +kernel
theorem dX7_acceptProposal_36 : decode cX7_acceptProposal 36 = .ok (.iaload, 1) := by decide +kernel
theorem dX7_acceptProposal_37 : decode cX7_acceptProposal 37 = .ok (.iastore, 1) := by decide +kernel
theorem dX7_acceptProposal_38 : decode cX7_acceptProposal 38 = .ok (.iinc 1 1, 3) := by decide +kernel
theorem dX7_acceptProposal_41 : decode cX7_acceptProposal 41 = .ok (.goto (-31), 3) := by decide +kernel
theorem dX7_acceptProposal_44 : decode cX7_acceptProposal 44 = .ok (.aload_n 0, 1) := by decide +kernel
theorem dX7_acceptProposal_45 : decode cX7_acceptProposal 45 = .ok (.getfield 99, 3) := by decide +kernel
theorem dX7_acceptProposal_48 : decode cX7_acceptProposal 48 = .ok (.ireturn, 1) := by decide +kernel
set_option maxRecDepth 20000 in
theorem ggX7_write_X7_isCode : GoodIn wsX7_write wsX7_isCode := goodIn_r _ [6, 7, 8, 5, 9] (by decide +kernel) (by decide +kernel)
set_option maxRecDepth 20000 in
theorem gX7_write_X7_isCode : GoodIn wsX7_write (va_wsS RX7 49 yX7_isCode wsX7_isCode) := goodIn_app (goodIn_of _ (by decide +kernel)) ggX7_write_X7_isCode
set_option maxRecDepth 20000 in
theorem ggX7_write_X7_fails : GoodIn wsX7_write wsX7_fails := goodIn_r _ [13, 14, 15, 16, 17, 18, 19, 20, 21, 22, 23, 24, 25, 26, 27, 28, 29, 30] (by decide +kernel) (by decide +kernel)
set_option maxRecDepth 20000 in
theorem gX7_write_X7_fails : GoodIn wsX7_write (wsV RX7 45 RX7 yX7_fails wsX7_fails) := goodIn_app (goodIn_of _ (by decide +kernel)) ggX7_write_X7_fails
theorem dX7_write_0 : decode cX7_write 0 = .ok (.iload_n 1, 1) := by decide +kernel
theorem dX7_write_1 : decode cX7_write 1 = .ok (.invokestatic 49, 3) := by decide +kernel
theorem dX7_write_4 : decode cX7_write 4 = .ok (.ifCond .ne 10, 3) := by decide +kernel
theorem dX7_write_7 : decode cX7_write 7 = .ok (.aload_n 0, 1) := by decide +kernel
theorem dX7_write_8 : decode cX7_write 8 = .ok (.bipush (-2), 2) := by decide +kernel
theorem dX7_write_10 : decode cX7_write 10 = .ok (.invokevirtual 45, 3) := by decide +kernel
theorem dX7_write_13 : decode cX7_write 13 = .ok (.ireturn, 1) := by decide +kernel
theorem dX7_write_14 : decode cX7_write 14 = .ok (.aload_n 0, 1) := by decide +kernel
theorem dX7_write_15 : decode cX7_write 15 = .ok (.getfield 105, 3) := by decide +kernel
theorem dX7_write_18 : decode cX7_write 18 = .ok (.bipush 8, 2) := by decide +kernel
theorem dX7_write_20 : decode cX7_write 20 = .ok (.if_icmp .ne 10, 3) := by decide +kernel
theorem dX7_write_23 : decode cX7_write 23 = .ok (.aload_n 0, 1) := by decide +kernel
theorem dX7_write_24 : decode cX7_write 24 = .ok (.bipush (-4), 2) := by decide +kernel
theorem dX7_write_26 : decode cX7_write 26 = .ok (.invokevirtual 45, 3) := by decide +kernel
theorem dX7_write_29 : decode cX7_write 29 = .ok (.ireturn, 1) := by decide +kernel
theorem dX7_write_30 : decode cX7_write 30 = .ok (.aload_n 0, 1) := by decide +kernel
theorem dX7_write_31 : decode cX7_write 31 = .ok (.getfield 22, 3) := by decide +kernel
theorem dX7_write_34 : decode cX7_write 34 = .ok (.aload_n 0, 1) := by decide +kernel
theorem dX7_write_35 : decode cX7_write 35 = .ok (.getfield 105, 3) := by decide +kernel
theorem dX7_write_38 : decode cX7_write 38 = .ok (.iload_n 1, 1) := by decide +kernel
theorem dX7_write_39 : decode cX7_write 39 = .ok (.iastore, 1) := by decide +kernel
theorem dX7_write_40 : decode cX7_write 40 = .ok (.aload_n 0, 1) := by decide +kernel
theorem dX7_write_41 : decode cX7_write 41 = .ok (.dup, 1) := by decide +kernel
theorem dX7_write_42 : decode cX7_write 42 = .ok (.getfield 105, 3) := by decide +kernel
theorem dX7_write_45 : decode cX7_write 45 = .ok (.iconst 1, 1) := by decide +kernel
theorem dX7_write_46 : decode cX7_write 46 = .ok (.iadd, 1) := by decide +kernel
theorem dX7_write_47 : decode cX7_write 47 = .ok (.putfield 105, 3) := by decide +kernel
theorem dX7_write_50 : decode cX7_write 50 = .ok (.aload_n 0, 1) := by decide +kernel
theorem dX7_write_51 : decode cX7_write 51 = .ok (.getfield 105, 3) := by decide +kernel
theorem dX7_write_54 : decode cX7_write 54 = .ok (.ireturn, 1) := by decide +kernel
theorem dX7_clearPad_0 : decode cX7_clearPad 0 = .ok (.aload_n 0, 1) := by decide +kernel
theorem dX7_clearPad_1 : decode cX7_clearPad 1 = .ok (.getfield 105, 3) := by decide +kernel
theorem dX7_clearPad_4 : decode cX7_clearPad 4 = .ok (.istore_n 1, 1) := by decide +kernel
theorem dX7_clearPad_5 : decode cX7_clearPad 5 = .ok (.aload_n 0, 1) := by decide +kernel
theorem dX7_clearPad_6 : decode cX7_clearPad 6 = .ok (.iconst 0, 1) := by decide +kernel
theorem dX7_clearPad_7 : decode cX7_clearPad 7 = .ok (.putfield 105, 3) := by decide +kernel
theorem dX7_clearPad_10 : decode cX7_clearPad 10 = .ok (.iload_n 1, 1) := by decide +kernel
theorem dX7_clearPad_11 : decode cX7_clearPad 11 = .ok (.ireturn, 1) := by decide +kernel
set_option maxRecDepth 20000 in
theorem ggX7_differs_X7_turn : GoodIn wsX7_differs wsX7_turn := goodIn_r _ [4] (by decide +kernel) (by decide +kernel)
set_option maxRecDepth 20000 in
theorem gX7_differs_X7_turn : GoodIn wsX7_differs (va_wsS RX7 66 yX7_turn wsX7_turn) := goodIn_app (goodIn_of _ (by decide +kernel)) ggX7_differs_X7_turn
theorem dX7_differs_0 : decode cX7_differs 0 = .ok (.iload_n 0, 1) := by decide +kernel
theorem dX7_differs_1 : decode cX7_differs 1 = .ok (.iconst 3, 1) := by decide +kernel
theorem dX7_differs_2 : decode cX7_differs 2 = .ok (.irem, 1) := by decide +kernel
theorem dX7_differs_3 : decode cX7_differs 3 = .ok (.iload_n 1, 1) := by decide +kernel
theorem dX7_differs_4 : decode cX7_differs 4 = .ok (.iconst 3, 1) := by decide +kernel
theorem dX7_differs_5 : decode cX7_differs 5 = .ok (.irem, 1) := by decide +kernel
theorem dX7_differs_6 : decode cX7_differs 6 = .ok (.isub, 1) := by decide +kernel
theorem dX7_differs_7 : decode cX7_differs 7 = .ok (.istore_n 2, 1) := by decide +kernel
theorem dX7_differs_8 : decode cX7_differs 8 = .ok (.iload_n 0, 1) := by decide +kernel
theorem dX7_differs_9 : decode cX7_differs 9 = .ok (.iload_n 1, 1) := by decide +kernel
theorem dX7_differs_10 : decode cX7_differs 10 = .ok (.invokestatic 66, 3) := by decide +kernel
theorem dX7_differs_13 : decode cX7_differs 13 = .ok (.iload_n 2, 1) := by decide +kernel
theorem dX7_differs_14 : decode cX7_differs 14 = .ok (.ifCond .ge 8, 3) := by decide +kernel
theorem dX7_differs_17 : decode cX7_differs 17 = .ok (.iload_n 2, 1) := by decide +kernel
theorem dX7_differs_18 : decode cX7_differs 18 = .ok (.ineg, 1) := by decide +kernel
theorem dX7_differs_19 : decode cX7_differs 19 = .ok (.goto 4, 3) := by decide +kernel
theorem dX7_differs_22 : decode cX7_differs 22 = .ok (.iload_n 2, 1) := by decide +kernel
theorem dX7_differs_23 : decode cX7_differs 23 = .ok (.iadd, 1) := by decide +kernel
theorem dX7_differs_24 : decode cX7_differs 24 = .ok (.ireturn, 1) := by decide +kernel
set_option maxRecDepth 20000 in
theorem ggX7_doubtOf_X7_laysSounds : GoodIn wsX7_doubtOf wsX7_laysSounds := goodIn_r _ [10, 4, 1, 5, 17, 18, 19, 20, 21, 22, 23, 24, 25, 26, 27, 28, 29, 30, 31, 32] (by decide +kernel) (by decide +kernel)
set_option maxRecDepth 20000 in
theorem gX7_doubtOf_X7_laysSounds : GoodIn wsX7_doubtOf (wsV RX7 79 RX7 yX7_laysSounds wsX7_laysSounds) := goodIn_app (goodIn_of _ (by decide +kernel)) ggX7_doubtOf_X7_laysSounds
set_option maxRecDepth 20000 in
theorem ggX7_doubtOf_X7_differs : GoodIn wsX7_doubtOf wsX7_differs := goodIn_r _ [13, 14, 15, 9, 16] (by decide +kernel) (by decide +kernel)
set_option maxRecDepth 20000 in
theorem gX7_doubtOf_X7_differs : GoodIn wsX7_doubtOf (va_wsS RX7 108 yX7_differs wsX7_differs) := goodIn_app (goodIn_of _ (by decide +kernel)) ggX7_doubtOf_X7_differs
theorem dX7_doubtOf_0 : decode cX7_doubtOf 0 = .ok (.aload_n 0, 1) := by decide +kernel
theorem dX7_doubtOf_1 : decode cX7_doubtOf 1 = .ok (.getfield 7, 3) := by decide +kernel
theorem dX7_doubtOf_4 : decode cX7_doubtOf 4 = .ok (.bipush 42, 2) := by decide +kernel
theorem dX7_doubtOf_6 : decode cX7_doubtOf 6 = .ok (.iload_n 1, 1) := by decide +kernel
theorem dX7_doubtOf_7 : decode cX7_doubtOf 7 = .ok (.iadd, 1) := by decide +kernel
theorem dX7_doubtOf_8 : decode cX7_doubtOf 8 = .ok (.iaload, 1) := by decide +kernel
theorem dX7_doubtOf_9 : decode cX7_doubtOf 9 = .ok (.istore_n 2, 1) := by decide +kernel
theorem dX7_doubtOf_10 : decode cX7_doubtOf 10 = .ok (.aload_n 0, 1) := by decide +kernel
theorem dX7_doubtOf_11 : decode cX7_doubtOf 11 = .ok (.iload_n 1, 1) := by decide +kernel
theorem dX7_doubtOf_12 : decode cX7_doubtOf 12 = .ok (.invokevirtual 79, 3) := by decide +kernel
theorem dX7_doubtOf_15 : decode cX7_doubtOf 15 = .ok (.bipush 99, 2) := by decide +kernel
theorem dX7_doubtOf_17 : decode cX7_doubtOf 17 = .ok (.istore_n 3, 1) := by decide +kernel
theorem dX7_doubtOf_18 : decode cX7_doubtOf 18 = .ok (.iload_n 2, 1) := by decide +kernel
theorem dX7_doubtOf_19 : decode cX7_doubtOf 19 = .ok (.iconst (-1), 1) := by decide +kernel
theorem dX7_doubtOf_20 : decode cX7_doubtOf 20 = .ok (.if_icmp .eq 30, 3) := by decide +kernel
theorem dX7_doubtOf_23 : decode cX7_doubtOf 23 = .ok (.aload_n 0, 1) := by decide +kernel
theorem dX7_doubtOf_24 : decode cX7_doubtOf 24 = .ok (.getfield 105, 3) := by decide +kernel
theorem dX7_doubtOf_27 : decode cX7_doubtOf 27 = .ok (.iconst 1, 1) := by decide +kernel
theorem dX7_doubtOf_28 : decode cX7_doubtOf 28 = .ok (.if_icmp .ne 16, 3) := by decide +kernel
theorem dX7_doubtOf_31 : decode cX7_doubtOf 31 = .ok (.aload_n 0, 1) := by decide +kernel
theorem dX7_doubtOf_32 : decode cX7_doubtOf 32 = .ok (.getfield 22, 3) := by decide +kernel
theorem dX7_doubtOf_35 : decode cX7_doubtOf 35 = .ok (.iconst 0, 1) := by decide +kernel
theorem dX7_doubtOf_36 : decode cX7_doubtOf 36 = .ok (.iaload, 1) := by decide +kernel
theorem dX7_doubtOf_37 : decode cX7_doubtOf 37 = .ok (.iload_n 2, 1) := by decide +kernel
theorem dX7_doubtOf_38 : decode cX7_doubtOf 38 = .ok (.invokestatic 108, 3) := by decide +kernel
theorem dX7_doubtOf_41 : decode cX7_doubtOf 41 = .ok (.goto 5, 3) := by decide +kernel
theorem dX7_doubtOf_44 : decode cX7_doubtOf 44 = .ok (.bipush 99, 2) := by decide +kernel
theorem dX7_doubtOf_46 : decode cX7_doubtOf 46 = .ok (.istore_n 3, 1) := by decide +kernel
theorem dX7_doubtOf_47 : decode cX7_doubtOf 47 = .ok (.goto 128, 3) := by decide +kernel
theorem dX7_doubtOf_50 : decode cX7_doubtOf 50 = .ok (.aload_n 0, 1) := by decide +kernel
theorem dX7_doubtOf_51 : decode cX7_doubtOf 51 = .ok (.getfield 70, 3) := by decide +kernel
theorem dX7_doubtOf_54 : decode cX7_doubtOf 54 = .ok (.aload_n 0, 1) := by decide +kernel
theorem dX7_doubtOf_55 : decode cX7_doubtOf 55 = .ok (.getfield 105, 3) := by decide +kernel
theorem dX7_doubtOf_58 : decode cX7_doubtOf 58 = .ok (.if_icmp .ne 117, 3) := by decide +kernel
theorem dX7_doubtOf_61 : decode cX7_doubtOf 61 = .ok (.iconst 0, 1) := by decide +kernel
theorem dX7_doubtOf_62 : decode cX7_doubtOf 62 = .ok (.istore_n 3, 1) := by decide +kernel
theorem dX7_doubtOf_63 : decode cX7_doubtOf 63 = .ok (.iconst 0, 1) := by decide +kernel
theorem dX7_doubtOf_64 : decode cX7_doubtOf 64 = .ok (.istore 4, 2) := by decide +kernel
theorem dX7_doubtOf_66 : decode cX7_doubtOf 66 = .ok (.iload 4, 2) := by decide +kernel
theorem dX7_doubtOf_68 : decode cX7_doubtOf 68 = .ok (.aload_n 0, 1) := by decide +kernel
theorem dX7_doubtOf_69 : decode cX7_doubtOf 69 = .ok (.getfield 70, 3) := by decide +kernel
theorem dX7_doubtOf_72 : decode cX7_doubtOf 72 = .ok (.if_icmp .ge 103, 3) := by decide +kernel
theorem dX7_doubtOf_75 : decode cX7_doubtOf 75 = .ok (.aload_n 0, 1) := by decide +kernel
theorem dX7_doubtOf_76 : decode cX7_doubtOf 76 = .ok (.getfield 22, 3) := by decide +kernel
theorem dX7_doubtOf_79 : decode cX7_doubtOf 79 = .ok (.iload 4, 2) := by decide +kernel
theorem dX7_doubtOf_81 : decode cX7_doubtOf 81 = .ok (.iaload, 1) := by decide +kernel
theorem dX7_doubtOf_82 : decode cX7_doubtOf 82 = .ok (.aload_n 0, 1) := by decide +kernel
theorem dX7_doubtOf_83 : decode cX7_doubtOf 83 = .ok (.getfield 7, 3) := by decide +kernel
theorem dX7_doubtOf_86 : decode cX7_doubtOf 86 = .ok (.iconst 1, 1) := by decide +kernel
theorem dX7_doubtOf_87 : decode cX7_doubtOf 87 = .ok (.aload_n 0, 1) := by decide +kernel
theorem dX7_doubtOf_88 : decode cX7_doubtOf 88 = .ok (.getfield 25, 3) := by decide +kernel
theorem dX7_doubtOf_91 : decode cX7_doubtOf 91 = .ok (.iload 4, 2) := by decide +kernel
theorem dX7_doubtOf_93 : decode cX7_doubtOf 93 = .ok (.iaload, 1) := by decide +kernel
theorem dX7_doubtOf_94 : decode cX7_doubtOf 94 = .ok (.iadd, 1) := by decide +kernel
theorem dX7_doubtOf_95 : decode cX7_doubtOf 95 = .ok (.iaload, 1) := by decide +kernel
theorem dX7_doubtOf_96 : decode cX7_doubtOf 96 = .ok (.invokestatic 108, 3) := by decide +kernel
theorem dX7_doubtOf_99 : decode cX7_doubtOf 99 = .ok (.istore 5, 2) := by decide +kernel
theorem dX7_doubtOf_101 : decode cX7_doubtOf 101 = .ok (.aload_n 0, 1) := by decide +kernel
theorem dX7_doubtOf_102 : decode cX7_doubtOf 102 = .ok (.getfield 7, 3) := by decide +kernel
theorem dX7_doubtOf_105 : decode cX7_doubtOf 105 = .ok (.bipush 9, 2) := by decide +kernel
theorem dX7_doubtOf_107 : decode cX7_doubtOf 107 = .ok (.aload_n 0, 1) := by decide +kernel
theorem dX7_doubtOf_108 : decode cX7_doubtOf 108 = .ok (.getfield 25, 3) := by decide +kernel
theorem dX7_doubtOf_111 : decode cX7_doubtOf 111 = .ok (.iload 4, 2) := by decide +kernel
theorem dX7_doubtOf_113 : decode cX7_doubtOf 113 = .ok (.iaload, 1) := by decide +kernel
theorem dX7_doubtOf_114 : decode cX7_doubtOf 114 = .ok (.iadd, 1) := by decide +kernel
theorem dX7_doubtOf_115 : decode cX7_doubtOf 115 = .ok (.iaload, 1) := by decide +kernel
theorem dX7_doubtOf_116 : decode cX7_doubtOf 116 = .ok (.iconst (-1), 1) := by decide +kernel
theorem dX7_doubtOf_117 : decode cX7_doubtOf 117 = .ok (.if_icmp .ne 8, 3) := by decide +kernel
theorem dX7_doubtOf_120 : decode cX7_doubtOf 120 = .ok (.bipush 99, 2) := by decide +kernel
theorem dX7_doubtOf_122 : decode cX7_doubtOf 122 = .ok (.goto 28, 3) := by decide +kernel
theorem dX7_doubtOf_125 : decode cX7_doubtOf 125 = .ok (.aload_n 0, 1) := by decide +kernel
theorem dX7_doubtOf_126 : decode cX7_doubtOf 126 = .ok (.getfield 22, 3) := by decide +kernel
theorem dX7_doubtOf_129 : decode cX7_doubtOf 129 = .ok (.iload 4, 2) := by decide +kernel
theorem dX7_doubtOf_131 : decode cX7_doubtOf 131 = .ok (.iaload, 1) := by decide +kernel
theorem dX7_doubtOf_132 : decode cX7_doubtOf 132 = .ok (.aload_n 0, 1) := by decide +kernel
theorem dX7_doubtOf_133 : decode cX7_doubtOf 133 = .ok (.getfield 7, 3) := by decide +kernel
theorem dX7_doubtOf_136 : decode cX7_doubtOf 136 = .ok (.bipush 9, 2) := by decide +kernel
theorem dX7_doubtOf_138 : decode cX7_doubtOf 138 = .ok (.aload_n 0, 1) := by decide +kernel
theorem dX7_doubtOf_139 : decode cX7_doubtOf 139 = .ok (.getfield 25, 3) := by decide +kernel
theorem dX7_doubtOf_142 : decode cX7_doubtOf 142 = .ok (.iload 4, 2) := by decide +kernel
theorem dX7_doubtOf_144 : decode cX7_doubtOf 144 = .ok (.iaload, 1) := by decide +kernel
theorem dX7_doubtOf_145 : decode cX7_doubtOf 145 = .ok (.iadd, 1) := by decide +kernel
theorem dX7_doubtOf_146 : decode cX7_doubtOf 146 = .ok (.iaload, 1) := by decide +kernel
theorem dX7_doubtOf_147 : decode cX7_doubtOf 147 = .ok (.invokestatic 108, 3) := by decide +kernel
theorem dX7_doubtOf_150 : decode cX7_doubtOf 150 = .ok (.istore 6, 2) := by decide +kernel
theorem dX7_doubtOf_152 : decode cX7_doubtOf 152 = .ok (.iload_n 3, 1) := by decide +kernel
theorem dX7_doubtOf_153 : decode cX7_doubtOf 153 = .ok (.iload 5, 2) := by decide +kernel
theorem dX7_doubtOf_155 : decode cX7_doubtOf 155 = .ok (.iload 6, 2) := by decide +kernel
theorem dX7_doubtOf_157 : decode cX7_doubtOf 157 = .ok (.if_icmp .ge 8, 3) := by decide +kernel
theorem dX7_doubtOf_160 : decode cX7_doubtOf 160 = .ok (.iload 5, 2) := by decide +kernel
theorem dX7_doubtOf_162 : decode cX7_doubtOf 162 = .ok (.goto 5, 3) := by decide +kernel
theorem dX7_doubtOf_165 : decode cX7_doubtOf 165 = .ok (.iload 6, 2) := by decide +kernel
theorem dX7_doubtOf_167 : decode cX7_doubtOf 167 = .ok (.iadd, 1) := by decide +kernel
theorem dX7_doubtOf_168 : decode cX7_doubtOf 168 = .ok (.istore_n 3, 1) := by decide +kernel
theorem dX7_doubtOf_169 : decode cX7_doubtOf 169 = .ok (.iinc 4 1, 3) := by decide +kernel
theorem dX7_doubtOf_172 : decode cX7_doubtOf 172 = .ok (.goto (-106), 3) := by decide +kernel
theorem dX7_doubtOf_175 : decode cX7_doubtOf 175 = .ok (.iload_n 3, 1) := by decide +kernel
theorem dX7_doubtOf_176 : decode cX7_doubtOf 176 = .ok (.iconst 3, 1) := by decide +kernel
theorem dX7_doubtOf_177 : decode cX7_doubtOf 177 = .ok (.if_icmp .le 7, 3) := by decide +kernel
theorem dX7_doubtOf_180 : decode cX7_doubtOf 180 = .ok (.iconst (-1), 1) := by decide +kernel
theorem dX7_doubtOf_181 : decode cX7_doubtOf 181 = .ok (.goto 4, 3) := by decide +kernel
theorem dX7_doubtOf_184 : decode cX7_doubtOf 184 = .ok (.iload_n 3, 1) := by decide +kernel
theorem dX7_doubtOf_185 : decode cX7_doubtOf 185 = .ok (.ireturn, 1) := by decide +kernel
set_option maxRecDepth 20000 in
theorem ggX7_isAhead_X7_doubtOf : GoodIn wsX7_isAhead wsX7_doubtOf := goodIn_r _ [6, 1, 7, 8, 9, 10, 11, 12, 13, 5, 14, 15, 16, 17, 18, 19, 20, 21, 22, 23, 24, 25, 26, 27, 28, 29, 30, 31, 32, 33, 34, 35, 36] (by decide +kernel) (by decide +kernel)
set_option maxRecDepth 20000 in
theorem gX7_isAhead_X7_doubtOf : GoodIn wsX7_isAhead (wsV RX7 111 RX7 yX7_doubtOf wsX7_doubtOf) := goodIn_app (goodIn_of _ (by decide +kernel)) ggX7_isAhead_X7_doubtOf
theorem dX7_isAhead_0 : decode cX7_isAhead 0 = .ok (.aload_n 0, 1) := by decide +kernel
theorem dX7_isAhead_1 : decode cX7_isAhead 1 = .ok (.iload_n 1, 1) := by decide +kernel
theorem dX7_isAhead_2 : decode cX7_isAhead 2 = .ok (.invokevirtual 111, 3) := by decide +kernel
theorem dX7_isAhead_5 : decode cX7_isAhead 5 = .ok (.aload_n 0, 1) := by decide +kernel
theorem dX7_isAhead_6 : decode cX7_isAhead 6 = .ok (.iload_n 2, 1) := by decide +kernel
theorem dX7_isAhead_7 : decode cX7_isAhead 7 = .ok (.invokevirtual 111, 3) := by decide +kernel
theorem dX7_isAhead_10 : decode cX7_isAhead 10 = .ok (.isub, 1) := by decide +kernel
theorem dX7_isAhead_11 : decode cX7_isAhead 11 = .ok (.istore_n 3, 1) := by decide +kernel
theorem dX7_isAhead_12 : decode cX7_isAhead 12 = .ok (.aload_n 0, 1) := by decide +kernel
theorem dX7_isAhead_13 : decode cX7_isAhead 13 = .ok (.getfield 7, 3) := by decide +kernel
theorem dX7_isAhead_16 : decode cX7_isAhead 16 = .ok (.bipush 30, 2) := by decide +kernel
theorem dX7_isAhead_18 : decode cX7_isAhead 18 = .ok (.iload_n 1, 1) := by decide +kernel
theorem dX7_isAhead_19 : decode cX7_isAhead 19 = .ok (.iadd, 1) := by decide +kernel
theorem dX7_isAhead_20 : decode cX7_isAhead 20 = .ok (.iaload, 1) := by decide +kernel
theorem dX7_isAhead_21 : decode cX7_isAhead 21 = .ok (.aload_n 0, 1) := by decide +kernel
theorem dX7_isAhead_22 : decode cX7_isAhead 22 = .ok (.getfield 7, 3) := by decide +kernel
theorem dX7_isAhead_25 : decode cX7_isAhead 25 = .ok (.bipush 30, 2) := by decide +kernel
theorem dX7_isAhead_27 : decode cX7_isAhead 27 = .ok (.iload_n 2, 1) := by decide +kernel
theorem dX7_isAhead_28 : decode cX7_isAhead 28 = .ok (.iadd, 1) := by decide +kernel
theorem dX7_isAhead_29 : decode cX7_isAhead 29 = .ok (.iaload, 1) := by decide +kernel
theorem dX7_isAhead_30 : decode cX7_isAhead 30 = .ok (.isub, 1) := by decide +kernel
theorem dX7_isAhead_31 : decode cX7_isAhead 31 = .ok (.istore 4, 2) := by decide +kernel
theorem dX7_isAhead_33 : decode cX7_isAhead 33 = .ok (.iload_n 3, 1) := by decide +kernel
theorem dX7_isAhead_34 : decode cX7_isAhead 34 = .ok (.ifCond .eq 15, 3) := by decide +kernel
theorem dX7_isAhead_37 : decode cX7_isAhead 37 = .ok (.iload_n 3, 1) := by decide +kernel
theorem dX7_isAhead_38 : decode cX7_isAhead 38 = .ok (.ifCond .ge 7, 3) := by decide +kernel
theorem dX7_isAhead_41 : decode cX7_isAhead 41 = .ok (.iconst 1, 1) := by decide +kernel
theorem dX7_isAhead_42 : decode cX7_isAhead 42 = .ok (.goto 35, 3) := by decide +kernel
theorem dX7_isAhead_45 : decode cX7_isAhead 45 = .ok (.iconst 0, 1) := by decide +kernel
theorem dX7_isAhead_46 : decode cX7_isAhead 46 = .ok (.goto 31, 3) := by decide +kernel
theorem dX7_isAhead_49 : decode cX7_isAhead 49 = .ok (.iload 4, 2) := by decide +kernel
theorem dX7_isAhead_51 : decode cX7_isAhead 51 = .ok (.ifCond .eq 16, 3) := by decide +kernel
theorem dX7_isAhead_54 : decode cX7_isAhead 54 = .ok (.iload 4, 2) := by decide +kernel
theorem dX7_isAhead_56 : decode cX7_isAhead 56 = .ok (.ifCond .le 7, 3) := by decide +kernel
theorem dX7_isAhead_59 : decode cX7_isAhead 59 = .ok (.iconst 1, 1) := by decide +kernel
theorem dX7_isAhead_60 : decode cX7_isAhead 60 = .ok (.goto 17, 3) := by decide +kernel
theorem dX7_isAhead_63 : decode cX7_isAhead 63 = .ok (.iconst 0, 1) := by decide +kernel
theorem dX7_isAhead_64 : decode cX7_isAhead 64 = .ok (.goto 13, 3) := by decide +kernel
theorem dX7_isAhead_67 : decode cX7_isAhead 67 = .ok (.iload_n 1, 1) := by decide +kernel
theorem dX7_isAhead_68 : decode cX7_isAhead 68 = .ok (.iload_n 2, 1) := by decide +kernel
theorem dX7_isAhead_69 : decode cX7_isAhead 69 = .ok (.if_icmp .ge 7, 3) := by decide +kernel
theorem dX7_isAhead_72 : decode cX7_isAhead 72 = .ok (.iconst 1, 1) := by decide +kernel
theorem dX7_isAhead_73 : decode cX7_isAhead 73 = .ok (.goto 4, 3) := by decide +kernel
theorem dX7_isAhead_76 : decode cX7_isAhead 76 = .ok (.iconst 0, 1) := by decide +kernel
theorem dX7_isAhead_77 : decode cX7_isAhead 77 = .ok (.ireturn, 1) := by decide +kernel
set_option maxRecDepth 20000 in
theorem ggX7_reads_X7_doubtOf : GoodIn wsX7_reads wsX7_doubtOf := goodIn_r _ [8, 2, 9, 10, 11, 12, 13, 14, 15, 7, 16, 17, 18, 19, 20, 21, 22, 27, 28, 29, 30, 31, 32, 33, 34, 35, 36, 37, 38, 39, 40, 41, 42] (by decide +kernel) (by decide +kernel)
set_option maxRecDepth 20000 in
theorem gX7_reads_X7_doubtOf : GoodIn wsX7_reads (wsV RX7 111 RX7 yX7_doubtOf wsX7_doubtOf) := goodIn_app (goodIn_of _ (by decide +kernel)) ggX7_reads_X7_doubtOf
set_option maxRecDepth 20000 in
theorem ggX7_reads_X7_isAhead : GoodIn wsX7_reads wsX7_isAhead := goodIn_r _ [26, 2, 4, 5, 6, 7, 8, 9, 10, 11, 12, 13, 14, 15, 16, 17, 18, 19, 20, 21, 22, 27, 28, 29, 30, 31, 32, 33, 34, 35, 36, 37, 38, 39, 40, 41, 42] (by decide +kernel) (by decide +kernel)
set_option maxRecDepth 20000 in
theorem gX7_reads_X7_isAhead : GoodIn wsX7_reads (wsV RX7 117 RX7 yX7_isAhead wsX7_isAhead) := goodIn_app (goodIn_of _ (by decide +kernel)) ggX7_reads_X7_isAhead
theorem dX7_reads_0 : decode cX7_reads 0 = .ok (.aload_n 0, 1) := by decide +kernel
theorem dX7_reads_1 : decode cX7_reads 1 = .ok (.iconst 0, 1) := by decide +kernel
theorem dX7_reads_2 : decode cX7_reads 2 = .ok (.putfield 114, 3) := by decide +kernel
theorem dX7_reads_5 : decode cX7_reads 5 = .ok (.iconst 0, 1) := by decide +kernel
theorem dX7_reads_6 : decode cX7_reads 6 = .ok (.istore_n 1, 1) := by decide +kernel
theorem dX7_reads_7 : decode cX7_reads 7 = .ok (.iload_n 1, 1) := by decide +kernel
theorem dX7_reads_8 : decode cX7_reads 8 = .ok (.aload_n 0, 1) := by decide +kernel
theorem dX7_reads_9 : decode cX7_reads 9 = .ok (.getfield 7, 3) := by decide +kernel
theorem dX7_reads_12 : decode cX7_reads 12 = .ok (.bipush 17, 2) := by decide +kernel
theorem dX7_reads_14 : decode cX7_reads 14 = .ok (.iaload, 1) := by decide +kernel
theorem dX7_reads_15 : decode cX7_reads 15 = .ok (.if_icmp .ge 80, 3) := by decide +kernel
theorem dX7_reads_18 : decode cX7_reads 18 = .ok (.aload_n 0, 1) := by decide +kernel
theorem dX7_reads_19 : decode cX7_reads 19 = .ok (.iload_n 1, 1) := by decide +kernel
theorem dX7_reads_20 : decode cX7_reads 20 = .ok (.invokevirtual 111, 3) := by decide +kernel
theorem dX7_reads_23 : decode cX7_reads 23 = .ok (.iconst (-1), 1) := by decide +kernel
theorem dX7_reads_24 : decode cX7_reads 24 = .ok (.if_icmp .eq 65, 3) := by decide +kernel
theorem dX7_reads_27 : decode cX7_reads 27 = .ok (.aload_n 0, 1) := by decide +kernel
theorem dX7_reads_28 : decode cX7_reads 28 = .ok (.getfield 114, 3) := by decide +kernel
theorem dX7_reads_31 : decode cX7_reads 31 = .ok (.istore_n 2, 1) := by decide +kernel
theorem dX7_reads_32 : decode cX7_reads 32 = .ok (.iload_n 2, 1) := by decide +kernel
theorem dX7_reads_33 : decode cX7_reads 33 = .ok (.ifCond .le 39, 3) := by decide +kernel
theorem dX7_reads_36 : decode cX7_reads 36 = .ok (.aload_n 0, 1) := by decide +kernel
theorem dX7_reads_37 : decode cX7_reads 37 = .ok (.iload_n 1, 1) := by decide +kernel
theorem dX7_reads_38 : decode cX7_reads 38 = .ok (.aload_n 0, 1) := by decide +kernel
theorem dX7_reads_39 : decode cX7_reads 39 = .ok (.getfield 34, 3) := by decide +kernel
theorem dX7_reads_42 : decode cX7_reads 42 = .ok (.iload_n 2, 1) := by decide +kernel
theorem dX7_reads_43 : decode cX7_reads 43 = .ok (.iconst 1, 1) := by decide +kernel
theorem dX7_reads_44 : decode cX7_reads 44 = .ok (.isub, 1) := by decide +kernel
theorem dX7_reads_45 : decode cX7_reads 45 = .ok (.iaload, 1) := by decide +kernel
theorem dX7_reads_46 : decode cX7_reads 46 = .ok (.invokevirtual 117, 3) := by decide +kernel
theorem dX7_reads_49 : decode cX7_reads 49 = .ok (.ifCond .eq 23, 3) := by decide +kernel
theorem dX7_reads_52 : decode cX7_reads 52 = .ok (.aload_n 0, 1) := by decide +kernel
theorem dX7_reads_53 : decode cX7_reads 53 = .ok (.getfield 34, 3) := by decide +kernel
theorem dX7_reads_56 : decode cX7_reads 56 = .ok (.iload_n 2, 1) := by decide +kernel
theorem dX7_reads_57 : decode cX7_reads 57 = .ok (.aload_n 0, 1) := by decide +kernel
theorem dX7_reads_58 : decode cX7_reads 58 = .ok (.getfield 34, 3) := by decide +kernel
theorem dX7_reads_61 : decode cX7_reads 61 = .ok (.iload_n 2, 1) := by decide +kernel
theorem dX7_reads_62 : decode cX7_reads 62 = .ok (.iconst 1, 1) := by decide +kernel
theorem dX7_reads_63 : decode cX7_reads 63 = .ok (.isub, 1) := by decide +kernel
theorem dX7_reads_64 : decode cX7_reads 64 = .ok (.iaload, 1) := by decide +kernel
theorem dX7_reads_65 : decode cX7_reads 65 = .ok (.iastore, 1) := by decide +kernel
theorem dX7_reads_66 : decode cX7_reads 66 = .ok (.iinc 2 (-1), 3) := by decide +kernel
theorem dX7_reads_69 : decode cX7_reads 69 = .ok (.goto (-37), 3) := by decide +kernel
theorem dX7_reads_72 : decode cX7_reads 72 = .ok (.aload_n 0, 1) := by decide +kernel
theorem dX7_reads_73 : decode cX7_reads 73 = .ok (.getfield 34, 3) := by decide +kernel
theorem dX7_reads_76 : decode cX7_reads 76 = .ok (.iload_n 2, 1) := by decide +kernel
theorem dX7_reads_77 : decode cX7_reads 77 = .ok (.iload_n 1, 1) := by decide +kernel
theorem dX7_reads_78 : decode cX7_reads 78 = .ok (.iastore, 1) := by decide +kernel
theorem dX7_reads_79 : decode cX7_reads 79 = .ok (.aload_n 0, 1) := by decide +kernel
theorem dX7_reads_80 : decode cX7_reads 80 = .ok (.dup, 1) := by decide +kernel
theorem dX7_reads_81 : decode cX7_reads 81 = .ok (.getfield 114, 3) := by decide +kernel
theorem dX7_reads_84 : decode cX7_reads 84 = .ok (.iconst 1, 1) := by decide +kernel
theorem dX7_reads_85 : decode cX7_reads 85 = .ok (.iadd, 1) := by decide +kernel
theorem dX7_reads_86 : decode cX7_reads 86 = .ok (.putfield 114, 3) := by decide +kernel
theorem dX7_reads_89 : decode cX7_reads 89 = .ok (.iinc 1 1, 3) := by decide +kernel
theorem dX7_reads_92 : decode cX7_reads 92 = .ok (.goto (-85), 3) := by decide +kernel
theorem dX7_reads_95 : decode cX7_reads 95 = .ok (.return_, 1) := by decide +kernel
set_option maxRecDepth 20000 in
theorem ggX7_reading_X7_fails : GoodIn wsX7_reading wsX7_fails := goodIn_r _ [7, 8, 36, 37, 38, 39, 40, 41, 42, 43, 44, 45, 46, 47, 48, 49, 50, 51] (by decide +kernel) (by decide +kernel)
set_option maxRecDepth 20000 in
theorem gX7_reading_X7_fails : GoodIn wsX7_reading (wsV RX7 45 RX7 yX7_fails wsX7_fails) := goodIn_app (goodIn_of _ (by decide +kernel)) ggX7_reading_X7_fails
set_option maxRecDepth 20000 in
theorem ggX7_reading_X7_reads : GoodIn wsX7_reading wsX7_reads := goodIn_r _ [12, 1, 13, 2, 14, 15, 16, 6, 17, 18, 19, 20, 21, 22, 23, 24, 25, 26, 27, 28, 29, 30, 31, 32, 33, 34, 35, 36, 37, 38, 39, 40, 41, 42, 43, 44, 45, 46, 47, 48, 49, 50, 51] (by decide +kernel) (by decide +kernel)
set_option maxRecDepth 20000 in
theorem gX7_reading_X7_reads : GoodIn wsX7_reading (wsV RX7 120 RX7 yX7_reads wsX7_reads) := goodIn_app (goodIn_of _ (by decide +kernel)) ggX7_reading_X7_reads
theorem dX7_reading_0 : decode cX7_reading 0 = .ok (.iload_n 1, 1) := by decide +kernel
theorem dX7_reading_1 : decode cX7_reading 1 = .ok (.iconst (-1), 1) := by decide +kernel
theorem dX7_reading_2 : decode cX7_reading 2 = .ok (.if_icmp .ge 10, 3) := by decide +kernel
theorem dX7_reading_5 : decode cX7_reading 5 = .ok (.aload_n 0, 1) := by decide +kernel
theorem dX7_reading_6 : decode cX7_reading 6 = .ok (.bipush (-2), 2) := by decide +kernel
theorem dX7_reading_8 : decode cX7_reading 8 = .ok (.invokevirtual 45, 3) := by decide +kernel
theorem dX7_reading_11 : decode cX7_reading 11 = .ok (.ireturn, 1) := by decide +kernel
theorem dX7_reading_12 : decode cX7_reading 12 = .ok (.aload_n 0, 1) := by decide +kernel
theorem dX7_reading_13 : decode cX7_reading 13 = .ok (.invokevirtual 120, 3) := by decide +kernel
theorem dX7_reading_16 : decode cX7_reading 16 = .ok (.iload_n 1, 1) := by decide +kernel
theorem dX7_reading_17 : decode cX7_reading 17 = .ok (.iconst (-1), 1) := by decide +kernel
theorem dX7_reading_18 : decode cX7_reading 18 = .ok (.if_icmp .ne 10, 3) := by decide +kernel
theorem dX7_reading_21 : decode cX7_reading 21 = .ok (.aload_n 0, 1) := by decide +kernel
theorem dX7_reading_22 : decode cX7_reading 22 = .ok (.getfield 114, 3) := by decide +kernel
theorem dX7_reading_25 : decode cX7_reading 25 = .ok (.goto 21, 3) := by decide +kernel
theorem dX7_reading_28 : decode cX7_reading 28 = .ok (.iload_n 1, 1) := by decide +kernel
theorem dX7_reading_29 : decode cX7_reading 29 = .ok (.aload_n 0, 1) := by decide +kernel
theorem dX7_reading_30 : decode cX7_reading 30 = .ok (.getfield 114, 3) := by decide +kernel
theorem dX7_reading_33 : decode cX7_reading 33 = .ok (.if_icmp .ge 12, 3) := by decide +kernel
theorem dX7_reading_36 : decode cX7_reading 36 = .ok (.aload_n 0, 1) := by decide +kernel
theorem dX7_reading_37 : decode cX7_reading 37 = .ok (.getfield 34, 3) := by decide +kernel
theorem dX7_reading_40 : decode cX7_reading 40 = .ok (.iload_n 1, 1) := by decide +kernel
theorem dX7_reading_41 : decode cX7_reading 41 = .ok (.iaload, 1) := by decide +kernel
theorem dX7_reading_42 : decode cX7_reading 42 = .ok (.goto 4, 3) := by decide +kernel
theorem dX7_reading_45 : decode cX7_reading 45 = .ok (.iconst (-1), 1) := by decide +kernel
theorem dX7_reading_46 : decode cX7_reading 46 = .ok (.ireturn, 1) := by decide +kernel
set_option maxRecDepth 20000 in
theorem ggX7_doubt_X7_fails : GoodIn wsX7_doubt wsX7_fails := goodIn_r _ [7, 8, 36, 37, 38, 39, 40, 41, 42, 43, 44, 45, 46, 47, 48, 49, 50, 51] (by decide +kernel) (by decide +kernel)
set_option maxRecDepth 20000 in
theorem gX7_doubt_X7_fails : GoodIn wsX7_doubt (wsV RX7 45 RX7 yX7_fails wsX7_fails) := goodIn_app (goodIn_of _ (by decide +kernel)) ggX7_doubt_X7_fails
set_option maxRecDepth 20000 in
theorem ggX7_doubt_X7_reads : GoodIn wsX7_doubt wsX7_reads := goodIn_r _ [12, 1, 13, 2, 14, 15, 16, 6, 17, 18, 19, 20, 21, 22, 23, 24, 25, 26, 27, 28, 29, 30, 31, 32, 33, 34, 35, 36, 37, 38, 39, 40, 41, 42, 43, 44, 45, 46, 47, 48, 49, 50, 51] (by decide +kernel) (by decide +kernel)
set_option maxRecDepth 20000 in
theorem gX7_doubt_X7_reads : GoodIn wsX7_doubt (wsV RX7 120 RX7 yX7_reads wsX7_reads) := goodIn_app (goodIn_of _ (by decide +kernel)) ggX7_doubt_X7_reads
set_option maxRecDepth 20000 in
theorem ggX7_doubt_X7_doubtOf : GoodIn wsX7_doubt wsX7_doubtOf := goodIn_r _ [17, 13, 18, 19, 20, 21, 22, 23, 24, 6, 25, 26, 27, 28, 29, 30, 31, 36, 37, 38, 39, 40, 41, 42, 43, 44, 45, 46, 47, 48, 49, 50, 51] (by decide +kernel) (by decide +kernel)
set_option maxRecDepth 20000 in
theorem gX7_doubt_X7_doubtOf : GoodIn wsX7_doubt (wsV RX7 111 RX7 yX7_doubtOf wsX7_doubtOf) := goodIn_app (goodIn_of _ (by decide +kernel)) ggX7_doubt_X7_doubtOf
theorem dX7_doubt_0 : decode cX7_doubt 0 = .ok (.iload_n 1, 1) := by decide +kernel
theorem dX7_doubt_1 : decode cX7_doubt 1 = .ok (.ifCond .ge 10, 3) := by decide +kernel
theorem dX7_doubt_4 : decode cX7_doubt 4 = .ok (.aload_n 0, 1) := by decide +kernel
theorem dX7_doubt_5 : decode cX7_doubt 5 = .ok (.bipush (-2), 2) := by decide +kernel
theorem dX7_doubt_7 : decode cX7_doubt 7 = .ok (.invokevirtual 45, 3) := by decide +kernel
theorem dX7_doubt_10 : decode cX7_doubt 10 = .ok (.ireturn, 1) := by decide +kernel
theorem dX7_doubt_11 : decode cX7_doubt 11 = .ok (.aload_n 0, 1) := by decide +kernel
theorem dX7_doubt_12 : decode cX7_doubt 12 = .ok (.invokevirtual 120, 3) := by decide +kernel
theorem dX7_doubt_15 : decode cX7_doubt 15 = .ok (.iload_n 1, 1) := by decide +kernel
theorem dX7_doubt_16 : decode cX7_doubt 16 = .ok (.aload_n 0, 1) := by decide +kernel
theorem dX7_doubt_17 : decode cX7_doubt 17 = .ok (.getfield 114, 3) := by decide +kernel
theorem dX7_doubt_20 : decode cX7_doubt 20 = .ok (.if_icmp .ge 16, 3) := by decide +kernel
theorem dX7_doubt_23 : decode cX7_doubt 23 = .ok (.aload_n 0, 1) := by decide +kernel
theorem dX7_doubt_24 : decode cX7_doubt 24 = .ok (.aload_n 0, 1) := by decide +kernel
theorem dX7_doubt_25 : decode cX7_doubt 25 = .ok (.getfield 34, 3) := by decide +kernel
theorem dX7_doubt_28 : decode cX7_doubt 28 = .ok (.iload_n 1, 1) := by decide +kernel
theorem dX7_doubt_29 : decode cX7_doubt 29 = .ok (.iaload, 1) := by decide +kernel
theorem dX7_doubt_30 : decode cX7_doubt 30 = .ok (.invokevirtual 111, 3) := by decide +kernel
theorem dX7_doubt_33 : decode cX7_doubt 33 = .ok (.goto 4, 3) := by decide +kernel
theorem dX7_doubt_36 : decode cX7_doubt 36 = .ok (.iconst (-1), 1) := by decide +kernel
theorem dX7_doubt_37 : decode cX7_doubt 37 = .ok (.ireturn, 1) := by decide +kernel
set_option maxRecDepth 20000 in
theorem ggX7_errorCount_X7_within : GoodIn wsX7_errorCount wsX7_within := goodIn_r _ [5] (by decide +kernel) (by decide +kernel)
set_option maxRecDepth 20000 in
theorem gX7_errorCount_X7_within : GoodIn wsX7_errorCount (va_wsS RX7 37 yX7_within wsX7_within) := goodIn_app (goodIn_of _ (by decide +kernel)) ggX7_errorCount_X7_within
set_option maxRecDepth 20000 in
theorem ggX7_errorCount_X7_fails : GoodIn wsX7_errorCount wsX7_fails := goodIn_r _ [9, 1, 10, 11, 12, 13, 14, 15, 16, 17, 18, 19, 20, 21, 22, 23, 24, 25] (by decide +kernel) (by decide +kernel)
set_option maxRecDepth 20000 in
theorem gX7_errorCount_X7_fails : GoodIn wsX7_errorCount (wsV RX7 45 RX7 yX7_fails wsX7_fails) := goodIn_app (goodIn_of _ (by decide +kernel)) ggX7_errorCount_X7_fails
theorem dX7_errorCount_0 : decode cX7_errorCount 0 = .ok (.iload_n 1, 1) := by decide +kernel
theorem dX7_errorCount_1 : decode cX7_errorCount 1 = .ok (.bipush (-5), 2) := by decide +kernel
theorem dX7_errorCount_3 : decode cX7_errorCount 3 = .ok (.bipush (-2), 2) := by decide +kernel
theorem dX7_errorCount_5 : decode cX7_errorCount 5 = .ok (.invokestatic 37, 3) := by decide +kernel
theorem dX7_errorCount_8 : decode cX7_errorCount 8 = .ok (.ifCond .eq 15, 3) := by decide +kernel
theorem dX7_errorCount_11 : decode cX7_errorCount 11 = .ok (.aload_n 0, 1) := by decide +kernel
theorem dX7_errorCount_12 : decode cX7_errorCount 12 = .ok (.getfield 16, 3) := by decide +kernel
theorem dX7_errorCount_15 : decode cX7_errorCount 15 = .ok (.bipush (-2), 2) := by decide +kernel
theorem dX7_errorCount_17 : decode cX7_errorCount 17 = .ok (.iload_n 1, 1) := by decide +kernel
theorem dX7_errorCount_18 : decode cX7_errorCount 18 = .ok (.isub, 1) := by decide +kernel
theorem dX7_errorCount_19 : decode cX7_errorCount 19 = .ok (.iaload, 1) := by decide +kernel
theorem dX7_errorCount_20 : decode cX7_errorCount 20 = .ok (.goto 9, 3) := by decide +kernel
theorem dX7_errorCount_23 : decode cX7_errorCount 23 = .ok (.aload_n 0, 1) := by decide +kernel
theorem dX7_errorCount_24 : decode cX7_errorCount 24 = .ok (.bipush (-2), 2) := by decide +kernel
theorem dX7_errorCount_26 : decode cX7_errorCount 26 = .ok (.invokevirtual 45, 3) := by decide +kernel
theorem dX7_errorCount_29 : decode cX7_errorCount 29 = .ok (.ireturn, 1) := by decide +kernel
theorem dX7_mix_0 : decode cX7_mix 0 = .ok (.aload_n 0, 1) := by decide +kernel
theorem dX7_mix_1 : decode cX7_mix 1 = .ok (.ldc2_w 123, 3) := by decide +kernel
theorem dX7_mix_4 : decode cX7_mix 4 = .ok (.aload_n 0, 1) := by decide +kernel
theorem dX7_mix_5 : decode cX7_mix 5 = .ok (.getfield 125, 3) := by decide +kernel
theorem dX7_mix_8 : decode cX7_mix 8 = .ok (.lmul, 1) := by decide +kernel
theorem dX7_mix_9 : decode cX7_mix 9 = .ok (.iload_n 1, 1) := by decide +kernel
theorem dX7_mix_10 : decode cX7_mix 10 = .ok (.i2l, 1) := by decide +kernel
theorem dX7_mix_11 : decode cX7_mix 11 = .ok (.ladd, 1) := by decide +kernel
theorem dX7_mix_12 : decode cX7_mix 12 = .ok (.putfield 125, 3) := by decide +kernel
theorem dX7_mix_15 : decode cX7_mix 15 = .ok (.return_, 1) := by decide +kernel
set_option maxRecDepth 20000 in
theorem ggX7_mixWord_X7_mix : GoodIn wsX7_mixWord wsX7_mix := goodIn_r _ [7, 8, 9, 37, 38, 39, 40, 41, 42, 43, 44, 45, 46, 47, 48, 49, 50, 51, 52] (by decide +kernel) (by decide +kernel)
set_option maxRecDepth 20000 in
theorem gX7_mixWord_X7_mix : GoodIn wsX7_mixWord (wsV RX7 129 RX7 yX7_mix wsX7_mix) := goodIn_app (goodIn_of _ (by decide +kernel)) ggX7_mixWord_X7_mix
set_option maxRecDepth 20000 in
theorem ggX7_mixWord_X7_written : GoodIn wsX7_mixWord wsX7_written := goodIn_r _ [13, 2, 14, 15, 16, 6, 17, 1, 18, 19, 20, 21, 22, 23, 24, 25, 26, 27, 28, 29, 30, 31, 32, 33, 34, 35, 36, 37, 38, 39, 40, 41, 42, 43, 44, 45, 46, 47, 48, 49, 50, 51, 52] (by decide +kernel) (by decide +kernel)
set_option maxRecDepth 20000 in
theorem gX7_mixWord_X7_written : GoodIn wsX7_mixWord (wsV RX7 89 RX7 yX7_written wsX7_written) := goodIn_app (goodIn_of _ (by decide +kernel)) ggX7_mixWord_X7_written
set_option maxRecDepth 20000 in
theorem ggX7_mixWord_X7_costOf : GoodIn wsX7_mixWord wsX7_costOf := goodIn_r _ [30, 2, 23, 24, 25, 6, 26, 1, 18, 31, 32, 33, 34, 35, 36, 37, 38, 39, 40, 41, 42, 43, 44, 45, 46, 47, 48, 49, 50, 51, 52] (by decide +kernel) (by decide +kernel)
set_option maxRecDepth 20000 in
theorem gX7_mixWord_X7_costOf : GoodIn wsX7_mixWord (wsV RX7 86 RX7 yX7_costOf wsX7_costOf) := goodIn_app (goodIn_of _ (by decide +kernel)) ggX7_mixWord_X7_costOf
set_option maxRecDepth 20000 in
theorem ggX7_mixWord_X7_strokeOf : GoodIn wsX7_mixWord wsX7_strokeOf := goodIn_r _ [26, 2, 1, 18, 37, 38, 39, 40, 41, 42, 43, 44, 45, 46, 47, 48, 49, 50, 51, 52] (by decide +kernel) (by decide +kernel)
set_option maxRecDepth 20000 in
theorem gX7_mixWord_X7_strokeOf : GoodIn wsX7_mixWord (wsV RX7 73 RX7 yX7_strokeOf wsX7_strokeOf) := goodIn_app (goodIn_of _ (by decide +kernel)) ggX7_mixWord_X7_strokeOf
theorem dX7_mixWord_0 : decode cX7_mixWord 0 = .ok (.aload_n 0, 1) := by decide +kernel
theorem dX7_mixWord_1 : decode cX7_mixWord 1 = .ok (.aload_n 0, 1) := by decide +kernel
theorem dX7_mixWord_2 : decode cX7_mixWord 2 = .ok (.getfield 7, 3) := by decide +kernel
theorem dX7_mixWord_5 : decode cX7_mixWord 5 = .ok (.bipush 30, 2) := by decide +kernel
theorem dX7_mixWord_7 : decode cX7_mixWord 7 = .ok (.iload_n 1, 1) := by decide +kernel
theorem dX7_mixWord_8 : decode cX7_mixWord 8 = .ok (.iadd, 1) := by decide +kernel
theorem dX7_mixWord_9 : decode cX7_mixWord 9 = .ok (.iaload, 1) := by decide +kernel
theorem dX7_mixWord_10 : decode cX7_mixWord 10 = .ok (.invokevirtual 129, 3) := by decide +kernel
theorem dX7_mixWord_13 : decode cX7_mixWord 13 = .ok (.aload_n 0, 1) := by decide +kernel
theorem dX7_mixWord_14 : decode cX7_mixWord 14 = .ok (.aload_n 0, 1) := by decide +kernel
theorem dX7_mixWord_15 : decode cX7_mixWord 15 = .ok (.getfield 7, 3) := by decide +kernel
theorem dX7_mixWord_18 : decode cX7_mixWord 18 = .ok (.bipush 42, 2) := by decide +kernel
theorem dX7_mixWord_20 : decode cX7_mixWord 20 = .ok (.iload_n 1, 1) := by decide +kernel
theorem dX7_mixWord_21 : decode cX7_mixWord 21 = .ok (.iadd, 1) := by decide +kernel
theorem dX7_mixWord_22 : decode cX7_mixWord 22 = .ok (.iaload, 1) := by decide +kernel
theorem dX7_mixWord_23 : decode cX7_mixWord 23 = .ok (.invokevirtual 129, 3) := by decide +kernel
theorem dX7_mixWord_26 : decode cX7_mixWord 26 = .ok (.aload_n 0, 1) := by decide +kernel
theorem dX7_mixWord_27 : decode cX7_mixWord 27 = .ok (.iload_n 1, 1) := by decide +kernel
theorem dX7_mixWord_28 : decode cX7_mixWord 28 = .ok (.invokevirtual 89, 3) := by decide +kernel
theorem dX7_mixWord_31 : decode cX7_mixWord 31 = .ok (.istore_n 2, 1) := by decide +kernel
theorem dX7_mixWord_32 : decode cX7_mixWord 32 = .ok (.aload_n 0, 1) := by decide +kernel
theorem dX7_mixWord_33 : decode cX7_mixWord 33 = .ok (.aload_n 0, 1) := by decide +kernel
theorem dX7_mixWord_34 : decode cX7_mixWord 34 = .ok (.iload_n 2, 1) := by decide +kernel
theorem dX7_mixWord_35 : decode cX7_mixWord 35 = .ok (.invokevirtual 86, 3) := by decide +kernel
theorem dX7_mixWord_38 : decode cX7_mixWord 38 = .ok (.invokevirtual 129, 3) := by decide +kernel
theorem dX7_mixWord_41 : decode cX7_mixWord 41 = .ok (.aload_n 0, 1) := by decide +kernel
theorem dX7_mixWord_42 : decode cX7_mixWord 42 = .ok (.aload_n 0, 1) := by decide +kernel
theorem dX7_mixWord_43 : decode cX7_mixWord 43 = .ok (.getfield 70, 3) := by decide +kernel
theorem dX7_mixWord_46 : decode cX7_mixWord 46 = .ok (.invokevirtual 129, 3) := by decide +kernel
theorem dX7_mixWord_49 : decode cX7_mixWord 49 = .ok (.iconst 0, 1) := by decide +kernel
theorem dX7_mixWord_50 : decode cX7_mixWord 50 = .ok (.istore_n 3, 1) := by decide +kernel
theorem dX7_mixWord_51 : decode cX7_mixWord 51 = .ok (.iload_n 3, 1) := by decide +kernel
theorem dX7_mixWord_52 : decode cX7_mixWord 52 = .ok (.aload_n 0, 1) := by decide +kernel
theorem dX7_mixWord_53 : decode cX7_mixWord 53 = .ok (.getfield 70, 3) := by decide +kernel
theorem dX7_mixWord_56 : decode cX7_mixWord 56 = .ok (.if_icmp .ge 19, 3) := by decide +kernel
theorem dX7_mixWord_59 : decode cX7_mixWord 59 = .ok (.aload_n 0, 1) := by decide +kernel
theorem dX7_mixWord_60 : decode cX7_mixWord 60 = .ok (.aload_n 0, 1) := by decide +kernel
theorem dX7_mixWord_61 : decode cX7_mixWord 61 = .ok (.iload_n 2, 1) := by decide +kernel
theorem dX7_mixWord_62 : decode cX7_mixWord 62 = .ok (.iload_n 3, 1) := by decide +kernel
theorem dX7_mixWord_63 : decode cX7_mixWord 63 = .ok (.invokevirtual 73, 3) := by decide +kernel
theorem dX7_mixWord_66 : decode cX7_mixWord 66 = .ok (.invokevirtual 129, 3) := by decide +kernel
theorem dX7_mixWord_69 : decode cX7_mixWord 69 = .ok (.iinc 3 1, 3) := by decide +kernel
theorem dX7_mixWord_72 : decode cX7_mixWord 72 = .ok (.goto (-21), 3) := by decide +kernel
theorem dX7_mixWord_75 : decode cX7_mixWord 75 = .ok (.return_, 1) := by decide +kernel
set_option maxRecDepth 20000 in
theorem ggX7_digest_X7_mix : GoodIn wsX7_digest wsX7_mix := goodIn_r _ [18, 19, 2, 79, 80, 81, 82, 83, 84, 85, 86, 87, 88, 89, 90, 91, 92, 93, 94] (by decide +kernel) (by decide +kernel)
set_option maxRecDepth 20000 in
theorem gX7_digest_X7_mix : GoodIn wsX7_digest (wsV RX7 129 RX7 yX7_mix wsX7_mix) := goodIn_app (goodIn_of _ (by decide +kernel)) ggX7_digest_X7_mix
set_option maxRecDepth 20000 in
theorem ggX7_digest_X7_mixWord : GoodIn wsX7_digest wsX7_mixWord := goodIn_r _ [23, 4, 24, 14, 15, 16, 17, 18, 19, 2, 25, 26, 27, 28, 29, 30, 31, 32, 33, 34, 35, 36, 37, 38, 39, 40, 41, 42, 43, 44, 45, 46, 47, 48, 49, 50, 51, 79, 80, 81, 82, 83, 84, 85, 86, 87, 88, 89, 90, 91, 92, 93, 94] (by decide +kernel) (by decide +kernel)
set_option maxRecDepth 20000 in
theorem gX7_digest_X7_mixWord : GoodIn wsX7_digest (wsV RX7 134 RX7 yX7_mixWord wsX7_mixWord) := goodIn_app (goodIn_of _ (by decide +kernel)) ggX7_digest_X7_mixWord
set_option maxRecDepth 20000 in
theorem ggX7_digest_X7_proposes : GoodIn wsX7_digest wsX7_proposes := goodIn_r _ [55, 5, 4, 6, 7, 56, 57, 58, 17, 59, 24, 29, 30, 31, 32, 33, 60, 61, 62, 63, 25, 26, 27, 28, 34, 35, 36, 37, 38, 39, 40, 41, 42, 43, 44, 45, 46, 47, 48, 49, 50, 51, 79, 80, 81, 82, 83, 84, 85, 86, 87, 88, 89, 90, 91, 92, 93, 94] (by decide +kernel) (by decide +kernel)
set_option maxRecDepth 20000 in
theorem gX7_digest_X7_proposes : GoodIn wsX7_digest (wsV RX7 102 RX7 yX7_proposes wsX7_proposes) := goodIn_app (goodIn_of _ (by decide +kernel)) ggX7_digest_X7_proposes
set_option maxRecDepth 20000 in
theorem ggX7_digest_X7_reads : GoodIn wsX7_digest wsX7_reads := goodIn_r _ [67, 10, 4, 11, 68, 69, 70, 17, 71, 8, 9, 24, 33, 29, 30, 31, 32, 72, 73, 74, 49, 50, 51, 75, 76, 77, 78, 79, 80, 81, 82, 83, 84, 85, 86, 87, 88, 89, 90, 91, 92, 93, 94] (by decide +kernel) (by decide +kernel)
set_option maxRecDepth 20000 in
theorem gX7_digest_X7_reads : GoodIn wsX7_digest (wsV RX7 120 RX7 yX7_reads wsX7_reads) := goodIn_app (goodIn_of _ (by decide +kernel)) ggX7_digest_X7_reads
set_option maxRecDepth 20000 in
theorem ggX7_digest_X7_doubtOf : GoodIn wsX7_digest wsX7_doubtOf := goodIn_r _ [71, 4, 8, 9, 24, 33, 29, 30, 31, 17, 32, 72, 73, 74, 49, 50, 51, 79, 80, 81, 82, 83, 84, 85, 86, 87, 88, 89, 90, 91, 92, 93, 94] (by decide +kernel) (by decide +kernel)
set_option maxRecDepth 20000 in
theorem gX7_digest_X7_doubtOf : GoodIn wsX7_digest (wsV RX7 111 RX7 yX7_doubtOf wsX7_doubtOf) := goodIn_app (goodIn_of _ (by decide +kernel)) ggX7_digest_X7_doubtOf
theorem dX7_digest_0 : decode cX7_digest 0 = .ok (.aload_n 0, 1) := by decide +kernel
theorem dX7_digest_1 : decode cX7_digest 1 = .ok (.ldc2_w 132, 3) := by decide +kernel
theorem dX7_digest_4 : decode cX7_digest 4 = .ok (.putfield 125, 3) := by decide +kernel
theorem dX7_digest_7 : decode cX7_digest 7 = .ok (.iconst 0, 1) := by decide +kernel
theorem dX7_digest_8 : decode cX7_digest 8 = .ok (.istore_n 1, 1) := by decide +kernel
theorem dX7_digest_9 : decode cX7_digest 9 = .ok (.iload_n 1, 1) := by decide +kernel
theorem dX7_digest_10 : decode cX7_digest 10 = .ok (.iconst 4, 1) := by decide +kernel
theorem dX7_digest_11 : decode cX7_digest 11 = .ok (.if_icmp .ge 19, 3) := by decide +kernel
theorem dX7_digest_14 : decode cX7_digest 14 = .ok (.aload_n 0, 1) := by decide +kernel
theorem dX7_digest_15 : decode cX7_digest 15 = .ok (.aload_n 0, 1) := by decide +kernel
theorem dX7_digest_16 : decode cX7_digest 16 = .ok (.getfield 16, 3) := by decide +kernel
theorem dX7_digest_19 : decode cX7_digest 19 = .ok (.iload_n 1, 1) := by decide +kernel
theorem dX7_digest_20 : decode cX7_digest 20 = .ok (.iaload, 1) := by decide +kernel
theorem dX7_digest_21 : decode cX7_digest 21 = .ok (.invokevirtual 129, 3) := by decide +kernel
theorem dX7_digest_24 : decode cX7_digest 24 = .ok (.iinc 1 1, 3) := by decide +kernel
theorem dX7_digest_27 : decode cX7_digest 27 = .ok (.goto (-18), 3) := by decide +kernel
theorem dX7_digest_30 : decode cX7_digest 30 = .ok (.aload_n 0, 1) := by decide +kernel
theorem dX7_digest_31 : decode cX7_digest 31 = .ok (.aload_n 0, 1) := by decide +kernel
theorem dX7_digest_32 : decode cX7_digest 32 = .ok (.getfield 7, 3) := by decide +kernel
theorem dX7_digest_35 : decode cX7_digest 35 = .ok (.iconst 0, 1) := by decide +kernel
theorem dX7_digest_36 : decode cX7_digest 36 = .ok (.iaload, 1) := by decide +kernel
theorem dX7_digest_37 : decode cX7_digest 37 = .ok (.invokevirtual 129, 3) := by decide +kernel
theorem dX7_digest_40 : decode cX7_digest 40 = .ok (.iconst 0, 1) := by decide +kernel
theorem dX7_digest_41 : decode cX7_digest 41 = .ok (.istore_n 1, 1) := by decide +kernel
theorem dX7_digest_42 : decode cX7_digest 42 = .ok (.iload_n 1, 1) := by decide +kernel
theorem dX7_digest_43 : decode cX7_digest 43 = .ok (.bipush 8, 2) := by decide +kernel
theorem dX7_digest_45 : decode cX7_digest 45 = .ok (.if_icmp .ge 34, 3) := by decide +kernel
theorem dX7_digest_48 : decode cX7_digest 48 = .ok (.aload_n 0, 1) := by decide +kernel
