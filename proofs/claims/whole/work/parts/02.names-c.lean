theorem inlX0 : ∀ w ∈ wsX00, w ∈ wsL_law := fun _ h => List.mem_append_left _ (List.mem_append_left _ (List.mem_append_right _ h))
theorem inX0 : ∀ w ∈ wsX00, w ∈ lw_tbl := fun w h => wsL_law_in w (inlX0 w h)
theorem inX1 : ∀ w ∈ wsX10, w ∈ lw_tbl := by decide +kernel
theorem inlX2 : ∀ w ∈ wsX20, w ∈ wsL_law := fun _ h => List.mem_append_left _ (List.mem_append_right _ h)
theorem inX2 : ∀ w ∈ wsX20, w ∈ lw_tbl := fun w h => wsL_law_in w (inlX2 w h)
theorem inlX3 : ∀ w ∈ wsX30, w ∈ wsL_law := fun _ h => List.mem_append_left _ (List.mem_append_left _ (List.mem_append_left _ (List.mem_append_left _ (List.mem_append_right _ h))))
theorem inX3 : ∀ w ∈ wsX30, w ∈ lw_tbl := fun w h => wsL_law_in w (inlX3 w h)
theorem inlX4 : ∀ w ∈ wsX40, w ∈ wsL_law := fun _ h => List.mem_append_left _ (List.mem_append_left _ (List.mem_append_left _ (List.mem_append_right _ h)))
theorem inX4 : ∀ w ∈ wsX40, w ∈ lw_tbl := fun w h => wsL_law_in w (inlX4 w h)
theorem inJ6 : ∀ w ∈ wsJ60, w ∈ lw_tbl := by decide +kernel
set_option maxRecDepth 20000 in
theorem ggX0_init_X0_become : GoodIn wsX0_init wsX0_become := goodIn_r _ [11, 12, 13, 14, 15, 16, 17, 10, 18, 5, 6, 19, 20, 21, 22, 23, 24, 25, 26, 27, 28, 29, 30, 31, 32, 33, 34, 35, 36, 37] (by decide +kernel) (by decide +kernel)
set_option maxRecDepth 20000 in
theorem gX0_init_X0_become : GoodIn wsX0_init (wsV RX0 18 RX0 yX0_become wsX0_become) := goodIn_app (goodIn_of _ (by decide +kernel)) ggX0_init_X0_become
theorem dX0_init_0 : decode cX0_init 0 = .ok (.aload_n 0, 1) := by decide +kernel
theorem dX0_init_1 : decode cX0_init 1 = .ok (.invokespecial 3, 3) := by decide +kernel
theorem dX0_init_4 : decode cX0_init 4 = .ok (.aload_n 0, 1) := by decide +kernel
theorem dX0_init_5 : decode cX0_init 5 = .ok (.sipush 512, 3) := by decide +kernel
theorem dX0_init_8 : decode cX0_init 8 = .ok (.newarray .long, 2) := by decide +kernel
theorem dX0_init_10 : decode cX0_init 10 = .ok (.putfield 9, 3) := by decide +kernel
theorem dX0_init_13 : decode cX0_init 13 = .ok (.aload_n 0, 1) := by decide +kernel
theorem dX0_init_14 : decode cX0_init 14 = .ok (.bipush 9, 2) := by decide +kernel
theorem dX0_init_16 : decode cX0_init 16 = .ok (.newarray .long, 2) := by decide +kernel
theorem dX0_init_18 : decode cX0_init 18 = .ok (.putfield 15, 3) := by decide +kernel
theorem dX0_init_21 : decode cX0_init 21 = .ok (.aload_n 0, 1) := by decide +kernel
theorem dX0_init_22 : decode cX0_init 22 = .ok (.iconst 1, 1) := by decide +kernel
theorem dX0_init_23 : decode cX0_init 23 = .ok (.iconst 1, 1) := by decide +kernel
theorem dX0_init_24 : decode cX0_init 24 = .ok (.iconst 1, 1) := by decide +kernel
theorem dX0_init_25 : decode cX0_init 25 = .ok (.invokevirtual 18, 3) := by decide +kernel
theorem dX0_init_28 : decode cX0_init 28 = .ok (.return_, 1) := by decide +kernel
set_option maxRecDepth 20000 in
theorem ggX0_become_X0_weighAllWords : GoodIn wsX0_become wsX0_weighAllWords := goodIn_r _ [8, 9, 10, 11, 12, 13, 7, 14, 2, 3, 15, 16, 17, 18, 19, 20, 21, 22, 23, 24, 25, 26, 27, 28, 29] (by decide +kernel) (by decide +kernel)
set_option maxRecDepth 20000 in
theorem gX0_become_X0_weighAllWords : GoodIn wsX0_become (wsV RX0 32 RX0 yX0_weighAllWords wsX0_weighAllWords) := goodIn_app (goodIn_of _ (by decide +kernel)) ggX0_become_X0_weighAllWords
theorem dX0_become_0 : decode cX0_become 0 = .ok (.aload_n 0, 1) := by decide +kernel
theorem dX0_become_1 : decode cX0_become 1 = .ok (.iload_n 1, 1) := by decide +kernel
theorem dX0_become_2 : decode cX0_become 2 = .ok (.putfield 22, 3) := by decide +kernel
theorem dX0_become_5 : decode cX0_become 5 = .ok (.iload_n 2, 1) := by decide +kernel
theorem dX0_become_6 : decode cX0_become 6 = .ok (.aload_n 0, 1) := by decide +kernel
theorem dX0_become_7 : decode cX0_become 7 = .ok (.getfield 26, 3) := by decide +kernel
theorem dX0_become_10 : decode cX0_become 10 = .ok (.if_icmp .ne 11, 3) := by decide +kernel
theorem dX0_become_13 : decode cX0_become 13 = .ok (.iload_n 3, 1) := by decide +kernel
theorem dX0_become_14 : decode cX0_become 14 = .ok (.aload_n 0, 1) := by decide +kernel
theorem dX0_become_15 : decode cX0_become 15 = .ok (.getfield 29, 3) := by decide +kernel
theorem dX0_become_18 : decode cX0_become 18 = .ok (.if_icmp .eq 17, 3) := by decide +kernel
theorem dX0_become_21 : decode cX0_become 21 = .ok (.aload_n 0, 1) := by decide +kernel
theorem dX0_become_22 : decode cX0_become 22 = .ok (.iload_n 2, 1) := by decide +kernel
theorem dX0_become_23 : decode cX0_become 23 = .ok (.putfield 26, 3) := by decide +kernel
theorem dX0_become_26 : decode cX0_become 26 = .ok (.aload_n 0, 1) := by decide +kernel
theorem dX0_become_27 : decode cX0_become 27 = .ok (.iload_n 3, 1) := by decide +kernel
theorem dX0_become_28 : decode cX0_become 28 = .ok (.putfield 29, 3) := by decide +kernel
theorem dX0_become_31 : decode cX0_become 31 = .ok (.aload_n 0, 1) := by decide +kernel
theorem dX0_become_32 : decode cX0_become 32 = .ok (.invokevirtual 32, 3) := by decide +kernel
theorem dX0_become_35 : decode cX0_become 35 = .ok (.return_, 1) := by decide +kernel
theorem dX0_countPlaces_0 : decode cX0_countPlaces 0 = .ok (.aload_n 0, 1) := by decide +kernel
theorem dX0_countPlaces_1 : decode cX0_countPlaces 1 = .ok (.getfield 22, 3) := by decide +kernel
theorem dX0_countPlaces_4 : decode cX0_countPlaces 4 = .ok (.ireturn, 1) := by decide +kernel
theorem dX0_countStates_0 : decode cX0_countStates 0 = .ok (.iconst 1, 1) := by decide +kernel
theorem dX0_countStates_1 : decode cX0_countStates 1 = .ok (.aload_n 0, 1) := by decide +kernel
theorem dX0_countStates_2 : decode cX0_countStates 2 = .ok (.getfield 22, 3) := by decide +kernel
theorem dX0_countStates_5 : decode cX0_countStates 5 = .ok (.ishl, 1) := by decide +kernel
theorem dX0_countStates_6 : decode cX0_countStates 6 = .ok (.ireturn, 1) := by decide +kernel
set_option maxRecDepth 20000 in
theorem ggX0_hasState_X0_countStates : GoodIn wsX0_hasState wsX0_countStates := goodIn_r _ [5, 6, 7, 8, 9, 10, 11] (by decide +kernel) (by decide +kernel)
set_option maxRecDepth 20000 in
theorem gX0_hasState_X0_countStates : GoodIn wsX0_hasState (wsV RX0 35 RX0 yX0_countStates wsX0_countStates) := goodIn_app (goodIn_of _ (by decide +kernel)) ggX0_hasState_X0_countStates
theorem dX0_hasState_0 : decode cX0_hasState 0 = .ok (.iload_n 1, 1) := by decide +kernel
theorem dX0_hasState_1 : decode cX0_hasState 1 = .ok (.ifCond .lt 15, 3) := by decide +kernel
theorem dX0_hasState_4 : decode cX0_hasState 4 = .ok (.iload_n 1, 1) := by decide +kernel
theorem dX0_hasState_5 : decode cX0_hasState 5 = .ok (.aload_n 0, 1) := by decide +kernel
theorem dX0_hasState_6 : decode cX0_hasState 6 = .ok (.invokevirtual 35, 3) := by decide +kernel
theorem dX0_hasState_9 : decode cX0_hasState 9 = .ok (.if_icmp .ge 7, 3) := by decide +kernel
theorem dX0_hasState_12 : decode cX0_hasState 12 = .ok (.iconst 1, 1) := by decide +kernel
theorem dX0_hasState_13 : decode cX0_hasState 13 = .ok (.goto 4, 3) := by decide +kernel
theorem dX0_hasState_16 : decode cX0_hasState 16 = .ok (.iconst 0, 1) := by decide +kernel
theorem dX0_hasState_17 : decode cX0_hasState 17 = .ok (.ireturn, 1) := by decide +kernel
set_option maxRecDepth 20000 in
theorem ggX0_weightOf_X0_weightOfWord : GoodIn wsX0_weightOf wsX0_weightOfWord := goodIn_r _ [6, 7, 8, 9, 10, 11, 12] (by decide +kernel) (by decide +kernel)
set_option maxRecDepth 20000 in
theorem gX0_weightOf_X0_weightOfWord : GoodIn wsX0_weightOf (wsV RX0 39 RX0 yX0_weightOfWord wsX0_weightOfWord) := goodIn_app (goodIn_of _ (by decide +kernel)) ggX0_weightOf_X0_weightOfWord
theorem dX0_weightOf_0 : decode cX0_weightOf 0 = .ok (.aload_n 0, 1) := by decide +kernel
theorem dX0_weightOf_1 : decode cX0_weightOf 1 = .ok (.aload_n 0, 1) := by decide +kernel
theorem dX0_weightOf_2 : decode cX0_weightOf 2 = .ok (.getfield 22, 3) := by decide +kernel
theorem dX0_weightOf_5 : decode cX0_weightOf 5 = .ok (.iload_n 1, 1) := by decide +kernel
theorem dX0_weightOf_6 : decode cX0_weightOf 6 = .ok (.invokevirtual 39, 3) := by decide +kernel
theorem dX0_weightOf_9 : decode cX0_weightOf 9 = .ok (.lreturn, 1) := by decide +kernel
theorem dX0_sumOf_0 : decode cX0_sumOf 0 = .ok (.iload_n 1, 1) := by decide +kernel
theorem dX0_sumOf_1 : decode cX0_sumOf 1 = .ok (.ifCond .lt 21, 3) := by decide +kernel
theorem dX0_sumOf_4 : decode cX0_sumOf 4 = .ok (.iload_n 1, 1) := by decide +kernel
theorem dX0_sumOf_5 : decode cX0_sumOf 5 = .ok (.aload_n 0, 1) := by decide +kernel
theorem dX0_sumOf_6 : decode cX0_sumOf 6 = .ok (.getfield 15, 3) := by decide +kernel
theorem dX0_sumOf_9 : decode cX0_sumOf 9 = .ok (.arraylength, 1) := by decide +kernel
theorem dX0_sumOf_10 : decode cX0_sumOf 10 = .ok (.if_icmp .ge 12, 3) := by decide +kernel
theorem dX0_sumOf_13 : decode cX0_sumOf 13 = .ok (.aload_n 0, 1) := by decide +kernel
theorem dX0_sumOf_14 : decode cX0_sumOf 14 = .ok (.getfield 15, 3) := by decide +kernel
theorem dX0_sumOf_17 : decode cX0_sumOf 17 = .ok (.iload_n 1, 1) := by decide +kernel
theorem dX0_sumOf_18 : decode cX0_sumOf 18 = .ok (.laload, 1) := by decide +kernel
theorem dX0_sumOf_19 : decode cX0_sumOf 19 = .ok (.goto 4, 3) := by decide +kernel
theorem dX0_sumOf_22 : decode cX0_sumOf 22 = .ok (.lconst 0, 1) := by decide +kernel
theorem dX0_sumOf_23 : decode cX0_sumOf 23 = .ok (.lreturn, 1) := by decide +kernel
set_option maxRecDepth 20000 in
theorem ggX0_sumWithTaken_X0_countStates : GoodIn wsX0_sumWithTaken wsX0_countStates := goodIn_r _ [5, 6, 16, 17, 18, 19, 20] (by decide +kernel) (by decide +kernel)
set_option maxRecDepth 20000 in
theorem gX0_sumWithTaken_X0_countStates : GoodIn wsX0_sumWithTaken (wsV RX0 35 RX0 yX0_countStates wsX0_countStates) := goodIn_app (goodIn_of _ (by decide +kernel)) ggX0_sumWithTaken_X0_countStates
set_option maxRecDepth 20000 in
theorem ggX0_sumWithTaken_X0_weightOf : GoodIn wsX0_sumWithTaken wsX0_weightOf := goodIn_r _ [10, 6, 11, 12, 13, 4, 14, 15, 16, 17, 18, 19, 20] (by decide +kernel) (by decide +kernel)
set_option maxRecDepth 20000 in
theorem gX0_sumWithTaken_X0_weightOf : GoodIn wsX0_sumWithTaken (wsV RX0 43 RX0 yX0_weightOf wsX0_weightOf) := goodIn_app (goodIn_of _ (by decide +kernel)) ggX0_sumWithTaken_X0_weightOf
theorem dX0_sumWithTaken_0 : decode cX0_sumWithTaken 0 = .ok (.lconst 0, 1) := by decide +kernel
theorem dX0_sumWithTaken_1 : decode cX0_sumWithTaken 1 = .ok (.lstore_n 2, 1) := by decide +kernel
theorem dX0_sumWithTaken_2 : decode cX0_sumWithTaken 2 = .ok (.iconst 0, 1) := by decide +kernel
theorem dX0_sumWithTaken_3 : decode cX0_sumWithTaken 3 = .ok (.istore 4, 2) := by decide +kernel
theorem dX0_sumWithTaken_5 : decode cX0_sumWithTaken 5 = .ok (.iload 4, 2) := by decide +kernel
theorem dX0_sumWithTaken_7 : decode cX0_sumWithTaken 7 = .ok (.aload_n 0, 1) := by decide +kernel
theorem dX0_sumWithTaken_8 : decode cX0_sumWithTaken 8 = .ok (.invokevirtual 35, 3) := by decide +kernel
theorem dX0_sumWithTaken_11 : decode cX0_sumWithTaken 11 = .ok (.if_icmp .ge 26, 3) := by decide +kernel
theorem dX0_sumWithTaken_14 : decode cX0_sumWithTaken 14 = .ok (.iload 4, 2) := by decide +kernel
theorem dX0_sumWithTaken_16 : decode cX0_sumWithTaken 16 = .ok (.iload_n 1, 1) := by decide +kernel
theorem dX0_sumWithTaken_17 : decode cX0_sumWithTaken 17 = .ok (.iand, 1) := by decide +kernel
theorem dX0_sumWithTaken_18 : decode cX0_sumWithTaken 18 = .ok (.iload_n 1, 1) := by decide +kernel
theorem dX0_sumWithTaken_19 : decode cX0_sumWithTaken 19 = .ok (.if_icmp .ne 12, 3) := by decide +kernel
theorem dX0_sumWithTaken_22 : decode cX0_sumWithTaken 22 = .ok (.lload_n 2, 1) := by decide +kernel
theorem dX0_sumWithTaken_23 : decode cX0_sumWithTaken 23 = .ok (.aload_n 0, 1) := by decide +kernel
theorem dX0_sumWithTaken_24 : decode cX0_sumWithTaken 24 = .ok (.iload 4, 2) := by decide +kernel
theorem dX0_sumWithTaken_26 : decode cX0_sumWithTaken 26 = .ok (.invokevirtual 43, 3) := by decide +kernel
theorem dX0_sumWithTaken_29 : decode cX0_sumWithTaken 29 = .ok (.ladd, 1) := by decide +kernel
theorem dX0_sumWithTaken_30 : decode cX0_sumWithTaken 30 = .ok (.lstore_n 2, 1) := by decide +kernel
theorem dX0_sumWithTaken_31 : decode cX0_sumWithTaken 31 = .ok (.iinc 4 1, 3) := by decide +kernel
theorem dX0_sumWithTaken_34 : decode cX0_sumWithTaken 34 = .ok (.goto (-29), 3) := by decide +kernel
theorem dX0_sumWithTaken_37 : decode cX0_sumWithTaken 37 = .ok (.lload_n 2, 1) := by decide +kernel
theorem dX0_sumWithTaken_38 : decode cX0_sumWithTaken 38 = .ok (.lreturn, 1) := by decide +kernel
set_option maxRecDepth 20000 in
theorem ggX0_flowInto_X3_isTaken : GoodIn wsX0_flowInto wsX3_isTaken := goodIn_r _ [4] (by decide +kernel) (by decide +kernel)
set_option maxRecDepth 20000 in
theorem gX0_flowInto_X3_isTaken_n47 : GoodIn wsX0_flowInto (wsX3_isTaken) := ggX0_flowInto_X3_isTaken
set_option maxRecDepth 20000 in
theorem ggX0_flowInto_X0_weightOf : GoodIn wsX0_flowInto wsX0_weightOf := goodIn_r _ [9, 1, 10, 11, 12, 8, 13, 14, 29, 30, 31, 32, 33] (by decide +kernel) (by decide +kernel)
set_option maxRecDepth 20000 in
theorem gX0_flowInto_X0_weightOf : GoodIn wsX0_flowInto (wsV RX0 43 RX0 yX0_weightOf wsX0_weightOf) := goodIn_app (goodIn_of _ (by decide +kernel)) ggX0_flowInto_X0_weightOf
set_option maxRecDepth 20000 in
theorem ggX0_flowInto_X0_rateIn : GoodIn wsX0_flowInto wsX0_rateIn := goodIn_r _ [18, 19, 29, 30, 31, 32, 33] (by decide +kernel) (by decide +kernel)
set_option maxRecDepth 20000 in
theorem gX0_flowInto_X0_rateIn : GoodIn wsX0_flowInto (wsV RX0 51 RX0 yX0_rateIn wsX0_rateIn) := goodIn_app (goodIn_of _ (by decide +kernel)) ggX0_flowInto_X0_rateIn
set_option maxRecDepth 20000 in
theorem ggX0_flowInto_X0_rateOut : GoodIn wsX0_flowInto wsX0_rateOut := goodIn_r _ [23, 24, 29, 30, 31, 32, 33] (by decide +kernel) (by decide +kernel)
set_option maxRecDepth 20000 in
theorem gX0_flowInto_X0_rateOut : GoodIn wsX0_flowInto (wsV RX0 55 RX0 yX0_rateOut wsX0_rateOut) := goodIn_app (goodIn_of _ (by decide +kernel)) ggX0_flowInto_X0_rateOut
set_option maxRecDepth 20000 in
theorem ggX0_flowInto_X0_rateOfStep : GoodIn wsX0_flowInto wsX0_rateOfStep := goodIn_r _ [28, 24, 19, 29, 30, 31, 32, 33] (by decide +kernel) (by decide +kernel)
set_option maxRecDepth 20000 in
theorem gX0_flowInto_X0_rateOfStep : GoodIn wsX0_flowInto (wsV RX0 58 RX0 yX0_rateOfStep wsX0_rateOfStep) := goodIn_app (goodIn_of _ (by decide +kernel)) ggX0_flowInto_X0_rateOfStep
theorem dX0_flowInto_0 : decode cX0_flowInto 0 = .ok (.lconst 0, 1) := by decide +kernel
theorem dX0_flowInto_1 : decode cX0_flowInto 1 = .ok (.lstore_n 2, 1) := by decide +kernel
theorem dX0_flowInto_2 : decode cX0_flowInto 2 = .ok (.iload_n 1, 1) := by decide +kernel
theorem dX0_flowInto_3 : decode cX0_flowInto 3 = .ok (.iconst 0, 1) := by decide +kernel
theorem dX0_flowInto_4 : decode cX0_flowInto 4 = .ok (.invokestatic 47, 3) := by decide +kernel
theorem dX0_flowInto_7 : decode cX0_flowInto 7 = .ok (.ifCond .eq 18, 3) := by decide +kernel
theorem dX0_flowInto_10 : decode cX0_flowInto 10 = .ok (.lload_n 2, 1) := by decide +kernel
theorem dX0_flowInto_11 : decode cX0_flowInto 11 = .ok (.aload_n 0, 1) := by decide +kernel
theorem dX0_flowInto_12 : decode cX0_flowInto 12 = .ok (.iload_n 1, 1) := by decide +kernel
theorem dX0_flowInto_13 : decode cX0_flowInto 13 = .ok (.iconst 1, 1) := by decide +kernel
theorem dX0_flowInto_14 : decode cX0_flowInto 14 = .ok (.ixor, 1) := by decide +kernel
theorem dX0_flowInto_15 : decode cX0_flowInto 15 = .ok (.invokevirtual 43, 3) := by decide +kernel
theorem dX0_flowInto_18 : decode cX0_flowInto 18 = .ok (.aload_n 0, 1) := by decide +kernel
theorem dX0_flowInto_19 : decode cX0_flowInto 19 = .ok (.invokevirtual 51, 3) := by decide +kernel
theorem dX0_flowInto_22 : decode cX0_flowInto 22 = .ok (.lmul, 1) := by decide +kernel
theorem dX0_flowInto_23 : decode cX0_flowInto 23 = .ok (.ladd, 1) := by decide +kernel
theorem dX0_flowInto_24 : decode cX0_flowInto 24 = .ok (.lstore_n 2, 1) := by decide +kernel
theorem dX0_flowInto_25 : decode cX0_flowInto 25 = .ok (.iload_n 1, 1) := by decide +kernel
theorem dX0_flowInto_26 : decode cX0_flowInto 26 = .ok (.aload_n 0, 1) := by decide +kernel
theorem dX0_flowInto_27 : decode cX0_flowInto 27 = .ok (.getfield 22, 3) := by decide +kernel
theorem dX0_flowInto_30 : decode cX0_flowInto 30 = .ok (.iconst 1, 1) := by decide +kernel
theorem dX0_flowInto_31 : decode cX0_flowInto 31 = .ok (.isub, 1) := by decide +kernel
theorem dX0_flowInto_32 : decode cX0_flowInto 32 = .ok (.invokestatic 47, 3) := by decide +kernel
theorem dX0_flowInto_35 : decode cX0_flowInto 35 = .ok (.ifCond .ne 25, 3) := by decide +kernel
theorem dX0_flowInto_38 : decode cX0_flowInto 38 = .ok (.lload_n 2, 1) := by decide +kernel
theorem dX0_flowInto_39 : decode cX0_flowInto 39 = .ok (.aload_n 0, 1) := by decide +kernel
theorem dX0_flowInto_40 : decode cX0_flowInto 40 = .ok (.iload_n 1, 1) := by decide +kernel
theorem dX0_flowInto_41 : decode cX0_flowInto 41 = .ok (.iconst 1, 1) := by decide +kernel
theorem dX0_flowInto_42 : decode cX0_flowInto 42 = .ok (.aload_n 0, 1) := by decide +kernel
theorem dX0_flowInto_43 : decode cX0_flowInto 43 = .ok (.getfield 22, 3) := by decide +kernel
theorem dX0_flowInto_46 : decode cX0_flowInto 46 = .ok (.iconst 1, 1) := by decide +kernel
theorem dX0_flowInto_47 : decode cX0_flowInto 47 = .ok (.isub, 1) := by decide +kernel
theorem dX0_flowInto_48 : decode cX0_flowInto 48 = .ok (.ishl, 1) := by decide +kernel
theorem dX0_flowInto_49 : decode cX0_flowInto 49 = .ok (.ixor, 1) := by decide +kernel
theorem dX0_flowInto_50 : decode cX0_flowInto 50 = .ok (.invokevirtual 43, 3) := by decide +kernel
theorem dX0_flowInto_53 : decode cX0_flowInto 53 = .ok (.aload_n 0, 1) := by decide +kernel
theorem dX0_flowInto_54 : decode cX0_flowInto 54 = .ok (.invokevirtual 55, 3) := by decide +kernel
theorem dX0_flowInto_57 : decode cX0_flowInto 57 = .ok (.lmul, 1) := by decide +kernel
theorem dX0_flowInto_58 : decode cX0_flowInto 58 = .ok (.ladd, 1) := by decide +kernel
theorem dX0_flowInto_59 : decode cX0_flowInto 59 = .ok (.lstore_n 2, 1) := by decide +kernel
theorem dX0_flowInto_60 : decode cX0_flowInto 60 = .ok (.iconst 0, 1) := by decide +kernel
theorem dX0_flowInto_61 : decode cX0_flowInto 61 = .ok (.istore 4, 2) := by decide +kernel
theorem dX0_flowInto_63 : decode cX0_flowInto 63 = .ok (.iload 4, 2) := by decide +kernel
theorem dX0_flowInto_65 : decode cX0_flowInto 65 = .ok (.aload_n 0, 1) := by decide +kernel
theorem dX0_flowInto_66 : decode cX0_flowInto 66 = .ok (.getfield 22, 3) := by decide +kernel
theorem dX0_flowInto_69 : decode cX0_flowInto 69 = .ok (.iconst 1, 1) := by decide +kernel
theorem dX0_flowInto_70 : decode cX0_flowInto 70 = .ok (.isub, 1) := by decide +kernel
theorem dX0_flowInto_71 : decode cX0_flowInto 71 = .ok (.if_icmp .ge 47, 3) := by decide +kernel
theorem dX0_flowInto_74 : decode cX0_flowInto 74 = .ok (.iload_n 1, 1) := by decide +kernel
theorem dX0_flowInto_75 : decode cX0_flowInto 75 = .ok (.iload 4, 2) := by decide +kernel
theorem dX0_flowInto_77 : decode cX0_flowInto 77 = .ok (.invokestatic 47, 3) := by decide +kernel
theorem dX0_flowInto_80 : decode cX0_flowInto 80 = .ok (.ifCond .ne 32, 3) := by decide +kernel
theorem dX0_flowInto_83 : decode cX0_flowInto 83 = .ok (.iload_n 1, 1) := by decide +kernel
theorem dX0_flowInto_84 : decode cX0_flowInto 84 = .ok (.iload 4, 2) := by decide +kernel
theorem dX0_flowInto_86 : decode cX0_flowInto 86 = .ok (.iconst 1, 1) := by decide +kernel
theorem dX0_flowInto_87 : decode cX0_flowInto 87 = .ok (.iadd, 1) := by decide +kernel
theorem dX0_flowInto_88 : decode cX0_flowInto 88 = .ok (.invokestatic 47, 3) := by decide +kernel
theorem dX0_flowInto_91 : decode cX0_flowInto 91 = .ok (.ifCond .eq 21, 3) := by decide +kernel
theorem dX0_flowInto_94 : decode cX0_flowInto 94 = .ok (.lload_n 2, 1) := by decide +kernel
theorem dX0_flowInto_95 : decode cX0_flowInto 95 = .ok (.aload_n 0, 1) := by decide +kernel
theorem dX0_flowInto_96 : decode cX0_flowInto 96 = .ok (.iload_n 1, 1) := by decide +kernel
theorem dX0_flowInto_97 : decode cX0_flowInto 97 = .ok (.iconst 3, 1) := by decide +kernel
theorem dX0_flowInto_98 : decode cX0_flowInto 98 = .ok (.iload 4, 2) := by decide +kernel
theorem dX0_flowInto_100 : decode cX0_flowInto 100 = .ok (.ishl, 1) := by decide +kernel
theorem dX0_flowInto_101 : decode cX0_flowInto 101 = .ok (.ixor, 1) := by decide +kernel
theorem dX0_flowInto_102 : decode cX0_flowInto 102 = .ok (.invokevirtual 43, 3) := by decide +kernel
theorem dX0_flowInto_105 : decode cX0_flowInto 105 = .ok (.aload_n 0, 1) := by decide +kernel
theorem dX0_flowInto_106 : decode cX0_flowInto 106 = .ok (.invokevirtual 58, 3) := by decide +kernel
theorem dX0_flowInto_109 : decode cX0_flowInto 109 = .ok (.lmul, 1) := by decide +kernel
theorem dX0_flowInto_110 : decode cX0_flowInto 110 = .ok (.ladd, 1) := by decide +kernel
theorem dX0_flowInto_111 : decode cX0_flowInto 111 = .ok (.lstore_n 2, 1) := by decide +kernel
theorem dX0_flowInto_112 : decode cX0_flowInto 112 = .ok (.iinc 4 1, 3) := by decide +kernel
theorem dX0_flowInto_115 : decode cX0_flowInto 115 = .ok (.goto (-52), 3) := by decide +kernel
theorem dX0_flowInto_118 : decode cX0_flowInto 118 = .ok (.lload_n 2, 1) := by decide +kernel
theorem dX0_flowInto_119 : decode cX0_flowInto 119 = .ok (.lreturn, 1) := by decide +kernel
set_option maxRecDepth 20000 in
theorem ggX0_flowOutOf_X3_isTaken : GoodIn wsX0_flowOutOf wsX3_isTaken := goodIn_r _ [4] (by decide +kernel) (by decide +kernel)
set_option maxRecDepth 20000 in
theorem gX0_flowOutOf_X3_isTaken_n47 : GoodIn wsX0_flowOutOf (wsX3_isTaken) := ggX0_flowOutOf_X3_isTaken
set_option maxRecDepth 20000 in
theorem ggX0_flowOutOf_X0_rateIn : GoodIn wsX0_flowOutOf wsX0_rateIn := goodIn_r _ [9, 10, 29, 30, 31, 32, 33] (by decide +kernel) (by decide +kernel)
set_option maxRecDepth 20000 in
theorem gX0_flowOutOf_X0_rateIn : GoodIn wsX0_flowOutOf (wsV RX0 51 RX0 yX0_rateIn wsX0_rateIn) := goodIn_app (goodIn_of _ (by decide +kernel)) ggX0_flowOutOf_X0_rateIn
set_option maxRecDepth 20000 in
theorem ggX0_flowOutOf_X0_rateOut : GoodIn wsX0_flowOutOf wsX0_rateOut := goodIn_r _ [14, 15, 29, 30, 31, 32, 33] (by decide +kernel) (by decide +kernel)
set_option maxRecDepth 20000 in
theorem gX0_flowOutOf_X0_rateOut : GoodIn wsX0_flowOutOf (wsV RX0 55 RX0 yX0_rateOut wsX0_rateOut) := goodIn_app (goodIn_of _ (by decide +kernel)) ggX0_flowOutOf_X0_rateOut
set_option maxRecDepth 20000 in
theorem ggX0_flowOutOf_X0_rateOfStep : GoodIn wsX0_flowOutOf wsX0_rateOfStep := goodIn_r _ [19, 15, 10, 29, 30, 31, 32, 33] (by decide +kernel) (by decide +kernel)
set_option maxRecDepth 20000 in
theorem gX0_flowOutOf_X0_rateOfStep : GoodIn wsX0_flowOutOf (wsV RX0 58 RX0 yX0_rateOfStep wsX0_rateOfStep) := goodIn_app (goodIn_of _ (by decide +kernel)) ggX0_flowOutOf_X0_rateOfStep
set_option maxRecDepth 20000 in
theorem ggX0_flowOutOf_X0_weightOf : GoodIn wsX0_flowOutOf wsX0_weightOf := goodIn_r _ [23, 1, 24, 25, 26, 8, 27, 28, 29, 30, 31, 32, 33] (by decide +kernel) (by decide +kernel)
set_option maxRecDepth 20000 in
theorem gX0_flowOutOf_X0_weightOf : GoodIn wsX0_flowOutOf (wsV RX0 43 RX0 yX0_weightOf wsX0_weightOf) := goodIn_app (goodIn_of _ (by decide +kernel)) ggX0_flowOutOf_X0_weightOf
theorem dX0_flowOutOf_0 : decode cX0_flowOutOf 0 = .ok (.lconst 0, 1) := by decide +kernel
theorem dX0_flowOutOf_1 : decode cX0_flowOutOf 1 = .ok (.lstore_n 2, 1) := by decide +kernel
theorem dX0_flowOutOf_2 : decode cX0_flowOutOf 2 = .ok (.iload_n 1, 1) := by decide +kernel
theorem dX0_flowOutOf_3 : decode cX0_flowOutOf 3 = .ok (.iconst 0, 1) := by decide +kernel
theorem dX0_flowOutOf_4 : decode cX0_flowOutOf 4 = .ok (.invokestatic 47, 3) := by decide +kernel
theorem dX0_flowOutOf_7 : decode cX0_flowOutOf 7 = .ok (.ifCond .ne 10, 3) := by decide +kernel
theorem dX0_flowOutOf_10 : decode cX0_flowOutOf 10 = .ok (.lload_n 2, 1) := by decide +kernel
theorem dX0_flowOutOf_11 : decode cX0_flowOutOf 11 = .ok (.aload_n 0, 1) := by decide +kernel
theorem dX0_flowOutOf_12 : decode cX0_flowOutOf 12 = .ok (.invokevirtual 51, 3) := by decide +kernel
theorem dX0_flowOutOf_15 : decode cX0_flowOutOf 15 = .ok (.ladd, 1) := by decide +kernel
theorem dX0_flowOutOf_16 : decode cX0_flowOutOf 16 = .ok (.lstore_n 2, 1) := by decide +kernel
theorem dX0_flowOutOf_17 : decode cX0_flowOutOf 17 = .ok (.iload_n 1, 1) := by decide +kernel
theorem dX0_flowOutOf_18 : decode cX0_flowOutOf 18 = .ok (.aload_n 0, 1) := by decide +kernel
theorem dX0_flowOutOf_19 : decode cX0_flowOutOf 19 = .ok (.getfield 22, 3) := by decide +kernel
theorem dX0_flowOutOf_22 : decode cX0_flowOutOf 22 = .ok (.iconst 1, 1) := by decide +kernel
theorem dX0_flowOutOf_23 : decode cX0_flowOutOf 23 = .ok (.isub, 1) := by decide +kernel
theorem dX0_flowOutOf_24 : decode cX0_flowOutOf 24 = .ok (.invokestatic 47, 3) := by decide +kernel
theorem dX0_flowOutOf_27 : decode cX0_flowOutOf 27 = .ok (.ifCond .eq 10, 3) := by decide +kernel
theorem dX0_flowOutOf_30 : decode cX0_flowOutOf 30 = .ok (.lload_n 2, 1) := by decide +kernel
theorem dX0_flowOutOf_31 : decode cX0_flowOutOf 31 = .ok (.aload_n 0, 1) := by decide +kernel
theorem dX0_flowOutOf_32 : decode cX0_flowOutOf 32 = .ok (.invokevirtual 55, 3) := by decide +kernel
theorem dX0_flowOutOf_35 : decode cX0_flowOutOf 35 = .ok (.ladd, 1) := by decide +kernel
theorem dX0_flowOutOf_36 : decode cX0_flowOutOf 36 = .ok (.lstore_n 2, 1) := by decide +kernel
theorem dX0_flowOutOf_37 : decode cX0_flowOutOf 37 = .ok (.iconst 0, 1) := by decide +kernel
theorem dX0_flowOutOf_38 : decode cX0_flowOutOf 38 = .ok (.istore 4, 2) := by decide +kernel
theorem dX0_flowOutOf_40 : decode cX0_flowOutOf 40 = .ok (.iload 4, 2) := by decide +kernel
theorem dX0_flowOutOf_42 : decode cX0_flowOutOf 42 = .ok (.aload_n 0, 1) := by decide +kernel
theorem dX0_flowOutOf_43 : decode cX0_flowOutOf 43 = .ok (.getfield 22, 3) := by decide +kernel
theorem dX0_flowOutOf_46 : decode cX0_flowOutOf 46 = .ok (.iconst 1, 1) := by decide +kernel
theorem dX0_flowOutOf_47 : decode cX0_flowOutOf 47 = .ok (.isub, 1) := by decide +kernel
theorem dX0_flowOutOf_48 : decode cX0_flowOutOf 48 = .ok (.if_icmp .ge 36, 3) := by decide +kernel
theorem dX0_flowOutOf_51 : decode cX0_flowOutOf 51 = .ok (.iload_n 1, 1) := by decide +kernel
theorem dX0_flowOutOf_52 : decode cX0_flowOutOf 52 = .ok (.iload 4, 2) := by decide +kernel
theorem dX0_flowOutOf_54 : decode cX0_flowOutOf 54 = .ok (.invokestatic 47, 3) := by decide +kernel
theorem dX0_flowOutOf_57 : decode cX0_flowOutOf 57 = .ok (.ifCond .eq 21, 3) := by decide +kernel
theorem dX0_flowOutOf_60 : decode cX0_flowOutOf 60 = .ok (.iload_n 1, 1) := by decide +kernel
theorem dX0_flowOutOf_61 : decode cX0_flowOutOf 61 = .ok (.iload 4, 2) := by decide +kernel
theorem dX0_flowOutOf_63 : decode cX0_flowOutOf 63 = .ok (.iconst 1, 1) := by decide +kernel
theorem dX0_flowOutOf_64 : decode cX0_flowOutOf 64 = .ok (.iadd, 1) := by decide +kernel
theorem dX0_flowOutOf_65 : decode cX0_flowOutOf 65 = .ok (.invokestatic 47, 3) := by decide +kernel
theorem dX0_flowOutOf_68 : decode cX0_flowOutOf 68 = .ok (.ifCond .ne 10, 3) := by decide +kernel
theorem dX0_flowOutOf_71 : decode cX0_flowOutOf 71 = .ok (.lload_n 2, 1) := by decide +kernel
theorem dX0_flowOutOf_72 : decode cX0_flowOutOf 72 = .ok (.aload_n 0, 1) := by decide +kernel
theorem dX0_flowOutOf_73 : decode cX0_flowOutOf 73 = .ok (.invokevirtual 58, 3) := by decide +kernel
theorem dX0_flowOutOf_76 : decode cX0_flowOutOf 76 = .ok (.ladd, 1) := by decide +kernel
theorem dX0_flowOutOf_77 : decode cX0_flowOutOf 77 = .ok (.lstore_n 2, 1) := by decide +kernel
theorem dX0_flowOutOf_78 : decode cX0_flowOutOf 78 = .ok (.iinc 4 1, 3) := by decide +kernel
theorem dX0_flowOutOf_81 : decode cX0_flowOutOf 81 = .ok (.goto (-41), 3) := by decide +kernel
theorem dX0_flowOutOf_84 : decode cX0_flowOutOf 84 = .ok (.aload_n 0, 1) := by decide +kernel
theorem dX0_flowOutOf_85 : decode cX0_flowOutOf 85 = .ok (.iload_n 1, 1) := by decide +kernel
theorem dX0_flowOutOf_86 : decode cX0_flowOutOf 86 = .ok (.invokevirtual 43, 3) := by decide +kernel
theorem dX0_flowOutOf_89 : decode cX0_flowOutOf 89 = .ok (.lload_n 2, 1) := by decide +kernel
theorem dX0_flowOutOf_90 : decode cX0_flowOutOf 90 = .ok (.lmul, 1) := by decide +kernel
theorem dX0_flowOutOf_91 : decode cX0_flowOutOf 91 = .ok (.lreturn, 1) := by decide +kernel
set_option maxRecDepth 20000 in
theorem ggX0_heaviestState_X0_countStates : GoodIn wsX0_heaviestState wsX0_countStates := goodIn_r _ [5, 6, 16, 17, 18, 19, 20] (by decide +kernel) (by decide +kernel)
set_option maxRecDepth 20000 in
theorem gX0_heaviestState_X0_countStates : GoodIn wsX0_heaviestState (wsV RX0 35 RX0 yX0_countStates wsX0_countStates) := goodIn_app (goodIn_of _ (by decide +kernel)) ggX0_heaviestState_X0_countStates
set_option maxRecDepth 20000 in
theorem ggX0_heaviestState_X0_weightOf : GoodIn wsX0_heaviestState wsX0_weightOf := goodIn_r _ [10, 6, 11, 12, 13, 4, 14, 15, 16, 17, 18, 19, 20] (by decide +kernel) (by decide +kernel)
set_option maxRecDepth 20000 in
theorem gX0_heaviestState_X0_weightOf : GoodIn wsX0_heaviestState (wsV RX0 43 RX0 yX0_weightOf wsX0_weightOf) := goodIn_app (goodIn_of _ (by decide +kernel)) ggX0_heaviestState_X0_weightOf
theorem dX0_heaviestState_0 : decode cX0_heaviestState 0 = .ok (.iconst 0, 1) := by decide +kernel
theorem dX0_heaviestState_1 : decode cX0_heaviestState 1 = .ok (.istore_n 1, 1) := by decide +kernel
theorem dX0_heaviestState_2 : decode cX0_heaviestState 2 = .ok (.iconst 1, 1) := by decide +kernel
theorem dX0_heaviestState_3 : decode cX0_heaviestState 3 = .ok (.istore_n 2, 1) := by decide +kernel
theorem dX0_heaviestState_4 : decode cX0_heaviestState 4 = .ok (.iload_n 2, 1) := by decide +kernel
theorem dX0_heaviestState_5 : decode cX0_heaviestState 5 = .ok (.aload_n 0, 1) := by decide +kernel
theorem dX0_heaviestState_6 : decode cX0_heaviestState 6 = .ok (.invokevirtual 35, 3) := by decide +kernel
theorem dX0_heaviestState_9 : decode cX0_heaviestState 9 = .ok (.if_icmp .ge 25, 3) := by decide +kernel
theorem dX0_heaviestState_12 : decode cX0_heaviestState 12 = .ok (.aload_n 0, 1) := by decide +kernel
theorem dX0_heaviestState_13 : decode cX0_heaviestState 13 = .ok (.iload_n 2, 1) := by decide +kernel
theorem dX0_heaviestState_14 : decode cX0_heaviestState 14 = .ok (.invokevirtual 43, 3) := by decide +kernel
theorem dX0_heaviestState_17 : decode cX0_heaviestState 17 = .ok (.aload_n 0, 1) := by decide +kernel
theorem dX0_heaviestState_18 : decode cX0_heaviestState 18 = .ok (.iload_n 1, 1) := by decide +kernel
theorem dX0_heaviestState_19 : decode cX0_heaviestState 19 = .ok (.invokevirtual 43, 3) := by decide +kernel
theorem dX0_heaviestState_22 : decode cX0_heaviestState 22 = .ok (.lcmp, 1) := by decide +kernel
theorem dX0_heaviestState_23 : decode cX0_heaviestState 23 = .ok (.ifCond .le 5, 3) := by decide +kernel
theorem dX0_heaviestState_26 : decode cX0_heaviestState 26 = .ok (.iload_n 2, 1) := by decide +kernel
theorem dX0_heaviestState_27 : decode cX0_heaviestState 27 = .ok (.istore_n 1, 1) := by decide +kernel
theorem dX0_heaviestState_28 : decode cX0_heaviestState 28 = .ok (.iinc 2 1, 3) := by decide +kernel
theorem dX0_heaviestState_31 : decode cX0_heaviestState 31 = .ok (.goto (-27), 3) := by decide +kernel
theorem dX0_heaviestState_34 : decode cX0_heaviestState 34 = .ok (.iload_n 1, 1) := by decide +kernel
theorem dX0_heaviestState_35 : decode cX0_heaviestState 35 = .ok (.ireturn, 1) := by decide +kernel
set_option maxRecDepth 20000 in
theorem ggX0_lightestState_X0_countStates : GoodIn wsX0_lightestState wsX0_countStates := goodIn_r _ [5, 6, 16, 17, 18, 19, 20] (by decide +kernel) (by decide +kernel)
set_option maxRecDepth 20000 in
theorem gX0_lightestState_X0_countStates : GoodIn wsX0_lightestState (wsV RX0 35 RX0 yX0_countStates wsX0_countStates) := goodIn_app (goodIn_of _ (by decide +kernel)) ggX0_lightestState_X0_countStates
set_option maxRecDepth 20000 in
theorem ggX0_lightestState_X0_weightOf : GoodIn wsX0_lightestState wsX0_weightOf := goodIn_r _ [10, 6, 11, 12, 13, 4, 14, 15, 16, 17, 18, 19, 20] (by decide +kernel) (by decide +kernel)
set_option maxRecDepth 20000 in
theorem gX0_lightestState_X0_weightOf : GoodIn wsX0_lightestState (wsV RX0 43 RX0 yX0_weightOf wsX0_weightOf) := goodIn_app (goodIn_of _ (by decide +kernel)) ggX0_lightestState_X0_weightOf
theorem dX0_lightestState_0 : decode cX0_lightestState 0 = .ok (.iconst 0, 1) := by decide +kernel
theorem dX0_lightestState_1 : decode cX0_lightestState 1 = .ok (.istore_n 1, 1) := by decide +kernel
theorem dX0_lightestState_2 : decode cX0_lightestState 2 = .ok (.iconst 1, 1) := by decide +kernel
theorem dX0_lightestState_3 : decode cX0_lightestState 3 = .ok (.istore_n 2, 1) := by decide +kernel
theorem dX0_lightestState_4 : decode cX0_lightestState 4 = .ok (.iload_n 2, 1) := by decide +kernel
theorem dX0_lightestState_5 : decode cX0_lightestState 5 = .ok (.aload_n 0, 1) := by decide +kernel
theorem dX0_lightestState_6 : decode cX0_lightestState 6 = .ok (.invokevirtual 35, 3) := by decide +kernel
theorem dX0_lightestState_9 : decode cX0_lightestState 9 = .ok (.if_icmp .ge 25, 3) := by decide +kernel
theorem dX0_lightestState_12 : decode cX0_lightestState 12 = .ok (.aload_n 0, 1) := by decide +kernel
theorem dX0_lightestState_13 : decode cX0_lightestState 13 = .ok (.iload_n 2, 1) := by decide +kernel
theorem dX0_lightestState_14 : decode cX0_lightestState 14 = .ok (.invokevirtual 43, 3) := by decide +kernel
theorem dX0_lightestState_17 : decode cX0_lightestState 17 = .ok (.aload_n 0, 1) := by decide +kernel
theorem dX0_lightestState_18 : decode cX0_lightestState 18 = .ok (.iload_n 1, 1) := by decide +kernel
theorem dX0_lightestState_19 : decode cX0_lightestState 19 = .ok (.invokevirtual 43, 3) := by decide +kernel
theorem dX0_lightestState_22 : decode cX0_lightestState 22 = .ok (.lcmp, 1) := by decide +kernel
theorem dX0_lightestState_23 : decode cX0_lightestState 23 = .ok (.ifCond .ge 5, 3) := by decide +kernel
theorem dX0_lightestState_26 : decode cX0_lightestState 26 = .ok (.iload_n 2, 1) := by decide +kernel
theorem dX0_lightestState_27 : decode cX0_lightestState 27 = .ok (.istore_n 1, 1) := by decide +kernel
theorem dX0_lightestState_28 : decode cX0_lightestState 28 = .ok (.iinc 2 1, 3) := by decide +kernel
theorem dX0_lightestState_31 : decode cX0_lightestState 31 = .ok (.goto (-27), 3) := by decide +kernel
theorem dX0_lightestState_34 : decode cX0_lightestState 34 = .ok (.iload_n 1, 1) := by decide +kernel
theorem dX0_lightestState_35 : decode cX0_lightestState 35 = .ok (.ireturn, 1) := by decide +kernel
theorem dX0_rateIn_0 : decode cX0_rateIn 0 = .ok (.aload_n 0, 1) := by decide +kernel
theorem dX0_rateIn_1 : decode cX0_rateIn 1 = .ok (.getfield 29, 3) := by decide +kernel
theorem dX0_rateIn_4 : decode cX0_rateIn 4 = .ok (.i2l, 1) := by decide +kernel
theorem dX0_rateIn_5 : decode cX0_rateIn 5 = .ok (.lreturn, 1) := by decide +kernel
theorem dX0_rateOut_0 : decode cX0_rateOut 0 = .ok (.aload_n 0, 1) := by decide +kernel
theorem dX0_rateOut_1 : decode cX0_rateOut 1 = .ok (.getfield 26, 3) := by decide +kernel
theorem dX0_rateOut_4 : decode cX0_rateOut 4 = .ok (.i2l, 1) := by decide +kernel
theorem dX0_rateOut_5 : decode cX0_rateOut 5 = .ok (.lreturn, 1) := by decide +kernel
theorem dX0_rateOfStep_0 : decode cX0_rateOfStep 0 = .ok (.aload_n 0, 1) := by decide +kernel
theorem dX0_rateOfStep_1 : decode cX0_rateOfStep 1 = .ok (.getfield 26, 3) := by decide +kernel
theorem dX0_rateOfStep_4 : decode cX0_rateOfStep 4 = .ok (.i2l, 1) := by decide +kernel
theorem dX0_rateOfStep_5 : decode cX0_rateOfStep 5 = .ok (.aload_n 0, 1) := by decide +kernel
theorem dX0_rateOfStep_6 : decode cX0_rateOfStep 6 = .ok (.getfield 29, 3) := by decide +kernel
theorem dX0_rateOfStep_9 : decode cX0_rateOfStep 9 = .ok (.i2l, 1) := by decide +kernel
theorem dX0_rateOfStep_10 : decode cX0_rateOfStep 10 = .ok (.lmul, 1) := by decide +kernel
theorem dX0_rateOfStep_11 : decode cX0_rateOfStep 11 = .ok (.lreturn, 1) := by decide +kernel
set_option maxRecDepth 20000 in
theorem ggX0_weighAllWords_X0_weigh : GoodIn wsX0_weighAllWords wsX0_weigh := goodIn_r _ [7, 8, 9, 10, 11, 12, 13, 14, 15, 6, 16, 1, 17, 18, 19, 20, 21, 22, 23, 24] (by decide +kernel) (by decide +kernel)
set_option maxRecDepth 20000 in
theorem gX0_weighAllWords_X0_weigh : GoodIn wsX0_weighAllWords (wsV RX0 61 RX0 yX0_weigh wsX0_weigh) := goodIn_app (goodIn_of _ (by decide +kernel)) ggX0_weighAllWords_X0_weigh
theorem dX0_weighAllWords_0 : decode cX0_weighAllWords 0 = .ok (.aload_n 0, 1) := by decide +kernel
theorem dX0_weighAllWords_1 : decode cX0_weighAllWords 1 = .ok (.getfield 9, 3) := by decide +kernel
theorem dX0_weighAllWords_4 : decode cX0_weighAllWords 4 = .ok (.iconst 1, 1) := by decide +kernel
theorem dX0_weighAllWords_5 : decode cX0_weighAllWords 5 = .ok (.lconst 1, 1) := by decide +kernel
theorem dX0_weighAllWords_6 : decode cX0_weighAllWords 6 = .ok (.lastore, 1) := by decide +kernel
theorem dX0_weighAllWords_7 : decode cX0_weighAllWords 7 = .ok (.aload_n 0, 1) := by decide +kernel
theorem dX0_weighAllWords_8 : decode cX0_weighAllWords 8 = .ok (.getfield 15, 3) := by decide +kernel
theorem dX0_weighAllWords_11 : decode cX0_weighAllWords 11 = .ok (.iconst 0, 1) := by decide +kernel
theorem dX0_weighAllWords_12 : decode cX0_weighAllWords 12 = .ok (.lconst 1, 1) := by decide +kernel
theorem dX0_weighAllWords_13 : decode cX0_weighAllWords 13 = .ok (.lastore, 1) := by decide +kernel
theorem dX0_weighAllWords_14 : decode cX0_weighAllWords 14 = .ok (.iconst 1, 1) := by decide +kernel
theorem dX0_weighAllWords_15 : decode cX0_weighAllWords 15 = .ok (.istore_n 1, 1) := by decide +kernel
theorem dX0_weighAllWords_16 : decode cX0_weighAllWords 16 = .ok (.iload_n 1, 1) := by decide +kernel
theorem dX0_weighAllWords_17 : decode cX0_weighAllWords 17 = .ok (.bipush 8, 2) := by decide +kernel
theorem dX0_weighAllWords_19 : decode cX0_weighAllWords 19 = .ok (.if_icmp .gt 62, 3) := by decide +kernel
theorem dX0_weighAllWords_22 : decode cX0_weighAllWords 22 = .ok (.lconst 0, 1) := by decide +kernel
theorem dX0_weighAllWords_23 : decode cX0_weighAllWords 23 = .ok (.lstore_n 2, 1) := by decide +kernel
theorem dX0_weighAllWords_24 : decode cX0_weighAllWords 24 = .ok (.iconst 0, 1) := by decide +kernel
theorem dX0_weighAllWords_25 : decode cX0_weighAllWords 25 = .ok (.istore 4, 2) := by decide +kernel
theorem dX0_weighAllWords_27 : decode cX0_weighAllWords 27 = .ok (.iload 4, 2) := by decide +kernel
theorem dX0_weighAllWords_29 : decode cX0_weighAllWords 29 = .ok (.iconst 1, 1) := by decide +kernel
theorem dX0_weighAllWords_30 : decode cX0_weighAllWords 30 = .ok (.iload_n 1, 1) := by decide +kernel
theorem dX0_weighAllWords_31 : decode cX0_weighAllWords 31 = .ok (.ishl, 1) := by decide +kernel
theorem dX0_weighAllWords_32 : decode cX0_weighAllWords 32 = .ok (.if_icmp .ge 36, 3) := by decide +kernel
theorem dX0_weighAllWords_35 : decode cX0_weighAllWords 35 = .ok (.aload_n 0, 1) := by decide +kernel
theorem dX0_weighAllWords_36 : decode cX0_weighAllWords 36 = .ok (.iload_n 1, 1) := by decide +kernel
theorem dX0_weighAllWords_37 : decode cX0_weighAllWords 37 = .ok (.iload 4, 2) := by decide +kernel
theorem dX0_weighAllWords_39 : decode cX0_weighAllWords 39 = .ok (.invokevirtual 61, 3) := by decide +kernel
theorem dX0_weighAllWords_42 : decode cX0_weighAllWords 42 = .ok (.lstore 5, 2) := by decide +kernel
theorem dX0_weighAllWords_44 : decode cX0_weighAllWords 44 = .ok (.aload_n 0, 1) := by decide +kernel
theorem dX0_weighAllWords_45 : decode cX0_weighAllWords 45 = .ok (.getfield 9, 3) := by decide +kernel
theorem dX0_weighAllWords_48 : decode cX0_weighAllWords 48 = .ok (.iconst 1, 1) := by decide +kernel
theorem dX0_weighAllWords_49 : decode cX0_weighAllWords 49 = .ok (.iload_n 1, 1) := by decide +kernel
theorem dX0_weighAllWords_50 : decode cX0_weighAllWords 50 = .ok (.ishl, 1) := by decide +kernel
theorem dX0_weighAllWords_51 : decode cX0_weighAllWords 51 = .ok (.iload 4, 2) := by decide +kernel
theorem dX0_weighAllWords_53 : decode cX0_weighAllWords 53 = .ok (.iadd, 1) := by decide +kernel
theorem dX0_weighAllWords_54 : decode cX0_weighAllWords 54 = .ok (.lload 5, 2) := by decide +kernel
theorem dX0_weighAllWords_56 : decode cX0_weighAllWords 56 = .ok (.lastore, 1) := by decide +kernel
theorem dX0_weighAllWords_57 : decode cX0_weighAllWords 57 = .ok (.lload_n 2, 1) := by decide +kernel
theorem dX0_weighAllWords_58 : decode cX0_weighAllWords 58 = .ok (.lload 5, 2) := by decide +kernel
theorem dX0_weighAllWords_60 : decode cX0_weighAllWords 60 = .ok (.ladd, 1) := by decide +kernel
theorem dX0_weighAllWords_61 : decode cX0_weighAllWords 61 = .ok (.lstore_n 2, 1) := by decide +kernel
theorem dX0_weighAllWords_62 : decode cX0_weighAllWords 62 = .ok (.iinc 4 1, 3) := by decide +kernel
theorem dX0_weighAllWords_65 : decode cX0_weighAllWords 65 = .ok (.goto (-38), 3) := by decide +kernel
theorem dX0_weighAllWords_68 : decode cX0_weighAllWords 68 = .ok (.aload_n 0, 1) := by decide +kernel
theorem dX0_weighAllWords_69 : decode cX0_weighAllWords 69 = .ok (.getfield 15, 3) := by decide +kernel
theorem dX0_weighAllWords_72 : decode cX0_weighAllWords 72 = .ok (.iload_n 1, 1) := by decide +kernel
theorem dX0_weighAllWords_73 : decode cX0_weighAllWords 73 = .ok (.lload_n 2, 1) := by decide +kernel
theorem dX0_weighAllWords_74 : decode cX0_weighAllWords 74 = .ok (.lastore, 1) := by decide +kernel
theorem dX0_weighAllWords_75 : decode cX0_weighAllWords 75 = .ok (.iinc 1 1, 3) := by decide +kernel
theorem dX0_weighAllWords_78 : decode cX0_weighAllWords 78 = .ok (.goto (-62), 3) := by decide +kernel
theorem dX0_weighAllWords_81 : decode cX0_weighAllWords 81 = .ok (.return_, 1) := by decide +kernel
set_option maxRecDepth 20000 in
theorem ggX0_weigh_X3_isTaken : GoodIn wsX0_weigh wsX3_isTaken := goodIn_r _ [5] (by decide +kernel) (by decide +kernel)
set_option maxRecDepth 20000 in
theorem gX0_weigh_X3_isTaken_n47 : GoodIn wsX0_weigh (wsX3_isTaken) := ggX0_weigh_X3_isTaken
set_option maxRecDepth 20000 in
theorem ggX0_weigh_X0_weightOfWord : GoodIn wsX0_weigh wsX0_weightOfWord := goodIn_r _ [10, 11, 15, 16, 17, 18, 19] (by decide +kernel) (by decide +kernel)
set_option maxRecDepth 20000 in
theorem gX0_weigh_X0_weightOfWord : GoodIn wsX0_weigh (wsV RX0 39 RX0 yX0_weightOfWord wsX0_weightOfWord) := goodIn_app (goodIn_of _ (by decide +kernel)) ggX0_weigh_X0_weightOfWord
set_option maxRecDepth 20000 in
theorem ggX0_weigh_X0_lastOfLeadingTaken : GoodIn wsX0_weigh wsX0_lastOfLeadingTaken := goodIn_r _ [14, 3, 4, 5] (by decide +kernel) (by decide +kernel)
set_option maxRecDepth 20000 in
theorem gX0_weigh_X0_lastOfLeadingTaken : GoodIn wsX0_weigh (va_wsS RX0 64 yX0_lastOfLeadingTaken wsX0_lastOfLeadingTaken) := goodIn_app (goodIn_of _ (by decide +kernel)) ggX0_weigh_X0_lastOfLeadingTaken
theorem dX0_weigh_0 : decode cX0_weigh 0 = .ok (.iload_n 2, 1) := by decide +kernel
theorem dX0_weigh_1 : decode cX0_weigh 1 = .ok (.iconst 0, 1) := by decide +kernel
theorem dX0_weigh_2 : decode cX0_weigh 2 = .ok (.invokestatic 47, 3) := by decide +kernel
theorem dX0_weigh_5 : decode cX0_weigh 5 = .ok (.ifCond .ne 20, 3) := by decide +kernel
theorem dX0_weigh_8 : decode cX0_weigh 8 = .ok (.aload_n 0, 1) := by decide +kernel
theorem dX0_weigh_9 : decode cX0_weigh 9 = .ok (.getfield 26, 3) := by decide +kernel
theorem dX0_weigh_12 : decode cX0_weigh 12 = .ok (.i2l, 1) := by decide +kernel
theorem dX0_weigh_13 : decode cX0_weigh 13 = .ok (.aload_n 0, 1) := by decide +kernel
theorem dX0_weigh_14 : decode cX0_weigh 14 = .ok (.iload_n 1, 1) := by decide +kernel
theorem dX0_weigh_15 : decode cX0_weigh 15 = .ok (.iconst 1, 1) := by decide +kernel
theorem dX0_weigh_16 : decode cX0_weigh 16 = .ok (.isub, 1) := by decide +kernel
theorem dX0_weigh_17 : decode cX0_weigh 17 = .ok (.iload_n 2, 1) := by decide +kernel
theorem dX0_weigh_18 : decode cX0_weigh 18 = .ok (.iconst 1, 1) := by decide +kernel
theorem dX0_weigh_19 : decode cX0_weigh 19 = .ok (.ishr, 1) := by decide +kernel
theorem dX0_weigh_20 : decode cX0_weigh 20 = .ok (.invokevirtual 39, 3) := by decide +kernel
theorem dX0_weigh_23 : decode cX0_weigh 23 = .ok (.lmul, 1) := by decide +kernel
theorem dX0_weigh_24 : decode cX0_weigh 24 = .ok (.lreturn, 1) := by decide +kernel
theorem dX0_weigh_25 : decode cX0_weigh 25 = .ok (.iload_n 2, 1) := by decide +kernel
theorem dX0_weigh_26 : decode cX0_weigh 26 = .ok (.iload_n 1, 1) := by decide +kernel
theorem dX0_weigh_27 : decode cX0_weigh 27 = .ok (.iconst 1, 1) := by decide +kernel
theorem dX0_weigh_28 : decode cX0_weigh 28 = .ok (.isub, 1) := by decide +kernel
theorem dX0_weigh_29 : decode cX0_weigh 29 = .ok (.invokestatic 47, 3) := by decide +kernel
theorem dX0_weigh_32 : decode cX0_weigh 32 = .ok (.ifCond .eq 24, 3) := by decide +kernel
theorem dX0_weigh_35 : decode cX0_weigh 35 = .ok (.aload_n 0, 1) := by decide +kernel
theorem dX0_weigh_36 : decode cX0_weigh 36 = .ok (.getfield 29, 3) := by decide +kernel
theorem dX0_weigh_39 : decode cX0_weigh 39 = .ok (.i2l, 1) := by decide +kernel
theorem dX0_weigh_40 : decode cX0_weigh 40 = .ok (.aload_n 0, 1) := by decide +kernel
theorem dX0_weigh_41 : decode cX0_weigh 41 = .ok (.iload_n 1, 1) := by decide +kernel
theorem dX0_weigh_42 : decode cX0_weigh 42 = .ok (.iconst 1, 1) := by decide +kernel
theorem dX0_weigh_43 : decode cX0_weigh 43 = .ok (.isub, 1) := by decide +kernel
theorem dX0_weigh_44 : decode cX0_weigh 44 = .ok (.iload_n 2, 1) := by decide +kernel
theorem dX0_weigh_45 : decode cX0_weigh 45 = .ok (.iconst 1, 1) := by decide +kernel
theorem dX0_weigh_46 : decode cX0_weigh 46 = .ok (.iload_n 1, 1) := by decide +kernel
theorem dX0_weigh_47 : decode cX0_weigh 47 = .ok (.iconst 1, 1) := by decide +kernel
theorem dX0_weigh_48 : decode cX0_weigh 48 = .ok (.isub, 1) := by decide +kernel
theorem dX0_weigh_49 : decode cX0_weigh 49 = .ok (.ishl, 1) := by decide +kernel
theorem dX0_weigh_50 : decode cX0_weigh 50 = .ok (.ixor, 1) := by decide +kernel
theorem dX0_weigh_51 : decode cX0_weigh 51 = .ok (.invokevirtual 39, 3) := by decide +kernel
theorem dX0_weigh_54 : decode cX0_weigh 54 = .ok (.lmul, 1) := by decide +kernel
theorem dX0_weigh_55 : decode cX0_weigh 55 = .ok (.lreturn, 1) := by decide +kernel
theorem dX0_weigh_56 : decode cX0_weigh 56 = .ok (.iload_n 1, 1) := by decide +kernel
theorem dX0_weigh_57 : decode cX0_weigh 57 = .ok (.iload_n 2, 1) := by decide +kernel
theorem dX0_weigh_58 : decode cX0_weigh 58 = .ok (.invokestatic 64, 3) := by decide +kernel
theorem dX0_weigh_61 : decode cX0_weigh 61 = .ok (.istore_n 3, 1) := by decide +kernel
theorem dX0_weigh_62 : decode cX0_weigh 62 = .ok (.iload_n 2, 1) := by decide +kernel
theorem dX0_weigh_63 : decode cX0_weigh 63 = .ok (.iconst 1, 1) := by decide +kernel
theorem dX0_weigh_64 : decode cX0_weigh 64 = .ok (.iload_n 3, 1) := by decide +kernel
theorem dX0_weigh_65 : decode cX0_weigh 65 = .ok (.ishl, 1) := by decide +kernel
theorem dX0_weigh_66 : decode cX0_weigh 66 = .ok (.iconst 1, 1) := by decide +kernel
theorem dX0_weigh_67 : decode cX0_weigh 67 = .ok (.isub, 1) := by decide +kernel
theorem dX0_weigh_68 : decode cX0_weigh 68 = .ok (.iand, 1) := by decide +kernel
theorem dX0_weigh_69 : decode cX0_weigh 69 = .ok (.istore 4, 2) := by decide +kernel
theorem dX0_weigh_71 : decode cX0_weigh 71 = .ok (.iload_n 2, 1) := by decide +kernel
theorem dX0_weigh_72 : decode cX0_weigh 72 = .ok (.iload_n 3, 1) := by decide +kernel
theorem dX0_weigh_73 : decode cX0_weigh 73 = .ok (.iconst 2, 1) := by decide +kernel
theorem dX0_weigh_74 : decode cX0_weigh 74 = .ok (.iadd, 1) := by decide +kernel
theorem dX0_weigh_75 : decode cX0_weigh 75 = .ok (.ishr, 1) := by decide +kernel
theorem dX0_weigh_76 : decode cX0_weigh 76 = .ok (.iload_n 3, 1) := by decide +kernel
theorem dX0_weigh_77 : decode cX0_weigh 77 = .ok (.iconst 1, 1) := by decide +kernel
theorem dX0_weigh_78 : decode cX0_weigh 78 = .ok (.iadd, 1) := by decide +kernel
theorem dX0_weigh_79 : decode cX0_weigh 79 = .ok (.ishl, 1) := by decide +kernel
theorem dX0_weigh_80 : decode cX0_weigh 80 = .ok (.istore 5, 2) := by decide +kernel
theorem dX0_weigh_82 : decode cX0_weigh 82 = .ok (.aload_n 0, 1) := by decide +kernel
theorem dX0_weigh_83 : decode cX0_weigh 83 = .ok (.iload_n 1, 1) := by decide +kernel
theorem dX0_weigh_84 : decode cX0_weigh 84 = .ok (.iconst 1, 1) := by decide +kernel
theorem dX0_weigh_85 : decode cX0_weigh 85 = .ok (.isub, 1) := by decide +kernel
theorem dX0_weigh_86 : decode cX0_weigh 86 = .ok (.iload 4, 2) := by decide +kernel
theorem dX0_weigh_88 : decode cX0_weigh 88 = .ok (.iconst 1, 1) := by decide +kernel
theorem dX0_weigh_89 : decode cX0_weigh 89 = .ok (.iload_n 3, 1) := by decide +kernel
theorem dX0_weigh_90 : decode cX0_weigh 90 = .ok (.ishl, 1) := by decide +kernel
theorem dX0_weigh_91 : decode cX0_weigh 91 = .ok (.ior, 1) := by decide +kernel
theorem dX0_weigh_92 : decode cX0_weigh 92 = .ok (.iload 5, 2) := by decide +kernel
theorem dX0_weigh_94 : decode cX0_weigh 94 = .ok (.ior, 1) := by decide +kernel
theorem dX0_weigh_95 : decode cX0_weigh 95 = .ok (.invokevirtual 39, 3) := by decide +kernel
theorem dX0_weigh_98 : decode cX0_weigh 98 = .ok (.aload_n 0, 1) := by decide +kernel
theorem dX0_weigh_99 : decode cX0_weigh 99 = .ok (.iload_n 1, 1) := by decide +kernel
theorem dX0_weigh_100 : decode cX0_weigh 100 = .ok (.iconst 1, 1) := by decide +kernel
theorem dX0_weigh_101 : decode cX0_weigh 101 = .ok (.isub, 1) := by decide +kernel
theorem dX0_weigh_102 : decode cX0_weigh 102 = .ok (.iload 4, 2) := by decide +kernel
theorem dX0_weigh_104 : decode cX0_weigh 104 = .ok (.iload 5, 2) := by decide +kernel
theorem dX0_weigh_106 : decode cX0_weigh 106 = .ok (.ior, 1) := by decide +kernel
theorem dX0_weigh_107 : decode cX0_weigh 107 = .ok (.invokevirtual 39, 3) := by decide +kernel
theorem dX0_weigh_110 : decode cX0_weigh 110 = .ok (.ladd, 1) := by decide +kernel
theorem dX0_weigh_111 : decode cX0_weigh 111 = .ok (.lreturn, 1) := by decide +kernel
set_option maxRecDepth 20000 in
theorem ggX0_lastOfLeadingTaken_X3_isTaken : GoodIn wsX0_lastOfLeadingTaken wsX3_isTaken := goodIn_r _ [3] (by decide +kernel) (by decide +kernel)
set_option maxRecDepth 20000 in
theorem gX0_lastOfLeadingTaken_X3_isTaken_n47 : GoodIn wsX0_lastOfLeadingTaken (wsX3_isTaken) := ggX0_lastOfLeadingTaken_X3_isTaken
theorem dX0_lastOfLeadingTaken_0 : decode cX0_lastOfLeadingTaken 0 = .ok (.iconst 0, 1) := by decide +kernel
theorem dX0_lastOfLeadingTaken_1 : decode cX0_lastOfLeadingTaken 1 = .ok (.istore_n 2, 1) := by decide +kernel
theorem dX0_lastOfLeadingTaken_2 : decode cX0_lastOfLeadingTaken 2 = .ok (.iload_n 2, 1) := by decide +kernel
theorem dX0_lastOfLeadingTaken_3 : decode cX0_lastOfLeadingTaken 3 = .ok (.iload_n 0, 1) := by decide +kernel
theorem dX0_lastOfLeadingTaken_4 : decode cX0_lastOfLeadingTaken 4 = .ok (.iconst 1, 1) := by decide +kernel
theorem dX0_lastOfLeadingTaken_5 : decode cX0_lastOfLeadingTaken 5 = .ok (.isub, 1) := by decide +kernel
theorem dX0_lastOfLeadingTaken_6 : decode cX0_lastOfLeadingTaken 6 = .ok (.if_icmp .ge 19, 3) := by decide +kernel
theorem dX0_lastOfLeadingTaken_9 : decode cX0_lastOfLeadingTaken 9 = .ok (.iload_n 1, 1) := by decide +kernel
theorem dX0_lastOfLeadingTaken_10 : decode cX0_lastOfLeadingTaken 10 = .ok (.iload_n 2, 1) := by decide +kernel
theorem dX0_lastOfLeadingTaken_11 : decode cX0_lastOfLeadingTaken 11 = .ok (.iconst 1, 1) := by decide +kernel
theorem dX0_lastOfLeadingTaken_12 : decode cX0_lastOfLeadingTaken 12 = .ok (.iadd, 1) := by decide +kernel
theorem dX0_lastOfLeadingTaken_13 : decode cX0_lastOfLeadingTaken 13 = .ok (.invokestatic 47, 3) := by decide +kernel
theorem dX0_lastOfLeadingTaken_16 : decode cX0_lastOfLeadingTaken 16 = .ok (.ifCond .eq 9, 3) := by decide +kernel
theorem dX0_lastOfLeadingTaken_19 : decode cX0_lastOfLeadingTaken 19 = .ok (.iinc 2 1, 3) := by decide +kernel
theorem dX0_lastOfLeadingTaken_22 : decode cX0_lastOfLeadingTaken 22 = .ok (.goto (-20), 3) := by decide +kernel
theorem dX0_lastOfLeadingTaken_25 : decode cX0_lastOfLeadingTaken 25 = .ok (.iload_n 2, 1) := by decide +kernel
theorem dX0_lastOfLeadingTaken_26 : decode cX0_lastOfLeadingTaken 26 = .ok (.ireturn, 1) := by decide +kernel
theorem dX0_weightOfWord_0 : decode cX0_weightOfWord 0 = .ok (.iconst 1, 1) := by decide +kernel
theorem dX0_weightOfWord_1 : decode cX0_weightOfWord 1 = .ok (.iload_n 1, 1) := by decide +kernel
theorem dX0_weightOfWord_2 : decode cX0_weightOfWord 2 = .ok (.ishl, 1) := by decide +kernel
theorem dX0_weightOfWord_3 : decode cX0_weightOfWord 3 = .ok (.iload_n 2, 1) := by decide +kernel
theorem dX0_weightOfWord_4 : decode cX0_weightOfWord 4 = .ok (.iadd, 1) := by decide +kernel
theorem dX0_weightOfWord_5 : decode cX0_weightOfWord 5 = .ok (.istore_n 3, 1) := by decide +kernel
theorem dX0_weightOfWord_6 : decode cX0_weightOfWord 6 = .ok (.iload_n 3, 1) := by decide +kernel
theorem dX0_weightOfWord_7 : decode cX0_weightOfWord 7 = .ok (.ifCond .lt 21, 3) := by decide +kernel
theorem dX0_weightOfWord_10 : decode cX0_weightOfWord 10 = .ok (.iload_n 3, 1) := by decide +kernel
theorem dX0_weightOfWord_11 : decode cX0_weightOfWord 11 = .ok (.aload_n 0, 1) := by decide +kernel
theorem dX0_weightOfWord_12 : decode cX0_weightOfWord 12 = .ok (.getfield 9, 3) := by decide +kernel
theorem dX0_weightOfWord_15 : decode cX0_weightOfWord 15 = .ok (.arraylength, 1) := by decide +kernel
theorem dX0_weightOfWord_16 : decode cX0_weightOfWord 16 = .ok (.if_icmp .ge 12, 3) := by decide +kernel
theorem dX0_weightOfWord_19 : decode cX0_weightOfWord 19 = .ok (.aload_n 0, 1) := by decide +kernel
theorem dX0_weightOfWord_20 : decode cX0_weightOfWord 20 = .ok (.getfield 9, 3) := by decide +kernel
theorem dX0_weightOfWord_23 : decode cX0_weightOfWord 23 = .ok (.iload_n 3, 1) := by decide +kernel
theorem dX0_weightOfWord_24 : decode cX0_weightOfWord 24 = .ok (.laload, 1) := by decide +kernel
theorem dX0_weightOfWord_25 : decode cX0_weightOfWord 25 = .ok (.goto 4, 3) := by decide +kernel
theorem dX0_weightOfWord_28 : decode cX0_weightOfWord 28 = .ok (.lconst 0, 1) := by decide +kernel
theorem dX0_weightOfWord_29 : decode cX0_weightOfWord 29 = .ok (.lreturn, 1) := by decide +kernel
set_option maxRecDepth 20000 in
theorem ggX1_areRows_X3_isWithin : GoodIn wsX1_areRows wsX3_isWithin := goodIn_r _ [3] (by decide +kernel) (by decide +kernel)
set_option maxRecDepth 20000 in
theorem gX1_areRows_X3_isWithin_n7 : GoodIn wsX1_areRows (wsX3_isWithin) := ggX1_areRows_X3_isWithin
set_option maxRecDepth 20000 in
theorem ggX1_areRows_J6_bitCount_0f7a4 : GoodIn wsX1_areRows wsJ6_bitCount_0f7a4 := goodIn_r _ [7, 8, 9, 10] (by decide +kernel) (by decide +kernel)
set_option maxRecDepth 20000 in
theorem gX1_areRows_J6_bitCount_0f7a4 : GoodIn wsX1_areRows (va_wsS RX1 13 yJ6_bitCount_0f7a4 wsJ6_bitCount_0f7a4) := goodIn_app (goodIn_of _ (by decide +kernel)) ggX1_areRows_J6_bitCount_0f7a4
theorem dX1_areRows_0 : decode cX1_areRows 0 = .ok (.iconst 1, 1) := by decide +kernel
theorem dX1_areRows_1 : decode cX1_areRows 1 = .ok (.iload_n 0, 1) := by decide +kernel
theorem dX1_areRows_2 : decode cX1_areRows 2 = .ok (.ishl, 1) := by decide +kernel
theorem dX1_areRows_3 : decode cX1_areRows 3 = .ok (.iconst 1, 1) := by decide +kernel
theorem dX1_areRows_4 : decode cX1_areRows 4 = .ok (.isub, 1) := by decide +kernel
theorem dX1_areRows_5 : decode cX1_areRows 5 = .ok (.istore_n 3, 1) := by decide +kernel
theorem dX1_areRows_6 : decode cX1_areRows 6 = .ok (.iload_n 1, 1) := by decide +kernel
theorem dX1_areRows_7 : decode cX1_areRows 7 = .ok (.iconst 1, 1) := by decide +kernel
theorem dX1_areRows_8 : decode cX1_areRows 8 = .ok (.iload_n 3, 1) := by decide +kernel
theorem dX1_areRows_9 : decode cX1_areRows 9 = .ok (.invokestatic 7, 3) := by decide +kernel
theorem dX1_areRows_12 : decode cX1_areRows 12 = .ok (.ifCond .eq 14, 3) := by decide +kernel
theorem dX1_areRows_15 : decode cX1_areRows 15 = .ok (.iload_n 2, 1) := by decide +kernel
theorem dX1_areRows_16 : decode cX1_areRows 16 = .ok (.iconst 1, 1) := by decide +kernel
theorem dX1_areRows_17 : decode cX1_areRows 17 = .ok (.iload_n 3, 1) := by decide +kernel
theorem dX1_areRows_18 : decode cX1_areRows 18 = .ok (.iconst 1, 1) := by decide +kernel
theorem dX1_areRows_19 : decode cX1_areRows 19 = .ok (.isub, 1) := by decide +kernel
theorem dX1_areRows_20 : decode cX1_areRows 20 = .ok (.invokestatic 7, 3) := by decide +kernel
theorem dX1_areRows_23 : decode cX1_areRows 23 = .ok (.ifCond .ne 5, 3) := by decide +kernel
theorem dX1_areRows_26 : decode cX1_areRows 26 = .ok (.iconst 0, 1) := by decide +kernel
theorem dX1_areRows_27 : decode cX1_areRows 27 = .ok (.ireturn, 1) := by decide +kernel
theorem dX1_areRows_28 : decode cX1_areRows 28 = .ok (.iload_n 2, 1) := by decide +kernel
theorem dX1_areRows_29 : decode cX1_areRows 29 = .ok (.invokestatic 13, 3) := by decide +kernel
theorem dX1_areRows_32 : decode cX1_areRows 32 = .ok (.iload_n 1, 1) := by decide +kernel
theorem dX1_areRows_33 : decode cX1_areRows 33 = .ok (.invokestatic 13, 3) := by decide +kernel
theorem dX1_areRows_36 : decode cX1_areRows 36 = .ok (.if_icmp .le 7, 3) := by decide +kernel
theorem dX1_areRows_39 : decode cX1_areRows 39 = .ok (.iconst 1, 1) := by decide +kernel
theorem dX1_areRows_40 : decode cX1_areRows 40 = .ok (.goto 4, 3) := by decide +kernel
theorem dX1_areRows_43 : decode cX1_areRows 43 = .ok (.iconst 0, 1) := by decide +kernel
theorem dX1_areRows_44 : decode cX1_areRows 44 = .ok (.ireturn, 1) := by decide +kernel
set_option maxRecDepth 20000 in
theorem ggX1_servedPlaces_X3_isTaken : GoodIn wsX1_servedPlaces wsX3_isTaken := goodIn_r _ [3] (by decide +kernel) (by decide +kernel)
set_option maxRecDepth 20000 in
theorem gX1_servedPlaces_X3_isTaken_n19 : GoodIn wsX1_servedPlaces (wsX3_isTaken) := ggX1_servedPlaces_X3_isTaken
set_option maxRecDepth 20000 in
theorem ggX1_servedPlaces_X1_firstFrom : GoodIn wsX1_servedPlaces wsX1_firstFrom := goodIn_r _ [7, 1, 2, 3] (by decide +kernel) (by decide +kernel)
set_option maxRecDepth 20000 in
theorem gX1_servedPlaces_X1_firstFrom : GoodIn wsX1_servedPlaces (va_wsS RX1 23 yX1_firstFrom wsX1_firstFrom) := goodIn_app (goodIn_of _ (by decide +kernel)) ggX1_servedPlaces_X1_firstFrom
theorem dX1_servedPlaces_0 : decode cX1_servedPlaces 0 = .ok (.iconst 0, 1) := by decide +kernel
theorem dX1_servedPlaces_1 : decode cX1_servedPlaces 1 = .ok (.istore_n 3, 1) := by decide +kernel
theorem dX1_servedPlaces_2 : decode cX1_servedPlaces 2 = .ok (.iconst 0, 1) := by decide +kernel
theorem dX1_servedPlaces_3 : decode cX1_servedPlaces 3 = .ok (.istore 4, 2) := by decide +kernel
theorem dX1_servedPlaces_5 : decode cX1_servedPlaces 5 = .ok (.iload 4, 2) := by decide +kernel
theorem dX1_servedPlaces_7 : decode cX1_servedPlaces 7 = .ok (.iload_n 0, 1) := by decide +kernel
theorem dX1_servedPlaces_8 : decode cX1_servedPlaces 8 = .ok (.if_icmp .ge 32, 3) := by decide +kernel
theorem dX1_servedPlaces_11 : decode cX1_servedPlaces 11 = .ok (.iload_n 1, 1) := by decide +kernel
theorem dX1_servedPlaces_12 : decode cX1_servedPlaces 12 = .ok (.iload 4, 2) := by decide +kernel
theorem dX1_servedPlaces_14 : decode cX1_servedPlaces 14 = .ok (.invokestatic 19, 3) := by decide +kernel
theorem dX1_servedPlaces_17 : decode cX1_servedPlaces 17 = .ok (.ifCond .eq 17, 3) := by decide +kernel
theorem dX1_servedPlaces_20 : decode cX1_servedPlaces 20 = .ok (.iload_n 3, 1) := by decide +kernel
theorem dX1_servedPlaces_21 : decode cX1_servedPlaces 21 = .ok (.iload_n 0, 1) := by decide +kernel
theorem dX1_servedPlaces_22 : decode cX1_servedPlaces 22 = .ok (.iload 4, 2) := by decide +kernel
theorem dX1_servedPlaces_24 : decode cX1_servedPlaces 24 = .ok (.iload_n 2, 1) := by decide +kernel
theorem dX1_servedPlaces_25 : decode cX1_servedPlaces 25 = .ok (.iload_n 3, 1) := by decide +kernel
theorem dX1_servedPlaces_26 : decode cX1_servedPlaces 26 = .ok (.iconst (-1), 1) := by decide +kernel
theorem dX1_servedPlaces_27 : decode cX1_servedPlaces 27 = .ok (.ixor, 1) := by decide +kernel
theorem dX1_servedPlaces_28 : decode cX1_servedPlaces 28 = .ok (.iand, 1) := by decide +kernel
theorem dX1_servedPlaces_29 : decode cX1_servedPlaces 29 = .ok (.invokestatic 23, 3) := by decide +kernel
theorem dX1_servedPlaces_32 : decode cX1_servedPlaces 32 = .ok (.ior, 1) := by decide +kernel
theorem dX1_servedPlaces_33 : decode cX1_servedPlaces 33 = .ok (.istore_n 3, 1) := by decide +kernel
theorem dX1_servedPlaces_34 : decode cX1_servedPlaces 34 = .ok (.iinc 4 1, 3) := by decide +kernel
theorem dX1_servedPlaces_37 : decode cX1_servedPlaces 37 = .ok (.goto (-32), 3) := by decide +kernel
theorem dX1_servedPlaces_40 : decode cX1_servedPlaces 40 = .ok (.iload_n 3, 1) := by decide +kernel
theorem dX1_servedPlaces_41 : decode cX1_servedPlaces 41 = .ok (.ireturn, 1) := by decide +kernel
set_option maxRecDepth 20000 in
theorem ggX1_firstFrom_X3_isTaken : GoodIn wsX1_firstFrom wsX3_isTaken := goodIn_r _ [3] (by decide +kernel) (by decide +kernel)
set_option maxRecDepth 20000 in
theorem gX1_firstFrom_X3_isTaken_n19 : GoodIn wsX1_firstFrom (wsX3_isTaken) := ggX1_firstFrom_X3_isTaken
theorem dX1_firstFrom_0 : decode cX1_firstFrom 0 = .ok (.iload_n 1, 1) := by decide +kernel
theorem dX1_firstFrom_1 : decode cX1_firstFrom 1 = .ok (.istore_n 3, 1) := by decide +kernel
theorem dX1_firstFrom_2 : decode cX1_firstFrom 2 = .ok (.iconst 0, 1) := by decide +kernel
theorem dX1_firstFrom_3 : decode cX1_firstFrom 3 = .ok (.istore 4, 2) := by decide +kernel
theorem dX1_firstFrom_5 : decode cX1_firstFrom 5 = .ok (.iload 4, 2) := by decide +kernel
theorem dX1_firstFrom_7 : decode cX1_firstFrom 7 = .ok (.iload_n 0, 1) := by decide +kernel
theorem dX1_firstFrom_8 : decode cX1_firstFrom 8 = .ok (.if_icmp .ge 35, 3) := by decide +kernel
theorem dX1_firstFrom_11 : decode cX1_firstFrom 11 = .ok (.iload_n 2, 1) := by decide +kernel
theorem dX1_firstFrom_12 : decode cX1_firstFrom 12 = .ok (.iload_n 3, 1) := by decide +kernel
theorem dX1_firstFrom_13 : decode cX1_firstFrom 13 = .ok (.invokestatic 19, 3) := by decide +kernel
theorem dX1_firstFrom_16 : decode cX1_firstFrom 16 = .ok (.ifCond .eq 7, 3) := by decide +kernel
theorem dX1_firstFrom_19 : decode cX1_firstFrom 19 = .ok (.iconst 1, 1) := by decide +kernel
theorem dX1_firstFrom_20 : decode cX1_firstFrom 20 = .ok (.iload_n 3, 1) := by decide +kernel
theorem dX1_firstFrom_21 : decode cX1_firstFrom 21 = .ok (.ishl, 1) := by decide +kernel
theorem dX1_firstFrom_22 : decode cX1_firstFrom 22 = .ok (.ireturn, 1) := by decide +kernel
theorem dX1_firstFrom_23 : decode cX1_firstFrom 23 = .ok (.iload_n 3, 1) := by decide +kernel
theorem dX1_firstFrom_24 : decode cX1_firstFrom 24 = .ok (.ifCond .ne 9, 3) := by decide +kernel
theorem dX1_firstFrom_27 : decode cX1_firstFrom 27 = .ok (.iload_n 0, 1) := by decide +kernel
theorem dX1_firstFrom_28 : decode cX1_firstFrom 28 = .ok (.iconst 1, 1) := by decide +kernel
theorem dX1_firstFrom_29 : decode cX1_firstFrom 29 = .ok (.isub, 1) := by decide +kernel
theorem dX1_firstFrom_30 : decode cX1_firstFrom 30 = .ok (.goto 6, 3) := by decide +kernel
theorem dX1_firstFrom_33 : decode cX1_firstFrom 33 = .ok (.iload_n 3, 1) := by decide +kernel
theorem dX1_firstFrom_34 : decode cX1_firstFrom 34 = .ok (.iconst 1, 1) := by decide +kernel
theorem dX1_firstFrom_35 : decode cX1_firstFrom 35 = .ok (.isub, 1) := by decide +kernel
theorem dX1_firstFrom_36 : decode cX1_firstFrom 36 = .ok (.istore_n 3, 1) := by decide +kernel
theorem dX1_firstFrom_37 : decode cX1_firstFrom 37 = .ok (.iinc 4 1, 3) := by decide +kernel
theorem dX1_firstFrom_40 : decode cX1_firstFrom 40 = .ok (.goto (-35), 3) := by decide +kernel
theorem dX1_firstFrom_43 : decode cX1_firstFrom 43 = .ok (.iconst 0, 1) := by decide +kernel
theorem dX1_firstFrom_44 : decode cX1_firstFrom 44 = .ok (.ireturn, 1) := by decide +kernel
set_option maxRecDepth 20000 in
theorem ggX1_numberOf_X3_isTaken : GoodIn wsX1_numberOf wsX3_isTaken := goodIn_r _ [3] (by decide +kernel) (by decide +kernel)
set_option maxRecDepth 20000 in
theorem gX1_numberOf_X3_isTaken_n19 : GoodIn wsX1_numberOf (wsX3_isTaken) := ggX1_numberOf_X3_isTaken
theorem dX1_numberOf_0 : decode cX1_numberOf 0 = .ok (.iconst 0, 1) := by decide +kernel
theorem dX1_numberOf_1 : decode cX1_numberOf 1 = .ok (.istore_n 3, 1) := by decide +kernel
theorem dX1_numberOf_2 : decode cX1_numberOf 2 = .ok (.iload_n 0, 1) := by decide +kernel
theorem dX1_numberOf_3 : decode cX1_numberOf 3 = .ok (.iconst 1, 1) := by decide +kernel
theorem dX1_numberOf_4 : decode cX1_numberOf 4 = .ok (.isub, 1) := by decide +kernel
theorem dX1_numberOf_5 : decode cX1_numberOf 5 = .ok (.istore 4, 2) := by decide +kernel
theorem dX1_numberOf_7 : decode cX1_numberOf 7 = .ok (.iload 4, 2) := by decide +kernel
theorem dX1_numberOf_9 : decode cX1_numberOf 9 = .ok (.ifCond .lt 44, 3) := by decide +kernel
theorem dX1_numberOf_12 : decode cX1_numberOf 12 = .ok (.iconst 0, 1) := by decide +kernel
theorem dX1_numberOf_13 : decode cX1_numberOf 13 = .ok (.istore 5, 2) := by decide +kernel
theorem dX1_numberOf_15 : decode cX1_numberOf 15 = .ok (.iload_n 2, 1) := by decide +kernel
theorem dX1_numberOf_16 : decode cX1_numberOf 16 = .ok (.iload 4, 2) := by decide +kernel
theorem dX1_numberOf_18 : decode cX1_numberOf 18 = .ok (.invokestatic 19, 3) := by decide +kernel
theorem dX1_numberOf_21 : decode cX1_numberOf 21 = .ok (.ifCond .eq 19, 3) := by decide +kernel
theorem dX1_numberOf_24 : decode cX1_numberOf 24 = .ok (.iload_n 1, 1) := by decide +kernel
theorem dX1_numberOf_25 : decode cX1_numberOf 25 = .ok (.iload 4, 2) := by decide +kernel
theorem dX1_numberOf_27 : decode cX1_numberOf 27 = .ok (.invokestatic 19, 3) := by decide +kernel
theorem dX1_numberOf_30 : decode cX1_numberOf 30 = .ok (.ifCond .eq 7, 3) := by decide +kernel
theorem dX1_numberOf_33 : decode cX1_numberOf 33 = .ok (.iconst 1, 1) := by decide +kernel
theorem dX1_numberOf_34 : decode cX1_numberOf 34 = .ok (.goto 4, 3) := by decide +kernel
theorem dX1_numberOf_37 : decode cX1_numberOf 37 = .ok (.iconst 2, 1) := by decide +kernel
theorem dX1_numberOf_38 : decode cX1_numberOf 38 = .ok (.istore 5, 2) := by decide +kernel
theorem dX1_numberOf_40 : decode cX1_numberOf 40 = .ok (.iconst 3, 1) := by decide +kernel
theorem dX1_numberOf_41 : decode cX1_numberOf 41 = .ok (.iload_n 3, 1) := by decide +kernel
theorem dX1_numberOf_42 : decode cX1_numberOf 42 = .ok (.imul, 1) := by decide +kernel
theorem dX1_numberOf_43 : decode cX1_numberOf 43 = .ok (.iload 5, 2) := by decide +kernel
theorem dX1_numberOf_45 : decode cX1_numberOf 45 = .ok (.iadd, 1) := by decide +kernel
theorem dX1_numberOf_46 : decode cX1_numberOf 46 = .ok (.istore_n 3, 1) := by decide +kernel
theorem dX1_numberOf_47 : decode cX1_numberOf 47 = .ok (.iinc 4 (-1), 3) := by decide +kernel
theorem dX1_numberOf_50 : decode cX1_numberOf 50 = .ok (.goto (-43), 3) := by decide +kernel
theorem dX1_numberOf_53 : decode cX1_numberOf 53 = .ok (.iload_n 3, 1) := by decide +kernel
theorem dX1_numberOf_54 : decode cX1_numberOf 54 = .ok (.ireturn, 1) := by decide +kernel
theorem dX1_greatestNumber_0 : decode cX1_greatestNumber 0 = .ok (.iconst 0, 1) := by decide +kernel
theorem dX1_greatestNumber_1 : decode cX1_greatestNumber 1 = .ok (.istore_n 1, 1) := by decide +kernel
theorem dX1_greatestNumber_2 : decode cX1_greatestNumber 2 = .ok (.iconst 0, 1) := by decide +kernel
theorem dX1_greatestNumber_3 : decode cX1_greatestNumber 3 = .ok (.istore_n 2, 1) := by decide +kernel
theorem dX1_greatestNumber_4 : decode cX1_greatestNumber 4 = .ok (.iload_n 2, 1) := by decide +kernel
theorem dX1_greatestNumber_5 : decode cX1_greatestNumber 5 = .ok (.iload_n 0, 1) := by decide +kernel
theorem dX1_greatestNumber_6 : decode cX1_greatestNumber 6 = .ok (.if_icmp .ge 15, 3) := by decide +kernel
theorem dX1_greatestNumber_9 : decode cX1_greatestNumber 9 = .ok (.iconst 3, 1) := by decide +kernel
theorem dX1_greatestNumber_10 : decode cX1_greatestNumber 10 = .ok (.iload_n 1, 1) := by decide +kernel
theorem dX1_greatestNumber_11 : decode cX1_greatestNumber 11 = .ok (.imul, 1) := by decide +kernel
theorem dX1_greatestNumber_12 : decode cX1_greatestNumber 12 = .ok (.iconst 2, 1) := by decide +kernel
theorem dX1_greatestNumber_13 : decode cX1_greatestNumber 13 = .ok (.iadd, 1) := by decide +kernel
theorem dX1_greatestNumber_14 : decode cX1_greatestNumber 14 = .ok (.istore_n 1, 1) := by decide +kernel
theorem dX1_greatestNumber_15 : decode cX1_greatestNumber 15 = .ok (.iinc 2 1, 3) := by decide +kernel
theorem dX1_greatestNumber_18 : decode cX1_greatestNumber 18 = .ok (.goto (-14), 3) := by decide +kernel
theorem dX1_greatestNumber_21 : decode cX1_greatestNumber 21 = .ok (.iload_n 1, 1) := by decide +kernel
theorem dX1_greatestNumber_22 : decode cX1_greatestNumber 22 = .ok (.ireturn, 1) := by decide +kernel
theorem dX1_placesOfSort_0 : decode cX1_placesOfSort 0 = .ok (.iconst 0, 1) := by decide +kernel
theorem dX1_placesOfSort_1 : decode cX1_placesOfSort 1 = .ok (.istore_n 3, 1) := by decide +kernel
theorem dX1_placesOfSort_2 : decode cX1_placesOfSort 2 = .ok (.iload_n 1, 1) := by decide +kernel
theorem dX1_placesOfSort_3 : decode cX1_placesOfSort 3 = .ok (.istore 4, 2) := by decide +kernel
theorem dX1_placesOfSort_5 : decode cX1_placesOfSort 5 = .ok (.iconst 0, 1) := by decide +kernel
theorem dX1_placesOfSort_6 : decode cX1_placesOfSort 6 = .ok (.istore 5, 2) := by decide +kernel
theorem dX1_placesOfSort_8 : decode cX1_placesOfSort 8 = .ok (.iload 5, 2) := by decide +kernel
theorem dX1_placesOfSort_10 : decode cX1_placesOfSort 10 = .ok (.iload_n 0, 1) := by decide +kernel
theorem dX1_placesOfSort_11 : decode cX1_placesOfSort 11 = .ok (.if_icmp .ge 30, 3) := by decide +kernel
theorem dX1_placesOfSort_14 : decode cX1_placesOfSort 14 = .ok (.iload 4, 2) := by decide +kernel
theorem dX1_placesOfSort_16 : decode cX1_placesOfSort 16 = .ok (.iconst 3, 1) := by decide +kernel
theorem dX1_placesOfSort_17 : decode cX1_placesOfSort 17 = .ok (.irem, 1) := by decide +kernel
theorem dX1_placesOfSort_18 : decode cX1_placesOfSort 18 = .ok (.iload_n 2, 1) := by decide +kernel
theorem dX1_placesOfSort_19 : decode cX1_placesOfSort 19 = .ok (.if_icmp .ne 10, 3) := by decide +kernel
theorem dX1_placesOfSort_22 : decode cX1_placesOfSort 22 = .ok (.iload_n 3, 1) := by decide +kernel
theorem dX1_placesOfSort_23 : decode cX1_placesOfSort 23 = .ok (.iconst 1, 1) := by decide +kernel
theorem dX1_placesOfSort_24 : decode cX1_placesOfSort 24 = .ok (.iload 5, 2) := by decide +kernel
theorem dX1_placesOfSort_26 : decode cX1_placesOfSort 26 = .ok (.ishl, 1) := by decide +kernel
theorem dX1_placesOfSort_27 : decode cX1_placesOfSort 27 = .ok (.ior, 1) := by decide +kernel
theorem dX1_placesOfSort_28 : decode cX1_placesOfSort 28 = .ok (.istore_n 3, 1) := by decide +kernel
theorem dX1_placesOfSort_29 : decode cX1_placesOfSort 29 = .ok (.iload 4, 2) := by decide +kernel
theorem dX1_placesOfSort_31 : decode cX1_placesOfSort 31 = .ok (.iconst 3, 1) := by decide +kernel
theorem dX1_placesOfSort_32 : decode cX1_placesOfSort 32 = .ok (.idiv, 1) := by decide +kernel
theorem dX1_placesOfSort_33 : decode cX1_placesOfSort 33 = .ok (.istore 4, 2) := by decide +kernel
theorem dX1_placesOfSort_35 : decode cX1_placesOfSort 35 = .ok (.iinc 5 1, 3) := by decide +kernel
theorem dX1_placesOfSort_38 : decode cX1_placesOfSort 38 = .ok (.goto (-30), 3) := by decide +kernel
theorem dX1_placesOfSort_41 : decode cX1_placesOfSort 41 = .ok (.iload_n 3, 1) := by decide +kernel
theorem dX1_placesOfSort_42 : decode cX1_placesOfSort 42 = .ok (.ireturn, 1) := by decide +kernel
set_option maxRecDepth 20000 in
theorem ggX1_countUpperRows_J6_bitCount_0f7a4 : GoodIn wsX1_countUpperRows wsJ6_bitCount_0f7a4 := goodIn_r _ [4, 5, 6, 7] (by decide +kernel) (by decide +kernel)
set_option maxRecDepth 20000 in
theorem gX1_countUpperRows_J6_bitCount_0f7a4 : GoodIn wsX1_countUpperRows (va_wsS RX1 13 yJ6_bitCount_0f7a4 wsJ6_bitCount_0f7a4) := goodIn_app (goodIn_of _ (by decide +kernel)) ggX1_countUpperRows_J6_bitCount_0f7a4
set_option maxRecDepth 20000 in
theorem ggX1_countUpperRows_X1_servedPlaces : GoodIn wsX1_countUpperRows wsX1_servedPlaces := goodIn_r _ [11, 12, 13, 14, 15, 16, 10, 17] (by decide +kernel) (by decide +kernel)
set_option maxRecDepth 20000 in
theorem gX1_countUpperRows_X1_servedPlaces : GoodIn wsX1_countUpperRows (va_wsS RX1 29 yX1_servedPlaces wsX1_servedPlaces) := goodIn_app (goodIn_of _ (by decide +kernel)) ggX1_countUpperRows_X1_servedPlaces
theorem dX1_countUpperRows_0 : decode cX1_countUpperRows 0 = .ok (.iconst 0, 1) := by decide +kernel
theorem dX1_countUpperRows_1 : decode cX1_countUpperRows 1 = .ok (.istore_n 3, 1) := by decide +kernel
theorem dX1_countUpperRows_2 : decode cX1_countUpperRows 2 = .ok (.iconst 1, 1) := by decide +kernel
theorem dX1_countUpperRows_3 : decode cX1_countUpperRows 3 = .ok (.istore 4, 2) := by decide +kernel
theorem dX1_countUpperRows_5 : decode cX1_countUpperRows 5 = .ok (.iload 4, 2) := by decide +kernel
theorem dX1_countUpperRows_7 : decode cX1_countUpperRows 7 = .ok (.iconst 1, 1) := by decide +kernel
theorem dX1_countUpperRows_8 : decode cX1_countUpperRows 8 = .ok (.iload_n 0, 1) := by decide +kernel
theorem dX1_countUpperRows_9 : decode cX1_countUpperRows 9 = .ok (.ishl, 1) := by decide +kernel
theorem dX1_countUpperRows_10 : decode cX1_countUpperRows 10 = .ok (.if_icmp .ge 35, 3) := by decide +kernel
theorem dX1_countUpperRows_13 : decode cX1_countUpperRows 13 = .ok (.iload 4, 2) := by decide +kernel
theorem dX1_countUpperRows_15 : decode cX1_countUpperRows 15 = .ok (.invokestatic 13, 3) := by decide +kernel
theorem dX1_countUpperRows_18 : decode cX1_countUpperRows 18 = .ok (.iload_n 1, 1) := by decide +kernel
theorem dX1_countUpperRows_19 : decode cX1_countUpperRows 19 = .ok (.invokestatic 13, 3) := by decide +kernel
theorem dX1_countUpperRows_22 : decode cX1_countUpperRows 22 = .ok (.if_icmp .ne 17, 3) := by decide +kernel
theorem dX1_countUpperRows_25 : decode cX1_countUpperRows 25 = .ok (.iload_n 0, 1) := by decide +kernel
theorem dX1_countUpperRows_26 : decode cX1_countUpperRows 26 = .ok (.iload 4, 2) := by decide +kernel
theorem dX1_countUpperRows_28 : decode cX1_countUpperRows 28 = .ok (.iload_n 2, 1) := by decide +kernel
theorem dX1_countUpperRows_29 : decode cX1_countUpperRows 29 = .ok (.invokestatic 29, 3) := by decide +kernel
theorem dX1_countUpperRows_32 : decode cX1_countUpperRows 32 = .ok (.iload_n 1, 1) := by decide +kernel
theorem dX1_countUpperRows_33 : decode cX1_countUpperRows 33 = .ok (.if_icmp .ne 6, 3) := by decide +kernel
theorem dX1_countUpperRows_36 : decode cX1_countUpperRows 36 = .ok (.iinc 3 1, 3) := by decide +kernel
theorem dX1_countUpperRows_39 : decode cX1_countUpperRows 39 = .ok (.iinc 4 1, 3) := by decide +kernel
theorem dX1_countUpperRows_42 : decode cX1_countUpperRows 42 = .ok (.goto (-37), 3) := by decide +kernel
theorem dX1_countUpperRows_45 : decode cX1_countUpperRows 45 = .ok (.iload_n 3, 1) := by decide +kernel
theorem dX1_countUpperRows_46 : decode cX1_countUpperRows 46 = .ok (.ireturn, 1) := by decide +kernel
theorem dX2_init_0 : decode cX2_init 0 = .ok (.aload_n 0, 1) := by decide +kernel
theorem dX2_init_1 : decode cX2_init 1 = .ok (.invokespecial 3, 3) := by decide +kernel
theorem dX2_init_4 : decode cX2_init 4 = .ok (.return_, 1) := by decide +kernel
theorem dX2_begin_0 : decode cX2_begin 0 = .ok (.aload_n 0, 1) := by decide +kernel
theorem dX2_begin_1 : decode cX2_begin 1 = .ok (.iload_n 1, 1) := by decide +kernel
theorem dX2_begin_2 : decode cX2_begin 2 = .ok (.putfield 9, 3) := by decide +kernel
theorem dX2_begin_5 : decode cX2_begin 5 = .ok (.aload_n 0, 1) := by decide +kernel
theorem dX2_begin_6 : decode cX2_begin 6 = .ok (.iload_n 2, 1) := by decide +kernel
theorem dX2_begin_7 : decode cX2_begin 7 = .ok (.putfield 15, 3) := by decide +kernel
theorem dX2_begin_10 : decode cX2_begin 10 = .ok (.aload_n 0, 1) := by decide +kernel
theorem dX2_begin_11 : decode cX2_begin 11 = .ok (.iconst 0, 1) := by decide +kernel
theorem dX2_begin_12 : decode cX2_begin 12 = .ok (.putfield 19, 3) := by decide +kernel
theorem dX2_begin_15 : decode cX2_begin 15 = .ok (.aload_n 0, 1) := by decide +kernel
theorem dX2_begin_16 : decode cX2_begin 16 = .ok (.iconst 0, 1) := by decide +kernel
theorem dX2_begin_17 : decode cX2_begin 17 = .ok (.putfield 22, 3) := by decide +kernel
theorem dX2_begin_20 : decode cX2_begin 20 = .ok (.aload_n 0, 1) := by decide +kernel
theorem dX2_begin_21 : decode cX2_begin 21 = .ok (.iconst 1, 1) := by decide +kernel
theorem dX2_begin_22 : decode cX2_begin 22 = .ok (.putfield 25, 3) := by decide +kernel
theorem dX2_begin_25 : decode cX2_begin 25 = .ok (.aload_n 0, 1) := by decide +kernel
theorem dX2_begin_26 : decode cX2_begin 26 = .ok (.iconst 0, 1) := by decide +kernel
theorem dX2_begin_27 : decode cX2_begin 27 = .ok (.putfield 28, 3) := by decide +kernel
theorem dX2_begin_30 : decode cX2_begin 30 = .ok (.aload_n 0, 1) := by decide +kernel
theorem dX2_begin_31 : decode cX2_begin 31 = .ok (.iconst 0, 1) := by decide +kernel
theorem dX2_begin_32 : decode cX2_begin 32 = .ok (.putfield 31, 3) := by decide +kernel
theorem dX2_begin_35 : decode cX2_begin 35 = .ok (.aload_n 0, 1) := by decide +kernel
theorem dX2_begin_36 : decode cX2_begin 36 = .ok (.iconst 0, 1) := by decide +kernel
theorem dX2_begin_37 : decode cX2_begin 37 = .ok (.putfield 34, 3) := by decide +kernel
theorem dX2_begin_40 : decode cX2_begin 40 = .ok (.return_, 1) := by decide +kernel
theorem dX2_isThere_0 : decode cX2_isThere 0 = .ok (.aload_n 0, 1) := by decide +kernel
theorem dX2_isThere_1 : decode cX2_isThere 1 = .ok (.getfield 9, 3) := by decide +kernel
theorem dX2_isThere_4 : decode cX2_isThere 4 = .ok (.ifCond .le 7, 3) := by decide +kernel
theorem dX2_isThere_7 : decode cX2_isThere 7 = .ok (.iconst 1, 1) := by decide +kernel
theorem dX2_isThere_8 : decode cX2_isThere 8 = .ok (.goto 4, 3) := by decide +kernel
theorem dX2_isThere_11 : decode cX2_isThere 11 = .ok (.iconst 0, 1) := by decide +kernel
theorem dX2_isThere_12 : decode cX2_isThere 12 = .ok (.ireturn, 1) := by decide +kernel
set_option maxRecDepth 20000 in
theorem ggX2_mayHavePlace_X2_isThere : GoodIn wsX2_mayHavePlace wsX2_isThere := goodIn_r _ [6, 1, 7, 8, 9, 10, 11, 12, 13, 14] (by decide +kernel) (by decide +kernel)
set_option maxRecDepth 20000 in
theorem gX2_mayHavePlace_X2_isThere : GoodIn wsX2_mayHavePlace (wsV RX2 37 RX2 yX2_isThere wsX2_isThere) := goodIn_app (goodIn_of _ (by decide +kernel)) ggX2_mayHavePlace_X2_isThere
theorem dX2_mayHavePlace_0 : decode cX2_mayHavePlace 0 = .ok (.iload_n 1, 1) := by decide +kernel
theorem dX2_mayHavePlace_1 : decode cX2_mayHavePlace 1 = .ok (.ifCond .lt 27, 3) := by decide +kernel
theorem dX2_mayHavePlace_4 : decode cX2_mayHavePlace 4 = .ok (.iload_n 1, 1) := by decide +kernel
theorem dX2_mayHavePlace_5 : decode cX2_mayHavePlace 5 = .ok (.aload_n 0, 1) := by decide +kernel
theorem dX2_mayHavePlace_6 : decode cX2_mayHavePlace 6 = .ok (.invokevirtual 37, 3) := by decide +kernel
theorem dX2_mayHavePlace_9 : decode cX2_mayHavePlace 9 = .ok (.ifCond .eq 10, 3) := by decide +kernel
theorem dX2_mayHavePlace_12 : decode cX2_mayHavePlace 12 = .ok (.aload_n 0, 1) := by decide +kernel
theorem dX2_mayHavePlace_13 : decode cX2_mayHavePlace 13 = .ok (.getfield 9, 3) := by decide +kernel
theorem dX2_mayHavePlace_16 : decode cX2_mayHavePlace 16 = .ok (.goto 5, 3) := by decide +kernel
theorem dX2_mayHavePlace_19 : decode cX2_mayHavePlace 19 = .ok (.bipush 30, 2) := by decide +kernel
theorem dX2_mayHavePlace_21 : decode cX2_mayHavePlace 21 = .ok (.if_icmp .ge 7, 3) := by decide +kernel
theorem dX2_mayHavePlace_24 : decode cX2_mayHavePlace 24 = .ok (.iconst 1, 1) := by decide +kernel
theorem dX2_mayHavePlace_25 : decode cX2_mayHavePlace 25 = .ok (.goto 4, 3) := by decide +kernel
theorem dX2_mayHavePlace_28 : decode cX2_mayHavePlace 28 = .ok (.iconst 0, 1) := by decide +kernel
theorem dX2_mayHavePlace_29 : decode cX2_mayHavePlace 29 = .ok (.ireturn, 1) := by decide +kernel
set_option maxRecDepth 20000 in
theorem ggX2_sortAt_X3_isTaken : GoodIn wsX2_sortAt wsX3_isTaken := goodIn_r _ [5] (by decide +kernel) (by decide +kernel)
set_option maxRecDepth 20000 in
theorem gX2_sortAt_X3_isTaken_n41 : GoodIn wsX2_sortAt (wsX3_isTaken) := ggX2_sortAt_X3_isTaken
theorem dX2_sortAt_0 : decode cX2_sortAt 0 = .ok (.aload_n 0, 1) := by decide +kernel
theorem dX2_sortAt_1 : decode cX2_sortAt 1 = .ok (.getfield 19, 3) := by decide +kernel
theorem dX2_sortAt_4 : decode cX2_sortAt 4 = .ok (.iload_n 1, 1) := by decide +kernel
theorem dX2_sortAt_5 : decode cX2_sortAt 5 = .ok (.invokestatic 41, 3) := by decide +kernel
theorem dX2_sortAt_8 : decode cX2_sortAt 8 = .ok (.ifCond .eq 5, 3) := by decide +kernel
theorem dX2_sortAt_11 : decode cX2_sortAt 11 = .ok (.iconst 1, 1) := by decide +kernel
theorem dX2_sortAt_12 : decode cX2_sortAt 12 = .ok (.ireturn, 1) := by decide +kernel
theorem dX2_sortAt_13 : decode cX2_sortAt 13 = .ok (.aload_n 0, 1) := by decide +kernel
theorem dX2_sortAt_14 : decode cX2_sortAt 14 = .ok (.getfield 22, 3) := by decide +kernel
theorem dX2_sortAt_17 : decode cX2_sortAt 17 = .ok (.iload_n 1, 1) := by decide +kernel
theorem dX2_sortAt_18 : decode cX2_sortAt 18 = .ok (.invokestatic 41, 3) := by decide +kernel
theorem dX2_sortAt_21 : decode cX2_sortAt 21 = .ok (.ifCond .eq 7, 3) := by decide +kernel
theorem dX2_sortAt_24 : decode cX2_sortAt 24 = .ok (.iconst 2, 1) := by decide +kernel
theorem dX2_sortAt_25 : decode cX2_sortAt 25 = .ok (.goto 4, 3) := by decide +kernel
theorem dX2_sortAt_28 : decode cX2_sortAt 28 = .ok (.iconst 0, 1) := by decide +kernel
theorem dX2_sortAt_29 : decode cX2_sortAt 29 = .ok (.ireturn, 1) := by decide +kernel
theorem dX2_put_0 : decode cX2_put 0 = .ok (.iconst 1, 1) := by decide +kernel
theorem dX2_put_1 : decode cX2_put 1 = .ok (.iload_n 1, 1) := by decide +kernel
theorem dX2_put_2 : decode cX2_put 2 = .ok (.ishl, 1) := by decide +kernel
theorem dX2_put_3 : decode cX2_put 3 = .ok (.istore_n 3, 1) := by decide +kernel
theorem dX2_put_4 : decode cX2_put 4 = .ok (.aload_n 0, 1) := by decide +kernel
theorem dX2_put_5 : decode cX2_put 5 = .ok (.iload_n 2, 1) := by decide +kernel
theorem dX2_put_6 : decode cX2_put 6 = .ok (.iconst 1, 1) := by decide +kernel
theorem dX2_put_7 : decode cX2_put 7 = .ok (.if_icmp .ne 12, 3) := by decide +kernel
theorem dX2_put_10 : decode cX2_put 10 = .ok (.aload_n 0, 1) := by decide +kernel
theorem dX2_put_11 : decode cX2_put 11 = .ok (.getfield 19, 3) := by decide +kernel
theorem dX2_put_14 : decode cX2_put 14 = .ok (.iload_n 3, 1) := by decide +kernel
theorem dX2_put_15 : decode cX2_put 15 = .ok (.ior, 1) := by decide +kernel
theorem dX2_put_16 : decode cX2_put 16 = .ok (.goto 11, 3) := by decide +kernel
theorem dX2_put_19 : decode cX2_put 19 = .ok (.aload_n 0, 1) := by decide +kernel
theorem dX2_put_20 : decode cX2_put 20 = .ok (.getfield 19, 3) := by decide +kernel
theorem dX2_put_23 : decode cX2_put 23 = .ok (.iload_n 3, 1) := by decide +kernel
theorem dX2_put_24 : decode cX2_put 24 = .ok (.iconst (-1), 1) := by decide +kernel
theorem dX2_put_25 : decode cX2_put 25 = .ok (.ixor, 1) := by decide +kernel
theorem dX2_put_26 : decode cX2_put 26 = .ok (.iand, 1) := by decide +kernel
theorem dX2_put_27 : decode cX2_put 27 = .ok (.putfield 19, 3) := by decide +kernel
theorem dX2_put_30 : decode cX2_put 30 = .ok (.aload_n 0, 1) := by decide +kernel
theorem dX2_put_31 : decode cX2_put 31 = .ok (.iload_n 2, 1) := by decide +kernel
theorem dX2_put_32 : decode cX2_put 32 = .ok (.iconst 2, 1) := by decide +kernel
theorem dX2_put_33 : decode cX2_put 33 = .ok (.if_icmp .ne 12, 3) := by decide +kernel
theorem dX2_put_36 : decode cX2_put 36 = .ok (.aload_n 0, 1) := by decide +kernel
theorem dX2_put_37 : decode cX2_put 37 = .ok (.getfield 22, 3) := by decide +kernel
theorem dX2_put_40 : decode cX2_put 40 = .ok (.iload_n 3, 1) := by decide +kernel
theorem dX2_put_41 : decode cX2_put 41 = .ok (.ior, 1) := by decide +kernel
theorem dX2_put_42 : decode cX2_put 42 = .ok (.goto 11, 3) := by decide +kernel
theorem dX2_put_45 : decode cX2_put 45 = .ok (.aload_n 0, 1) := by decide +kernel
theorem dX2_put_46 : decode cX2_put 46 = .ok (.getfield 22, 3) := by decide +kernel
theorem dX2_put_49 : decode cX2_put 49 = .ok (.iload_n 3, 1) := by decide +kernel
theorem dX2_put_50 : decode cX2_put 50 = .ok (.iconst (-1), 1) := by decide +kernel
theorem dX2_put_51 : decode cX2_put 51 = .ok (.ixor, 1) := by decide +kernel
theorem dX2_put_52 : decode cX2_put 52 = .ok (.iand, 1) := by decide +kernel
theorem dX2_put_53 : decode cX2_put 53 = .ok (.putfield 22, 3) := by decide +kernel
theorem dX2_put_56 : decode cX2_put 56 = .ok (.return_, 1) := by decide +kernel
theorem dX2_sow_0 : decode cX2_sow 0 = .ok (.aload_n 0, 1) := by decide +kernel
theorem dX2_sow_1 : decode cX2_sow 1 = .ok (.iload_n 1, 1) := by decide +kernel
theorem dX2_sow_2 : decode cX2_sow 2 = .ok (.putfield 25, 3) := by decide +kernel
theorem dX2_sow_5 : decode cX2_sow 5 = .ok (.return_, 1) := by decide +kernel
set_option maxRecDepth 20000 in
theorem ggX2_countOfSort_J6_bitCount_0f7a4 : GoodIn wsX2_countOfSort wsJ6_bitCount_0f7a4 := goodIn_r _ [6, 7, 8, 9] (by decide +kernel) (by decide +kernel)
set_option maxRecDepth 20000 in
theorem gX2_countOfSort_J6_bitCount_0f7a4 : GoodIn wsX2_countOfSort (va_wsS RX2 45 yJ6_bitCount_0f7a4 wsJ6_bitCount_0f7a4) := goodIn_app (goodIn_of _ (by decide +kernel)) ggX2_countOfSort_J6_bitCount_0f7a4
theorem dX2_countOfSort_0 : decode cX2_countOfSort 0 = .ok (.iload_n 1, 1) := by decide +kernel
theorem dX2_countOfSort_1 : decode cX2_countOfSort 1 = .ok (.iconst 1, 1) := by decide +kernel
theorem dX2_countOfSort_2 : decode cX2_countOfSort 2 = .ok (.if_icmp .ne 10, 3) := by decide +kernel
theorem dX2_countOfSort_5 : decode cX2_countOfSort 5 = .ok (.aload_n 0, 1) := by decide +kernel
theorem dX2_countOfSort_6 : decode cX2_countOfSort 6 = .ok (.getfield 19, 3) := by decide +kernel
theorem dX2_countOfSort_9 : decode cX2_countOfSort 9 = .ok (.goto 7, 3) := by decide +kernel
theorem dX2_countOfSort_12 : decode cX2_countOfSort 12 = .ok (.aload_n 0, 1) := by decide +kernel
theorem dX2_countOfSort_13 : decode cX2_countOfSort 13 = .ok (.getfield 22, 3) := by decide +kernel
theorem dX2_countOfSort_16 : decode cX2_countOfSort 16 = .ok (.invokestatic 45, 3) := by decide +kernel
theorem dX2_countOfSort_19 : decode cX2_countOfSort 19 = .ok (.ireturn, 1) := by decide +kernel
set_option maxRecDepth 20000 in
theorem ggX2_tell_X2_countOfSort : GoodIn wsX2_tell wsX2_countOfSort := goodIn_r _ [10, 11, 12, 13, 14, 15, 16, 17, 18, 19, 28, 29, 30, 31, 32, 33, 34, 35] (by decide +kernel) (by decide +kernel)
set_option maxRecDepth 20000 in
theorem gX2_tell_X2_countOfSort : GoodIn wsX2_tell (wsV RX2 51 RX2 yX2_countOfSort wsX2_countOfSort) := goodIn_app (goodIn_of _ (by decide +kernel)) ggX2_tell_X2_countOfSort
set_option maxRecDepth 20000 in
theorem ggX2_tell_X2_firstsWithFreeBehind : GoodIn wsX2_tell wsX2_firstsWithFreeBehind := goodIn_r _ [23, 11, 12, 2, 1, 24, 25, 26, 9, 27, 28, 29, 30, 31, 32, 33, 34, 35] (by decide +kernel) (by decide +kernel)
set_option maxRecDepth 20000 in
theorem gX2_tell_X2_firstsWithFreeBehind : GoodIn wsX2_tell (wsV RX2 54 RX2 yX2_firstsWithFreeBehind wsX2_firstsWithFreeBehind) := goodIn_app (goodIn_of _ (by decide +kernel)) ggX2_tell_X2_firstsWithFreeBehind
set_option maxRecDepth 20000 in
theorem ggX2_tell_J6_bitCount_0f7a4 : GoodIn wsX2_tell wsJ6_bitCount_0f7a4 := goodIn_r _ [16, 17, 18, 19] (by decide +kernel) (by decide +kernel)
set_option maxRecDepth 20000 in
theorem gX2_tell_J6_bitCount_0f7a4 : GoodIn wsX2_tell (va_wsS RX2 45 yJ6_bitCount_0f7a4 wsJ6_bitCount_0f7a4) := goodIn_app (goodIn_of _ (by decide +kernel)) ggX2_tell_J6_bitCount_0f7a4
theorem dX2_tell_0 : decode cX2_tell 0 = .ok (.iload_n 1, 1) := by decide +kernel
theorem dX2_tell_1 : decode cX2_tell 1 = .ok (.tableswitch 88 0 6 #[43, 48, 61, 66, 71, 76, 82], 43) := by decide +kernel
theorem dX2_tell_44 : decode cX2_tell 44 = .ok (.aload_n 0, 1) := by decide +kernel
theorem dX2_tell_45 : decode cX2_tell 45 = .ok (.getfield 9, 3) := by decide +kernel
theorem dX2_tell_48 : decode cX2_tell 48 = .ok (.ireturn, 1) := by decide +kernel
theorem dX2_tell_49 : decode cX2_tell 49 = .ok (.aload_n 0, 1) := by decide +kernel
theorem dX2_tell_50 : decode cX2_tell 50 = .ok (.getfield 15, 3) := by decide +kernel
theorem dX2_tell_53 : decode cX2_tell 53 = .ok (.ifCond .eq 7, 3) := by decide +kernel
theorem dX2_tell_56 : decode cX2_tell 56 = .ok (.iconst 1, 1) := by decide +kernel
theorem dX2_tell_57 : decode cX2_tell 57 = .ok (.goto 4, 3) := by decide +kernel
theorem dX2_tell_60 : decode cX2_tell 60 = .ok (.iconst 0, 1) := by decide +kernel
theorem dX2_tell_61 : decode cX2_tell 61 = .ok (.ireturn, 1) := by decide +kernel
theorem dX2_tell_62 : decode cX2_tell 62 = .ok (.aload_n 0, 1) := by decide +kernel
theorem dX2_tell_63 : decode cX2_tell 63 = .ok (.getfield 28, 3) := by decide +kernel
theorem dX2_tell_66 : decode cX2_tell 66 = .ok (.ireturn, 1) := by decide +kernel
theorem dX2_tell_67 : decode cX2_tell 67 = .ok (.aload_n 0, 1) := by decide +kernel
theorem dX2_tell_68 : decode cX2_tell 68 = .ok (.getfield 31, 3) := by decide +kernel
theorem dX2_tell_71 : decode cX2_tell 71 = .ok (.ireturn, 1) := by decide +kernel
theorem dX2_tell_72 : decode cX2_tell 72 = .ok (.aload_n 0, 1) := by decide +kernel
theorem dX2_tell_73 : decode cX2_tell 73 = .ok (.getfield 34, 3) := by decide +kernel
theorem dX2_tell_76 : decode cX2_tell 76 = .ok (.ireturn, 1) := by decide +kernel
theorem dX2_tell_77 : decode cX2_tell 77 = .ok (.aload_n 0, 1) := by decide +kernel
theorem dX2_tell_78 : decode cX2_tell 78 = .ok (.iconst 1, 1) := by decide +kernel
theorem dX2_tell_79 : decode cX2_tell 79 = .ok (.invokevirtual 51, 3) := by decide +kernel
theorem dX2_tell_82 : decode cX2_tell 82 = .ok (.ireturn, 1) := by decide +kernel
theorem dX2_tell_83 : decode cX2_tell 83 = .ok (.aload_n 0, 1) := by decide +kernel
theorem dX2_tell_84 : decode cX2_tell 84 = .ok (.iconst 2, 1) := by decide +kernel
theorem dX2_tell_85 : decode cX2_tell 85 = .ok (.invokevirtual 51, 3) := by decide +kernel
theorem dX2_tell_88 : decode cX2_tell 88 = .ok (.ireturn, 1) := by decide +kernel
theorem dX2_tell_89 : decode cX2_tell 89 = .ok (.aload_n 0, 1) := by decide +kernel
theorem dX2_tell_90 : decode cX2_tell 90 = .ok (.invokevirtual 54, 3) := by decide +kernel
theorem dX2_tell_93 : decode cX2_tell 93 = .ok (.invokestatic 45, 3) := by decide +kernel
theorem dX2_tell_96 : decode cX2_tell 96 = .ok (.ireturn, 1) := by decide +kernel
set_option maxRecDepth 20000 in
theorem ggX2_stepSingly_X2_draw : GoodIn wsX2_stepSingly wsX2_draw := goodIn_r _ [5, 6, 7, 8, 9, 43, 44, 45, 46, 47, 48, 49, 50] (by decide +kernel) (by decide +kernel)
set_option maxRecDepth 20000 in
theorem gX2_stepSingly_X2_draw : GoodIn wsX2_stepSingly (wsV RX2 58 RX2 yX2_draw wsX2_draw) := goodIn_app (goodIn_of _ (by decide +kernel)) ggX2_stepSingly_X2_draw
set_option maxRecDepth 20000 in
theorem ggX2_stepSingly_X2_stepOnce : GoodIn wsX2_stepSingly wsX2_stepOnce := goodIn_r _ [13, 9, 14, 15, 16, 17, 4, 18, 19, 20, 21, 22, 23, 24, 25, 26, 27, 28, 29, 30, 31, 32, 33, 34, 35, 36, 37, 38, 39, 40, 41, 42, 43, 44, 45, 46, 47, 48, 49, 50] (by decide +kernel) (by decide +kernel)
set_option maxRecDepth 20000 in
theorem gX2_stepSingly_X2_stepOnce : GoodIn wsX2_stepSingly (wsV RX2 61 RX2 yX2_stepOnce wsX2_stepOnce) := goodIn_app (goodIn_of _ (by decide +kernel)) ggX2_stepSingly_X2_stepOnce
theorem dX2_stepSingly_0 : decode cX2_stepSingly 0 = .ok (.iconst 0, 1) := by decide +kernel
theorem dX2_stepSingly_1 : decode cX2_stepSingly 1 = .ok (.istore_n 2, 1) := by decide +kernel
theorem dX2_stepSingly_2 : decode cX2_stepSingly 2 = .ok (.iconst 0, 1) := by decide +kernel
theorem dX2_stepSingly_3 : decode cX2_stepSingly 3 = .ok (.istore_n 3, 1) := by decide +kernel
theorem dX2_stepSingly_4 : decode cX2_stepSingly 4 = .ok (.iload_n 3, 1) := by decide +kernel
theorem dX2_stepSingly_5 : decode cX2_stepSingly 5 = .ok (.iload_n 1, 1) := by decide +kernel
theorem dX2_stepSingly_6 : decode cX2_stepSingly 6 = .ok (.if_icmp .ge 23, 3) := by decide +kernel
theorem dX2_stepSingly_9 : decode cX2_stepSingly 9 = .ok (.aload_n 0, 1) := by decide +kernel
theorem dX2_stepSingly_10 : decode cX2_stepSingly 10 = .ok (.aload_n 0, 1) := by decide +kernel
theorem dX2_stepSingly_11 : decode cX2_stepSingly 11 = .ok (.invokevirtual 58, 3) := by decide +kernel
theorem dX2_stepSingly_14 : decode cX2_stepSingly 14 = .ok (.invokevirtual 61, 3) := by decide +kernel
theorem dX2_stepSingly_17 : decode cX2_stepSingly 17 = .ok (.ifCond .eq 6, 3) := by decide +kernel
theorem dX2_stepSingly_20 : decode cX2_stepSingly 20 = .ok (.iinc 2 1, 3) := by decide +kernel
theorem dX2_stepSingly_23 : decode cX2_stepSingly 23 = .ok (.iinc 3 1, 3) := by decide +kernel
theorem dX2_stepSingly_26 : decode cX2_stepSingly 26 = .ok (.goto (-22), 3) := by decide +kernel
theorem dX2_stepSingly_29 : decode cX2_stepSingly 29 = .ok (.iload_n 2, 1) := by decide +kernel
theorem dX2_stepSingly_30 : decode cX2_stepSingly 30 = .ok (.ireturn, 1) := by decide +kernel
theorem dX2_draw_0 : decode cX2_draw 0 = .ok (.aload_n 0, 1) := by decide +kernel
theorem dX2_draw_1 : decode cX2_draw 1 = .ok (.aload_n 0, 1) := by decide +kernel
theorem dX2_draw_2 : decode cX2_draw 2 = .ok (.getfield 25, 3) := by decide +kernel
theorem dX2_draw_5 : decode cX2_draw 5 = .ok (.ldc 65, 2) := by decide +kernel
theorem dX2_draw_7 : decode cX2_draw 7 = .ok (.imul, 1) := by decide +kernel
theorem dX2_draw_8 : decode cX2_draw 8 = .ok (.sipush 12345, 3) := by decide +kernel
theorem dX2_draw_11 : decode cX2_draw 11 = .ok (.iadd, 1) := by decide +kernel
theorem dX2_draw_12 : decode cX2_draw 12 = .ok (.ldc 66, 2) := by decide +kernel
theorem dX2_draw_14 : decode cX2_draw 14 = .ok (.iand, 1) := by decide +kernel
theorem dX2_draw_15 : decode cX2_draw 15 = .ok (.putfield 25, 3) := by decide +kernel
theorem dX2_draw_18 : decode cX2_draw 18 = .ok (.aload_n 0, 1) := by decide +kernel
theorem dX2_draw_19 : decode cX2_draw 19 = .ok (.getfield 9, 3) := by decide +kernel
theorem dX2_draw_22 : decode cX2_draw 22 = .ok (.iconst 1, 1) := by decide +kernel
theorem dX2_draw_23 : decode cX2_draw 23 = .ok (.iadd, 1) := by decide +kernel
theorem dX2_draw_24 : decode cX2_draw 24 = .ok (.istore_n 1, 1) := by decide +kernel
theorem dX2_draw_25 : decode cX2_draw 25 = .ok (.iload_n 1, 1) := by decide +kernel
theorem dX2_draw_26 : decode cX2_draw 26 = .ok (.ifCond .le 15, 3) := by decide +kernel
theorem dX2_draw_29 : decode cX2_draw 29 = .ok (.aload_n 0, 1) := by decide +kernel
theorem dX2_draw_30 : decode cX2_draw 30 = .ok (.getfield 25, 3) := by decide +kernel
theorem dX2_draw_33 : decode cX2_draw 33 = .ok (.bipush 16, 2) := by decide +kernel
theorem dX2_draw_35 : decode cX2_draw 35 = .ok (.ishr, 1) := by decide +kernel
theorem dX2_draw_36 : decode cX2_draw 36 = .ok (.iload_n 1, 1) := by decide +kernel
theorem dX2_draw_37 : decode cX2_draw 37 = .ok (.irem, 1) := by decide +kernel
theorem dX2_draw_38 : decode cX2_draw 38 = .ok (.goto 4, 3) := by decide +kernel
theorem dX2_draw_41 : decode cX2_draw 41 = .ok (.iconst 0, 1) := by decide +kernel
theorem dX2_draw_42 : decode cX2_draw 42 = .ok (.ireturn, 1) := by decide +kernel
set_option maxRecDepth 20000 in
theorem ggX2_stepOnce_X2_exchange : GoodIn wsX2_stepOnce wsX2_exchange := goodIn_r _ [7, 8, 9, 10, 11, 6, 12, 13, 14, 15, 16, 17, 18, 19, 20, 21, 32, 33, 34, 35, 36, 37, 38, 39] (by decide +kernel) (by decide +kernel)
set_option maxRecDepth 20000 in
theorem gX2_stepOnce_X2_exchange : GoodIn wsX2_stepOnce (wsV RX2 67 RX2 yX2_exchange wsX2_exchange) := goodIn_app (goodIn_of _ (by decide +kernel)) ggX2_stepOnce_X2_exchange
set_option maxRecDepth 20000 in
theorem ggX2_stepOnce_X2_comeToFirstPlace : GoodIn wsX2_stepOnce wsX2_comeToFirstPlace := goodIn_r _ [25, 26, 27, 9, 10, 11, 6, 12, 13, 14, 15, 16, 17, 18, 19, 20, 21, 32, 33, 34, 35, 36, 37, 38, 39] (by decide +kernel) (by decide +kernel)
set_option maxRecDepth 20000 in
theorem gX2_stepOnce_X2_comeToFirstPlace : GoodIn wsX2_stepOnce (wsV RX2 70 RX2 yX2_comeToFirstPlace wsX2_comeToFirstPlace) := goodIn_app (goodIn_of _ (by decide +kernel)) ggX2_stepOnce_X2_comeToFirstPlace
set_option maxRecDepth 20000 in
theorem ggX2_stepOnce_X2_goFromLastPlace : GoodIn wsX2_stepOnce wsX2_goFromLastPlace := goodIn_r _ [31, 1, 26, 9, 10, 11, 6, 12, 13, 14, 15, 16, 17, 18, 19, 20, 21, 32, 33, 34, 35, 36, 37, 38, 39] (by decide +kernel) (by decide +kernel)
set_option maxRecDepth 20000 in
theorem gX2_stepOnce_X2_goFromLastPlace : GoodIn wsX2_stepOnce (wsV RX2 73 RX2 yX2_goFromLastPlace wsX2_goFromLastPlace) := goodIn_app (goodIn_of _ (by decide +kernel)) ggX2_stepOnce_X2_goFromLastPlace
theorem dX2_stepOnce_0 : decode cX2_stepOnce 0 = .ok (.aload_n 0, 1) := by decide +kernel
theorem dX2_stepOnce_1 : decode cX2_stepOnce 1 = .ok (.getfield 9, 3) := by decide +kernel
theorem dX2_stepOnce_4 : decode cX2_stepOnce 4 = .ok (.iconst 1, 1) := by decide +kernel
theorem dX2_stepOnce_5 : decode cX2_stepOnce 5 = .ok (.isub, 1) := by decide +kernel
theorem dX2_stepOnce_6 : decode cX2_stepOnce 6 = .ok (.istore_n 2, 1) := by decide +kernel
theorem dX2_stepOnce_7 : decode cX2_stepOnce 7 = .ok (.iload_n 1, 1) := by decide +kernel
theorem dX2_stepOnce_8 : decode cX2_stepOnce 8 = .ok (.iload_n 2, 1) := by decide +kernel
theorem dX2_stepOnce_9 : decode cX2_stepOnce 9 = .ok (.if_icmp .ge 12, 3) := by decide +kernel
theorem dX2_stepOnce_12 : decode cX2_stepOnce 12 = .ok (.aload_n 0, 1) := by decide +kernel
theorem dX2_stepOnce_13 : decode cX2_stepOnce 13 = .ok (.iload_n 1, 1) := by decide +kernel
theorem dX2_stepOnce_14 : decode cX2_stepOnce 14 = .ok (.iload_n 1, 1) := by decide +kernel
theorem dX2_stepOnce_15 : decode cX2_stepOnce 15 = .ok (.iconst 1, 1) := by decide +kernel
theorem dX2_stepOnce_16 : decode cX2_stepOnce 16 = .ok (.iadd, 1) := by decide +kernel
theorem dX2_stepOnce_17 : decode cX2_stepOnce 17 = .ok (.invokevirtual 67, 3) := by decide +kernel
theorem dX2_stepOnce_20 : decode cX2_stepOnce 20 = .ok (.ireturn, 1) := by decide +kernel
theorem dX2_stepOnce_21 : decode cX2_stepOnce 21 = .ok (.iload_n 1, 1) := by decide +kernel
theorem dX2_stepOnce_22 : decode cX2_stepOnce 22 = .ok (.iload_n 2, 1) := by decide +kernel
theorem dX2_stepOnce_23 : decode cX2_stepOnce 23 = .ok (.if_icmp .ne 24, 3) := by decide +kernel
theorem dX2_stepOnce_26 : decode cX2_stepOnce 26 = .ok (.aload_n 0, 1) := by decide +kernel
theorem dX2_stepOnce_27 : decode cX2_stepOnce 27 = .ok (.getfield 15, 3) := by decide +kernel
theorem dX2_stepOnce_30 : decode cX2_stepOnce 30 = .ok (.ifCond .eq 10, 3) := by decide +kernel
theorem dX2_stepOnce_33 : decode cX2_stepOnce 33 = .ok (.aload_n 0, 1) := by decide +kernel
theorem dX2_stepOnce_34 : decode cX2_stepOnce 34 = .ok (.invokevirtual 70, 3) := by decide +kernel
theorem dX2_stepOnce_37 : decode cX2_stepOnce 37 = .ok (.goto 9, 3) := by decide +kernel
theorem dX2_stepOnce_40 : decode cX2_stepOnce 40 = .ok (.aload_n 0, 1) := by decide +kernel
theorem dX2_stepOnce_41 : decode cX2_stepOnce 41 = .ok (.iload_n 2, 1) := by decide +kernel
theorem dX2_stepOnce_42 : decode cX2_stepOnce 42 = .ok (.iconst 0, 1) := by decide +kernel
theorem dX2_stepOnce_43 : decode cX2_stepOnce 43 = .ok (.invokevirtual 67, 3) := by decide +kernel
theorem dX2_stepOnce_46 : decode cX2_stepOnce 46 = .ok (.ireturn, 1) := by decide +kernel
theorem dX2_stepOnce_47 : decode cX2_stepOnce 47 = .ok (.aload_n 0, 1) := by decide +kernel
theorem dX2_stepOnce_48 : decode cX2_stepOnce 48 = .ok (.getfield 15, 3) := by decide +kernel
theorem dX2_stepOnce_51 : decode cX2_stepOnce 51 = .ok (.ifCond .eq 14, 3) := by decide +kernel
theorem dX2_stepOnce_54 : decode cX2_stepOnce 54 = .ok (.aload_n 0, 1) := by decide +kernel
theorem dX2_stepOnce_55 : decode cX2_stepOnce 55 = .ok (.invokevirtual 73, 3) := by decide +kernel
theorem dX2_stepOnce_58 : decode cX2_stepOnce 58 = .ok (.ifCond .eq 7, 3) := by decide +kernel
theorem dX2_stepOnce_61 : decode cX2_stepOnce 61 = .ok (.iconst 1, 1) := by decide +kernel
theorem dX2_stepOnce_62 : decode cX2_stepOnce 62 = .ok (.goto 4, 3) := by decide +kernel
theorem dX2_stepOnce_65 : decode cX2_stepOnce 65 = .ok (.iconst 0, 1) := by decide +kernel
theorem dX2_stepOnce_66 : decode cX2_stepOnce 66 = .ok (.ireturn, 1) := by decide +kernel
set_option maxRecDepth 20000 in
theorem ggX2_exchange_X2_sortAt : GoodIn wsX2_exchange wsX2_sortAt := goodIn_r _ [6, 7, 8, 9, 10, 11, 16, 17, 18, 19, 20, 21, 22, 23] (by decide +kernel) (by decide +kernel)
set_option maxRecDepth 20000 in
theorem gX2_exchange_X2_sortAt : GoodIn wsX2_exchange (wsV RX2 76 RX2 yX2_sortAt wsX2_sortAt) := goodIn_app (goodIn_of _ (by decide +kernel)) ggX2_exchange_X2_sortAt
set_option maxRecDepth 20000 in
theorem ggX2_exchange_X2_put : GoodIn wsX2_exchange wsX2_put := goodIn_r _ [15, 7, 8, 16, 17, 18, 19, 20, 21, 22, 23] (by decide +kernel) (by decide +kernel)
set_option maxRecDepth 20000 in
theorem gX2_exchange_X2_put : GoodIn wsX2_exchange (wsV RX2 79 RX2 yX2_put wsX2_put) := goodIn_app (goodIn_of _ (by decide +kernel)) ggX2_exchange_X2_put
theorem dX2_exchange_0 : decode cX2_exchange 0 = .ok (.aload_n 0, 1) := by decide +kernel
theorem dX2_exchange_1 : decode cX2_exchange 1 = .ok (.iload_n 1, 1) := by decide +kernel
theorem dX2_exchange_2 : decode cX2_exchange 2 = .ok (.invokevirtual 76, 3) := by decide +kernel
theorem dX2_exchange_5 : decode cX2_exchange 5 = .ok (.istore_n 3, 1) := by decide +kernel
theorem dX2_exchange_6 : decode cX2_exchange 6 = .ok (.aload_n 0, 1) := by decide +kernel
theorem dX2_exchange_7 : decode cX2_exchange 7 = .ok (.iload_n 2, 1) := by decide +kernel
theorem dX2_exchange_8 : decode cX2_exchange 8 = .ok (.invokevirtual 76, 3) := by decide +kernel
theorem dX2_exchange_11 : decode cX2_exchange 11 = .ok (.istore 4, 2) := by decide +kernel
theorem dX2_exchange_13 : decode cX2_exchange 13 = .ok (.iload_n 3, 1) := by decide +kernel
theorem dX2_exchange_14 : decode cX2_exchange 14 = .ok (.iconst 1, 1) := by decide +kernel
theorem dX2_exchange_15 : decode cX2_exchange 15 = .ok (.if_icmp .ne 9, 3) := by decide +kernel
theorem dX2_exchange_18 : decode cX2_exchange 18 = .ok (.iload 4, 2) := by decide +kernel
theorem dX2_exchange_20 : decode cX2_exchange 20 = .ok (.iconst 1, 1) := by decide +kernel
theorem dX2_exchange_21 : decode cX2_exchange 21 = .ok (.if_icmp .ne 13, 3) := by decide +kernel
theorem dX2_exchange_24 : decode cX2_exchange 24 = .ok (.iload_n 3, 1) := by decide +kernel
theorem dX2_exchange_25 : decode cX2_exchange 25 = .ok (.iconst 2, 1) := by decide +kernel
theorem dX2_exchange_26 : decode cX2_exchange 26 = .ok (.if_icmp .ne 12, 3) := by decide +kernel
theorem dX2_exchange_29 : decode cX2_exchange 29 = .ok (.iload 4, 2) := by decide +kernel
theorem dX2_exchange_31 : decode cX2_exchange 31 = .ok (.ifCond .ne 7, 3) := by decide +kernel
theorem dX2_exchange_34 : decode cX2_exchange 34 = .ok (.iconst 1, 1) := by decide +kernel
theorem dX2_exchange_35 : decode cX2_exchange 35 = .ok (.goto 4, 3) := by decide +kernel
theorem dX2_exchange_38 : decode cX2_exchange 38 = .ok (.iconst 0, 1) := by decide +kernel
theorem dX2_exchange_39 : decode cX2_exchange 39 = .ok (.istore 5, 2) := by decide +kernel
theorem dX2_exchange_41 : decode cX2_exchange 41 = .ok (.iload 5, 2) := by decide +kernel
theorem dX2_exchange_43 : decode cX2_exchange 43 = .ok (.ifCond .eq 26, 3) := by decide +kernel
theorem dX2_exchange_46 : decode cX2_exchange 46 = .ok (.aload_n 0, 1) := by decide +kernel
theorem dX2_exchange_47 : decode cX2_exchange 47 = .ok (.iload_n 1, 1) := by decide +kernel
theorem dX2_exchange_48 : decode cX2_exchange 48 = .ok (.iload 4, 2) := by decide +kernel
theorem dX2_exchange_50 : decode cX2_exchange 50 = .ok (.invokevirtual 79, 3) := by decide +kernel
