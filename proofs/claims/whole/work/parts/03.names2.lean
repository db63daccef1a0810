theorem inlX4 : ∀ w ∈ wsX40, w ∈ wsL_law := fun _ h => List.mem_append_left _ (List.mem_append_left _ (List.mem_append_left _ (List.mem_append_left _ (List.mem_append_right _ h))))
theorem inX4 : ∀ w ∈ wsX40, w ∈ lw_tbl := fun w h => wsL_law_in w (inlX4 w h)
theorem inlX5 : ∀ w ∈ wsX50, w ∈ wsL_law := fun _ h => List.mem_append_left _ (List.mem_append_left _ (List.mem_append_right _ h))
theorem inX5 : ∀ w ∈ wsX50, w ∈ lw_tbl := fun w h => wsL_law_in w (inlX5 w h)
theorem inlX6 : ∀ w ∈ wsX60, w ∈ wsL_law := fun _ h => List.mem_append_left _ (List.mem_append_left _ (List.mem_append_left _ (List.mem_append_left _ (List.mem_append_left _ (List.mem_append_left _ (List.mem_append_left _ (List.mem_append_left _ (List.mem_append_right _ h))))))))
theorem inX6 : ∀ w ∈ wsX60, w ∈ lw_tbl := fun w h => wsL_law_in w (inlX6 w h)
theorem inlX7 : ∀ w ∈ wsX70, w ∈ wsL_law := fun _ h => List.mem_append_left _ (List.mem_append_left _ (List.mem_append_left _ (List.mem_append_right _ h)))
theorem inX7 : ∀ w ∈ wsX70, w ∈ lw_tbl := fun w h => wsL_law_in w (inlX7 w h)
theorem inlX8 : ∀ w ∈ wsX80, w ∈ wsL_law := fun _ h => List.mem_append_left _ (List.mem_append_left _ (List.mem_append_left _ (List.mem_append_left _ (List.mem_append_left _ (List.mem_append_left _ (List.mem_append_left _ (List.mem_append_left _ (List.mem_append_left _ (List.mem_append_left _ (List.mem_append_right _ h))))))))))
theorem inX8 : ∀ w ∈ wsX80, w ∈ lw_tbl := fun w h => wsL_law_in w (inlX8 w h)
theorem inlX9 : ∀ w ∈ wsX90, w ∈ wsL_law := fun _ h => List.mem_append_left _ (List.mem_append_left _ (List.mem_append_left _ (List.mem_append_left _ (List.mem_append_left _ (List.mem_append_left _ (List.mem_append_left _ (List.mem_append_left _ (List.mem_append_left _ (List.mem_append_right _ h)))))))))
theorem inX9 : ∀ w ∈ wsX90, w ∈ lw_tbl := fun w h => wsL_law_in w (inlX9 w h)
theorem inJ6 : ∀ w ∈ wsJ60, w ∈ lw_tbl := by decide +kernel
theorem inJ9 : ∀ w ∈ wsJ90, w ∈ lw_tbl := by decide +kernel
theorem inJ10 : ∀ w ∈ wsJ100, w ∈ lw_tbl := by decide +kernel
theorem dX0_init_0 : decode cX0_init 0 = .ok (.aload_n 0, 1) := by decide +kernel
theorem dX0_init_1 : decode cX0_init 1 = .ok (.invokespecial 3, 3) := by decide +kernel
theorem dX0_init_4 : decode cX0_init 4 = .ok (.aload_n 0, 1) := by decide +kernel
theorem dX0_init_5 : decode cX0_init 5 = .ok (.bipush 8, 2) := by decide +kernel
theorem dX0_init_7 : decode cX0_init 7 = .ok (.newarray .int, 2) := by decide +kernel
theorem dX0_init_9 : decode cX0_init 9 = .ok (.putfield 9, 3) := by decide +kernel
theorem dX0_init_12 : decode cX0_init 12 = .ok (.aload_n 0, 1) := by decide +kernel
theorem dX0_init_13 : decode cX0_init 13 = .ok (.bipush 8, 2) := by decide +kernel
theorem dX0_init_15 : decode cX0_init 15 = .ok (.newarray .int, 2) := by decide +kernel
theorem dX0_init_17 : decode cX0_init 17 = .ok (.putfield 15, 3) := by decide +kernel
theorem dX0_init_20 : decode cX0_init 20 = .ok (.aload_n 0, 1) := by decide +kernel
theorem dX0_init_21 : decode cX0_init 21 = .ok (.bipush 8, 2) := by decide +kernel
theorem dX0_init_23 : decode cX0_init 23 = .ok (.newarray .int, 2) := by decide +kernel
theorem dX0_init_25 : decode cX0_init 25 = .ok (.putfield 18, 3) := by decide +kernel
theorem dX0_init_28 : decode cX0_init 28 = .ok (.aload_n 0, 1) := by decide +kernel
theorem dX0_init_29 : decode cX0_init 29 = .ok (.bipush 8, 2) := by decide +kernel
theorem dX0_init_31 : decode cX0_init 31 = .ok (.newarray .int, 2) := by decide +kernel
theorem dX0_init_33 : decode cX0_init 33 = .ok (.putfield 21, 3) := by decide +kernel
theorem dX0_init_36 : decode cX0_init 36 = .ok (.aload_n 0, 1) := by decide +kernel
theorem dX0_init_37 : decode cX0_init 37 = .ok (.bipush 8, 2) := by decide +kernel
theorem dX0_init_39 : decode cX0_init 39 = .ok (.newarray .int, 2) := by decide +kernel
theorem dX0_init_41 : decode cX0_init 41 = .ok (.putfield 24, 3) := by decide +kernel
theorem dX0_init_44 : decode cX0_init 44 = .ok (.aload_n 0, 1) := by decide +kernel
theorem dX0_init_45 : decode cX0_init 45 = .ok (.bipush 40, 2) := by decide +kernel
theorem dX0_init_47 : decode cX0_init 47 = .ok (.newarray .int, 2) := by decide +kernel
theorem dX0_init_49 : decode cX0_init 49 = .ok (.putfield 27, 3) := by decide +kernel
theorem dX0_init_52 : decode cX0_init 52 = .ok (.aload_n 0, 1) := by decide +kernel
theorem dX0_init_53 : decode cX0_init 53 = .ok (.bipush 40, 2) := by decide +kernel
theorem dX0_init_55 : decode cX0_init 55 = .ok (.newarray .int, 2) := by decide +kernel
theorem dX0_init_57 : decode cX0_init 57 = .ok (.putfield 30, 3) := by decide +kernel
theorem dX0_init_60 : decode cX0_init 60 = .ok (.aload_n 0, 1) := by decide +kernel
theorem dX0_init_61 : decode cX0_init 61 = .ok (.bipush 40, 2) := by decide +kernel
theorem dX0_init_63 : decode cX0_init 63 = .ok (.newarray .int, 2) := by decide +kernel
theorem dX0_init_65 : decode cX0_init 65 = .ok (.putfield 33, 3) := by decide +kernel
theorem dX0_init_68 : decode cX0_init 68 = .ok (.aload_n 0, 1) := by decide +kernel
theorem dX0_init_69 : decode cX0_init 69 = .ok (.bipush 64, 2) := by decide +kernel
theorem dX0_init_71 : decode cX0_init 71 = .ok (.newarray .int, 2) := by decide +kernel
theorem dX0_init_73 : decode cX0_init 73 = .ok (.putfield 36, 3) := by decide +kernel
theorem dX0_init_76 : decode cX0_init 76 = .ok (.aload_n 0, 1) := by decide +kernel
theorem dX0_init_77 : decode cX0_init 77 = .ok (.iconst 5, 1) := by decide +kernel
theorem dX0_init_78 : decode cX0_init 78 = .ok (.newarray .int, 2) := by decide +kernel
theorem dX0_init_80 : decode cX0_init 80 = .ok (.putfield 39, 3) := by decide +kernel
theorem dX0_init_83 : decode cX0_init 83 = .ok (.aload_n 0, 1) := by decide +kernel
theorem dX0_init_84 : decode cX0_init 84 = .ok (.iconst 5, 1) := by decide +kernel
theorem dX0_init_85 : decode cX0_init 85 = .ok (.newarray .int, 2) := by decide +kernel
theorem dX0_init_87 : decode cX0_init 87 = .ok (.putfield 42, 3) := by decide +kernel
theorem dX0_init_90 : decode cX0_init 90 = .ok (.return_, 1) := by decide +kernel
theorem dX0_exists_0 : decode cX0_exists 0 = .ok (.iload_n 1, 1) := by decide +kernel
theorem dX0_exists_1 : decode cX0_exists 1 = .ok (.ifCond .lt 15, 3) := by decide +kernel
theorem dX0_exists_4 : decode cX0_exists 4 = .ok (.iload_n 1, 1) := by decide +kernel
theorem dX0_exists_5 : decode cX0_exists 5 = .ok (.aload_n 0, 1) := by decide +kernel
theorem dX0_exists_6 : decode cX0_exists 6 = .ok (.getfield 45, 3) := by decide +kernel
theorem dX0_exists_9 : decode cX0_exists 9 = .ok (.if_icmp .ge 7, 3) := by decide +kernel
theorem dX0_exists_12 : decode cX0_exists 12 = .ok (.iconst 1, 1) := by decide +kernel
theorem dX0_exists_13 : decode cX0_exists 13 = .ok (.goto 4, 3) := by decide +kernel
theorem dX0_exists_16 : decode cX0_exists 16 = .ok (.iconst 0, 1) := by decide +kernel
theorem dX0_exists_17 : decode cX0_exists 17 = .ok (.ireturn, 1) := by decide +kernel
set_option maxRecDepth 20000 in
theorem ggX0_hasArgument_X0_exists : GoodIn wsX0_hasArgument wsX0_exists := goodIn_r _ [6, 7, 8, 9, 10, 11, 12, 13, 14, 15, 16, 17, 18, 19, 20] (by decide +kernel) (by decide +kernel)
set_option maxRecDepth 20000 in
theorem gX0_hasArgument_X0_exists : GoodIn wsX0_hasArgument (wsV RX0 49 RX0 yX0_exists wsX0_exists) := goodIn_app (goodIn_of _ (by decide +kernel)) ggX0_hasArgument_X0_exists
theorem dX0_hasArgument_0 : decode cX0_hasArgument 0 = .ok (.aload_n 0, 1) := by decide +kernel
theorem dX0_hasArgument_1 : decode cX0_hasArgument 1 = .ok (.iload_n 1, 1) := by decide +kernel
theorem dX0_hasArgument_2 : decode cX0_hasArgument 2 = .ok (.invokevirtual 49, 3) := by decide +kernel
theorem dX0_hasArgument_5 : decode cX0_hasArgument 5 = .ok (.ifCond .eq 21, 3) := by decide +kernel
theorem dX0_hasArgument_8 : decode cX0_hasArgument 8 = .ok (.iload_n 2, 1) := by decide +kernel
theorem dX0_hasArgument_9 : decode cX0_hasArgument 9 = .ok (.ifCond .lt 17, 3) := by decide +kernel
theorem dX0_hasArgument_12 : decode cX0_hasArgument 12 = .ok (.iload_n 2, 1) := by decide +kernel
theorem dX0_hasArgument_13 : decode cX0_hasArgument 13 = .ok (.aload_n 0, 1) := by decide +kernel
theorem dX0_hasArgument_14 : decode cX0_hasArgument 14 = .ok (.getfield 21, 3) := by decide +kernel
theorem dX0_hasArgument_17 : decode cX0_hasArgument 17 = .ok (.iload_n 1, 1) := by decide +kernel
theorem dX0_hasArgument_18 : decode cX0_hasArgument 18 = .ok (.iaload, 1) := by decide +kernel
theorem dX0_hasArgument_19 : decode cX0_hasArgument 19 = .ok (.if_icmp .ge 7, 3) := by decide +kernel
theorem dX0_hasArgument_22 : decode cX0_hasArgument 22 = .ok (.iconst 1, 1) := by decide +kernel
theorem dX0_hasArgument_23 : decode cX0_hasArgument 23 = .ok (.goto 4, 3) := by decide +kernel
theorem dX0_hasArgument_26 : decode cX0_hasArgument 26 = .ok (.iconst 0, 1) := by decide +kernel
theorem dX0_hasArgument_27 : decode cX0_hasArgument 27 = .ok (.ireturn, 1) := by decide +kernel
set_option maxRecDepth 20000 in
theorem ggX0_isFrozen_X8_contains : GoodIn wsX0_isFrozen wsX8_contains := goodIn_r _ [4] (by decide +kernel) (by decide +kernel)
set_option maxRecDepth 20000 in
theorem gX0_isFrozen_X8_contains_n56 : GoodIn wsX0_isFrozen (wsX8_contains) := ggX0_isFrozen_X8_contains
theorem dX0_isFrozen_0 : decode cX0_isFrozen 0 = .ok (.aload_n 0, 1) := by decide +kernel
theorem dX0_isFrozen_1 : decode cX0_isFrozen 1 = .ok (.getfield 53, 3) := by decide +kernel
theorem dX0_isFrozen_4 : decode cX0_isFrozen 4 = .ok (.iload_n 1, 1) := by decide +kernel
theorem dX0_isFrozen_5 : decode cX0_isFrozen 5 = .ok (.invokestatic 56, 3) := by decide +kernel
theorem dX0_isFrozen_8 : decode cX0_isFrozen 8 = .ok (.ireturn, 1) := by decide +kernel
theorem dX0_keyOf_0 : decode cX0_keyOf 0 = .ok (.aload_n 0, 1) := by decide +kernel
theorem dX0_keyOf_1 : decode cX0_keyOf 1 = .ok (.getfield 27, 3) := by decide +kernel
theorem dX0_keyOf_4 : decode cX0_keyOf 4 = .ok (.iload_n 1, 1) := by decide +kernel
theorem dX0_keyOf_5 : decode cX0_keyOf 5 = .ok (.iconst 5, 1) := by decide +kernel
theorem dX0_keyOf_6 : decode cX0_keyOf 6 = .ok (.imul, 1) := by decide +kernel
theorem dX0_keyOf_7 : decode cX0_keyOf 7 = .ok (.iload_n 2, 1) := by decide +kernel
theorem dX0_keyOf_8 : decode cX0_keyOf 8 = .ok (.iadd, 1) := by decide +kernel
theorem dX0_keyOf_9 : decode cX0_keyOf 9 = .ok (.iaload, 1) := by decide +kernel
theorem dX0_keyOf_10 : decode cX0_keyOf 10 = .ok (.ireturn, 1) := by decide +kernel
theorem dX0_kindOf_0 : decode cX0_kindOf 0 = .ok (.aload_n 0, 1) := by decide +kernel
theorem dX0_kindOf_1 : decode cX0_kindOf 1 = .ok (.getfield 30, 3) := by decide +kernel
theorem dX0_kindOf_4 : decode cX0_kindOf 4 = .ok (.iload_n 1, 1) := by decide +kernel
theorem dX0_kindOf_5 : decode cX0_kindOf 5 = .ok (.iconst 5, 1) := by decide +kernel
theorem dX0_kindOf_6 : decode cX0_kindOf 6 = .ok (.imul, 1) := by decide +kernel
theorem dX0_kindOf_7 : decode cX0_kindOf 7 = .ok (.iload_n 2, 1) := by decide +kernel
theorem dX0_kindOf_8 : decode cX0_kindOf 8 = .ok (.iadd, 1) := by decide +kernel
theorem dX0_kindOf_9 : decode cX0_kindOf 9 = .ok (.iaload, 1) := by decide +kernel
theorem dX0_kindOf_10 : decode cX0_kindOf 10 = .ok (.ireturn, 1) := by decide +kernel
theorem dX0_valueOf_0 : decode cX0_valueOf 0 = .ok (.aload_n 0, 1) := by decide +kernel
theorem dX0_valueOf_1 : decode cX0_valueOf 1 = .ok (.getfield 33, 3) := by decide +kernel
theorem dX0_valueOf_4 : decode cX0_valueOf 4 = .ok (.iload_n 1, 1) := by decide +kernel
theorem dX0_valueOf_5 : decode cX0_valueOf 5 = .ok (.iconst 5, 1) := by decide +kernel
theorem dX0_valueOf_6 : decode cX0_valueOf 6 = .ok (.imul, 1) := by decide +kernel
theorem dX0_valueOf_7 : decode cX0_valueOf 7 = .ok (.iload_n 2, 1) := by decide +kernel
theorem dX0_valueOf_8 : decode cX0_valueOf 8 = .ok (.iadd, 1) := by decide +kernel
theorem dX0_valueOf_9 : decode cX0_valueOf 9 = .ok (.iaload, 1) := by decide +kernel
theorem dX0_valueOf_10 : decode cX0_valueOf 10 = .ok (.ireturn, 1) := by decide +kernel
theorem dX0_temporaryKindOf_0 : decode cX0_temporaryKindOf 0 = .ok (.aload_n 0, 1) := by decide +kernel
theorem dX0_temporaryKindOf_1 : decode cX0_temporaryKindOf 1 = .ok (.getfield 36, 3) := by decide +kernel
theorem dX0_temporaryKindOf_4 : decode cX0_temporaryKindOf 4 = .ok (.iload_n 1, 1) := by decide +kernel
theorem dX0_temporaryKindOf_5 : decode cX0_temporaryKindOf 5 = .ok (.bipush 8, 2) := by decide +kernel
theorem dX0_temporaryKindOf_7 : decode cX0_temporaryKindOf 7 = .ok (.imul, 1) := by decide +kernel
theorem dX0_temporaryKindOf_8 : decode cX0_temporaryKindOf 8 = .ok (.iload_n 2, 1) := by decide +kernel
theorem dX0_temporaryKindOf_9 : decode cX0_temporaryKindOf 9 = .ok (.iadd, 1) := by decide +kernel
theorem dX0_temporaryKindOf_10 : decode cX0_temporaryKindOf 10 = .ok (.iaload, 1) := by decide +kernel
theorem dX0_temporaryKindOf_11 : decode cX0_temporaryKindOf 11 = .ok (.ireturn, 1) := by decide +kernel
set_option maxRecDepth 20000 in
theorem ggX0_withTargetIn_X8_contains : GoodIn wsX0_withTargetIn wsX8_contains := goodIn_r _ [5] (by decide +kernel) (by decide +kernel)
set_option maxRecDepth 20000 in
theorem gX0_withTargetIn_X8_contains_n56 : GoodIn wsX0_withTargetIn (wsX8_contains) := ggX0_withTargetIn_X8_contains
set_option maxRecDepth 20000 in
theorem ggX0_withTargetIn_X8_bit : GoodIn wsX0_withTargetIn wsX8_bit := goodIn_r _ [7] (by decide +kernel) (by decide +kernel)
set_option maxRecDepth 20000 in
theorem gX0_withTargetIn_X8_bit_n60 : GoodIn wsX0_withTargetIn (wsX8_bit) := ggX0_withTargetIn_X8_bit
theorem dX0_withTargetIn_0 : decode cX0_withTargetIn 0 = .ok (.iconst 0, 1) := by decide +kernel
theorem dX0_withTargetIn_1 : decode cX0_withTargetIn 1 = .ok (.istore_n 2, 1) := by decide +kernel
theorem dX0_withTargetIn_2 : decode cX0_withTargetIn 2 = .ok (.iconst 0, 1) := by decide +kernel
theorem dX0_withTargetIn_3 : decode cX0_withTargetIn 3 = .ok (.istore_n 3, 1) := by decide +kernel
theorem dX0_withTargetIn_4 : decode cX0_withTargetIn 4 = .ok (.iload_n 3, 1) := by decide +kernel
theorem dX0_withTargetIn_5 : decode cX0_withTargetIn 5 = .ok (.aload_n 0, 1) := by decide +kernel
theorem dX0_withTargetIn_6 : decode cX0_withTargetIn 6 = .ok (.getfield 45, 3) := by decide +kernel
theorem dX0_withTargetIn_9 : decode cX0_withTargetIn 9 = .ok (.if_icmp .ge 29, 3) := by decide +kernel
theorem dX0_withTargetIn_12 : decode cX0_withTargetIn 12 = .ok (.iload_n 1, 1) := by decide +kernel
theorem dX0_withTargetIn_13 : decode cX0_withTargetIn 13 = .ok (.aload_n 0, 1) := by decide +kernel
theorem dX0_withTargetIn_14 : decode cX0_withTargetIn 14 = .ok (.getfield 18, 3) := by decide +kernel
theorem dX0_withTargetIn_17 : decode cX0_withTargetIn 17 = .ok (.iload_n 3, 1) := by decide +kernel
theorem dX0_withTargetIn_18 : decode cX0_withTargetIn 18 = .ok (.iaload, 1) := by decide +kernel
theorem dX0_withTargetIn_19 : decode cX0_withTargetIn 19 = .ok (.invokestatic 56, 3) := by decide +kernel
theorem dX0_withTargetIn_22 : decode cX0_withTargetIn 22 = .ok (.ifCond .eq 10, 3) := by decide +kernel
theorem dX0_withTargetIn_25 : decode cX0_withTargetIn 25 = .ok (.iload_n 2, 1) := by decide +kernel
theorem dX0_withTargetIn_26 : decode cX0_withTargetIn 26 = .ok (.iload_n 3, 1) := by decide +kernel
theorem dX0_withTargetIn_27 : decode cX0_withTargetIn 27 = .ok (.invokestatic 60, 3) := by decide +kernel
theorem dX0_withTargetIn_30 : decode cX0_withTargetIn 30 = .ok (.ior, 1) := by decide +kernel
theorem dX0_withTargetIn_31 : decode cX0_withTargetIn 31 = .ok (.istore_n 2, 1) := by decide +kernel
theorem dX0_withTargetIn_32 : decode cX0_withTargetIn 32 = .ok (.iinc 3 1, 3) := by decide +kernel
theorem dX0_withTargetIn_35 : decode cX0_withTargetIn 35 = .ok (.goto (-31), 3) := by decide +kernel
theorem dX0_withTargetIn_38 : decode cX0_withTargetIn 38 = .ok (.iload_n 2, 1) := by decide +kernel
theorem dX0_withTargetIn_39 : decode cX0_withTargetIn 39 = .ok (.ireturn, 1) := by decide +kernel
set_option maxRecDepth 20000 in
theorem ggX0_fitsTarget_X0_keyOf : GoodIn wsX0_fitsTarget wsX0_keyOf := goodIn_r _ [8, 9, 16, 17, 18, 19, 20, 21, 22, 23, 24, 25, 26, 27, 28] (by decide +kernel) (by decide +kernel)
set_option maxRecDepth 20000 in
theorem gX0_fitsTarget_X0_keyOf : GoodIn wsX0_fitsTarget (wsV RX0 69 RX0 yX0_keyOf wsX0_keyOf) := goodIn_app (goodIn_of _ (by decide +kernel)) ggX0_fitsTarget_X0_keyOf
set_option maxRecDepth 20000 in
theorem ggX0_fitsTarget_X5_keyOf : GoodIn wsX0_fitsTarget wsX5_keyOf := goodIn_r _ [14, 15, 29, 30, 31, 32, 33, 34] (by decide +kernel) (by decide +kernel)
set_option maxRecDepth 20000 in
theorem gX0_fitsTarget_X5_keyOf : GoodIn wsX0_fitsTarget (wsV RX0 73 RX5 yX5_keyOf wsX5_keyOf) := goodIn_app (goodIn_of _ (by decide +kernel)) ggX0_fitsTarget_X5_keyOf
theorem dX0_fitsTarget_0 : decode cX0_fitsTarget 0 = .ok (.aload_n 0, 1) := by decide +kernel
theorem dX0_fitsTarget_1 : decode cX0_fitsTarget 1 = .ok (.getfield 18, 3) := by decide +kernel
theorem dX0_fitsTarget_4 : decode cX0_fitsTarget 4 = .ok (.iload_n 1, 1) := by decide +kernel
theorem dX0_fitsTarget_5 : decode cX0_fitsTarget 5 = .ok (.iaload, 1) := by decide +kernel
theorem dX0_fitsTarget_6 : decode cX0_fitsTarget 6 = .ok (.istore_n 3, 1) := by decide +kernel
theorem dX0_fitsTarget_7 : decode cX0_fitsTarget 7 = .ok (.aload_n 0, 1) := by decide +kernel
theorem dX0_fitsTarget_8 : decode cX0_fitsTarget 8 = .ok (.getfield 21, 3) := by decide +kernel
theorem dX0_fitsTarget_11 : decode cX0_fitsTarget 11 = .ok (.iload_n 1, 1) := by decide +kernel
theorem dX0_fitsTarget_12 : decode cX0_fitsTarget 12 = .ok (.iaload, 1) := by decide +kernel
theorem dX0_fitsTarget_13 : decode cX0_fitsTarget 13 = .ok (.aload_n 2, 1) := by decide +kernel
theorem dX0_fitsTarget_14 : decode cX0_fitsTarget 14 = .ok (.getfield 64, 3) := by decide +kernel
theorem dX0_fitsTarget_17 : decode cX0_fitsTarget 17 = .ok (.iload_n 3, 1) := by decide +kernel
theorem dX0_fitsTarget_18 : decode cX0_fitsTarget 18 = .ok (.iaload, 1) := by decide +kernel
theorem dX0_fitsTarget_19 : decode cX0_fitsTarget 19 = .ok (.if_icmp .eq 5, 3) := by decide +kernel
theorem dX0_fitsTarget_22 : decode cX0_fitsTarget 22 = .ok (.iconst 0, 1) := by decide +kernel
theorem dX0_fitsTarget_23 : decode cX0_fitsTarget 23 = .ok (.ireturn, 1) := by decide +kernel
theorem dX0_fitsTarget_24 : decode cX0_fitsTarget 24 = .ok (.iconst 0, 1) := by decide +kernel
theorem dX0_fitsTarget_25 : decode cX0_fitsTarget 25 = .ok (.istore 4, 2) := by decide +kernel
theorem dX0_fitsTarget_27 : decode cX0_fitsTarget 27 = .ok (.iload 4, 2) := by decide +kernel
theorem dX0_fitsTarget_29 : decode cX0_fitsTarget 29 = .ok (.aload_n 0, 1) := by decide +kernel
theorem dX0_fitsTarget_30 : decode cX0_fitsTarget 30 = .ok (.getfield 21, 3) := by decide +kernel
theorem dX0_fitsTarget_33 : decode cX0_fitsTarget 33 = .ok (.iload_n 1, 1) := by decide +kernel
theorem dX0_fitsTarget_34 : decode cX0_fitsTarget 34 = .ok (.iaload, 1) := by decide +kernel
theorem dX0_fitsTarget_35 : decode cX0_fitsTarget 35 = .ok (.if_icmp .ge 28, 3) := by decide +kernel
theorem dX0_fitsTarget_38 : decode cX0_fitsTarget 38 = .ok (.aload_n 0, 1) := by decide +kernel
theorem dX0_fitsTarget_39 : decode cX0_fitsTarget 39 = .ok (.iload_n 1, 1) := by decide +kernel
theorem dX0_fitsTarget_40 : decode cX0_fitsTarget 40 = .ok (.iload 4, 2) := by decide +kernel
theorem dX0_fitsTarget_42 : decode cX0_fitsTarget 42 = .ok (.invokevirtual 69, 3) := by decide +kernel
theorem dX0_fitsTarget_45 : decode cX0_fitsTarget 45 = .ok (.aload_n 2, 1) := by decide +kernel
theorem dX0_fitsTarget_46 : decode cX0_fitsTarget 46 = .ok (.iload_n 3, 1) := by decide +kernel
theorem dX0_fitsTarget_47 : decode cX0_fitsTarget 47 = .ok (.iload 4, 2) := by decide +kernel
theorem dX0_fitsTarget_49 : decode cX0_fitsTarget 49 = .ok (.invokevirtual 73, 3) := by decide +kernel
theorem dX0_fitsTarget_52 : decode cX0_fitsTarget 52 = .ok (.if_icmp .eq 5, 3) := by decide +kernel
theorem dX0_fitsTarget_55 : decode cX0_fitsTarget 55 = .ok (.iconst 0, 1) := by decide +kernel
theorem dX0_fitsTarget_56 : decode cX0_fitsTarget 56 = .ok (.ireturn, 1) := by decide +kernel
theorem dX0_fitsTarget_57 : decode cX0_fitsTarget 57 = .ok (.iinc 4 1, 3) := by decide +kernel
theorem dX0_fitsTarget_60 : decode cX0_fitsTarget 60 = .ok (.goto (-33), 3) := by decide +kernel
theorem dX0_fitsTarget_63 : decode cX0_fitsTarget 63 = .ok (.iconst 1, 1) := by decide +kernel
theorem dX0_fitsTarget_64 : decode cX0_fitsTarget 64 = .ok (.ireturn, 1) := by decide +kernel
set_option maxRecDepth 20000 in
theorem ggX0_add_X5_keyOf : GoodIn wsX0_add wsX5_keyOf := goodIn_r _ [13, 14, 35, 36, 37, 38, 39, 40] (by decide +kernel) (by decide +kernel)
set_option maxRecDepth 20000 in
theorem gX0_add_X5_keyOf : GoodIn wsX0_add (wsV RX0 73 RX5 yX5_keyOf wsX5_keyOf) := goodIn_app (goodIn_of _ (by decide +kernel)) ggX0_add_X5_keyOf
set_option maxRecDepth 20000 in
theorem ggX0_add_X0_putArgument : GoodIn wsX0_add wsX0_putArgument := goodIn_r _ [19, 20, 21, 22, 23, 24, 25, 26, 27, 28, 29, 30, 31, 32, 33, 34] (by decide +kernel) (by decide +kernel)
set_option maxRecDepth 20000 in
theorem gX0_add_X0_putArgument : GoodIn wsX0_add (wsV RX0 74 RX0 yX0_putArgument wsX0_putArgument) := goodIn_app (goodIn_of _ (by decide +kernel)) ggX0_add_X0_putArgument
theorem dX0_add_0 : decode cX0_add 0 = .ok (.aload_n 0, 1) := by decide +kernel
theorem dX0_add_1 : decode cX0_add 1 = .ok (.getfield 45, 3) := by decide +kernel
theorem dX0_add_4 : decode cX0_add 4 = .ok (.istore 5, 2) := by decide +kernel
theorem dX0_add_6 : decode cX0_add 6 = .ok (.aload_n 0, 1) := by decide +kernel
theorem dX0_add_7 : decode cX0_add 7 = .ok (.getfield 9, 3) := by decide +kernel
theorem dX0_add_10 : decode cX0_add 10 = .ok (.iload 5, 2) := by decide +kernel
theorem dX0_add_12 : decode cX0_add 12 = .ok (.iload_n 1, 1) := by decide +kernel
theorem dX0_add_13 : decode cX0_add 13 = .ok (.iastore, 1) := by decide +kernel
theorem dX0_add_14 : decode cX0_add 14 = .ok (.aload_n 0, 1) := by decide +kernel
theorem dX0_add_15 : decode cX0_add 15 = .ok (.getfield 15, 3) := by decide +kernel
theorem dX0_add_18 : decode cX0_add 18 = .ok (.iload 5, 2) := by decide +kernel
theorem dX0_add_20 : decode cX0_add 20 = .ok (.iload_n 2, 1) := by decide +kernel
theorem dX0_add_21 : decode cX0_add 21 = .ok (.iastore, 1) := by decide +kernel
theorem dX0_add_22 : decode cX0_add 22 = .ok (.aload_n 0, 1) := by decide +kernel
theorem dX0_add_23 : decode cX0_add 23 = .ok (.getfield 18, 3) := by decide +kernel
theorem dX0_add_26 : decode cX0_add 26 = .ok (.iload 5, 2) := by decide +kernel
theorem dX0_add_28 : decode cX0_add 28 = .ok (.iload_n 3, 1) := by decide +kernel
theorem dX0_add_29 : decode cX0_add 29 = .ok (.iastore, 1) := by decide +kernel
theorem dX0_add_30 : decode cX0_add 30 = .ok (.aload_n 0, 1) := by decide +kernel
theorem dX0_add_31 : decode cX0_add 31 = .ok (.getfield 21, 3) := by decide +kernel
theorem dX0_add_34 : decode cX0_add 34 = .ok (.iload 5, 2) := by decide +kernel
theorem dX0_add_36 : decode cX0_add 36 = .ok (.aload 4, 2) := by decide +kernel
theorem dX0_add_38 : decode cX0_add 38 = .ok (.getfield 64, 3) := by decide +kernel
theorem dX0_add_41 : decode cX0_add 41 = .ok (.iload_n 3, 1) := by decide +kernel
theorem dX0_add_42 : decode cX0_add 42 = .ok (.iaload, 1) := by decide +kernel
theorem dX0_add_43 : decode cX0_add 43 = .ok (.iastore, 1) := by decide +kernel
theorem dX0_add_44 : decode cX0_add 44 = .ok (.aload_n 0, 1) := by decide +kernel
theorem dX0_add_45 : decode cX0_add 45 = .ok (.getfield 24, 3) := by decide +kernel
theorem dX0_add_48 : decode cX0_add 48 = .ok (.iload 5, 2) := by decide +kernel
theorem dX0_add_50 : decode cX0_add 50 = .ok (.iconst 0, 1) := by decide +kernel
theorem dX0_add_51 : decode cX0_add 51 = .ok (.iastore, 1) := by decide +kernel
theorem dX0_add_52 : decode cX0_add 52 = .ok (.iconst 0, 1) := by decide +kernel
theorem dX0_add_53 : decode cX0_add 53 = .ok (.istore 6, 2) := by decide +kernel
theorem dX0_add_55 : decode cX0_add 55 = .ok (.iload 6, 2) := by decide +kernel
theorem dX0_add_57 : decode cX0_add 57 = .ok (.aload 4, 2) := by decide +kernel
theorem dX0_add_59 : decode cX0_add 59 = .ok (.getfield 64, 3) := by decide +kernel
theorem dX0_add_62 : decode cX0_add 62 = .ok (.iload_n 3, 1) := by decide +kernel
theorem dX0_add_63 : decode cX0_add 63 = .ok (.iaload, 1) := by decide +kernel
theorem dX0_add_64 : decode cX0_add 64 = .ok (.if_icmp .ge 39, 3) := by decide +kernel
theorem dX0_add_67 : decode cX0_add 67 = .ok (.aload_n 0, 1) := by decide +kernel
theorem dX0_add_68 : decode cX0_add 68 = .ok (.getfield 27, 3) := by decide +kernel
theorem dX0_add_71 : decode cX0_add 71 = .ok (.iload 5, 2) := by decide +kernel
theorem dX0_add_73 : decode cX0_add 73 = .ok (.iconst 5, 1) := by decide +kernel
theorem dX0_add_74 : decode cX0_add 74 = .ok (.imul, 1) := by decide +kernel
theorem dX0_add_75 : decode cX0_add 75 = .ok (.iload 6, 2) := by decide +kernel
theorem dX0_add_77 : decode cX0_add 77 = .ok (.iadd, 1) := by decide +kernel
theorem dX0_add_78 : decode cX0_add 78 = .ok (.aload 4, 2) := by decide +kernel
theorem dX0_add_80 : decode cX0_add 80 = .ok (.iload_n 3, 1) := by decide +kernel
theorem dX0_add_81 : decode cX0_add 81 = .ok (.iload 6, 2) := by decide +kernel
theorem dX0_add_83 : decode cX0_add 83 = .ok (.invokevirtual 73, 3) := by decide +kernel
theorem dX0_add_86 : decode cX0_add 86 = .ok (.iastore, 1) := by decide +kernel
theorem dX0_add_87 : decode cX0_add 87 = .ok (.aload_n 0, 1) := by decide +kernel
theorem dX0_add_88 : decode cX0_add 88 = .ok (.iload 5, 2) := by decide +kernel
theorem dX0_add_90 : decode cX0_add 90 = .ok (.iload 6, 2) := by decide +kernel
theorem dX0_add_92 : decode cX0_add 92 = .ok (.iconst 0, 1) := by decide +kernel
theorem dX0_add_93 : decode cX0_add 93 = .ok (.iconst 0, 1) := by decide +kernel
theorem dX0_add_94 : decode cX0_add 94 = .ok (.invokevirtual 74, 3) := by decide +kernel
theorem dX0_add_97 : decode cX0_add 97 = .ok (.iinc 6 1, 3) := by decide +kernel
theorem dX0_add_100 : decode cX0_add 100 = .ok (.goto (-45), 3) := by decide +kernel
theorem dX0_add_103 : decode cX0_add 103 = .ok (.aload_n 0, 1) := by decide +kernel
theorem dX0_add_104 : decode cX0_add 104 = .ok (.dup, 1) := by decide +kernel
theorem dX0_add_105 : decode cX0_add 105 = .ok (.getfield 45, 3) := by decide +kernel
theorem dX0_add_108 : decode cX0_add 108 = .ok (.iconst 1, 1) := by decide +kernel
theorem dX0_add_109 : decode cX0_add 109 = .ok (.iadd, 1) := by decide +kernel
theorem dX0_add_110 : decode cX0_add 110 = .ok (.putfield 45, 3) := by decide +kernel
theorem dX0_add_113 : decode cX0_add 113 = .ok (.iload 5, 2) := by decide +kernel
theorem dX0_add_115 : decode cX0_add 115 = .ok (.ireturn, 1) := by decide +kernel
theorem dX0_putArgument_0 : decode cX0_putArgument 0 = .ok (.aload_n 0, 1) := by decide +kernel
theorem dX0_putArgument_1 : decode cX0_putArgument 1 = .ok (.getfield 30, 3) := by decide +kernel
theorem dX0_putArgument_4 : decode cX0_putArgument 4 = .ok (.iload_n 1, 1) := by decide +kernel
theorem dX0_putArgument_5 : decode cX0_putArgument 5 = .ok (.iconst 5, 1) := by decide +kernel
theorem dX0_putArgument_6 : decode cX0_putArgument 6 = .ok (.imul, 1) := by decide +kernel
theorem dX0_putArgument_7 : decode cX0_putArgument 7 = .ok (.iload_n 2, 1) := by decide +kernel
theorem dX0_putArgument_8 : decode cX0_putArgument 8 = .ok (.iadd, 1) := by decide +kernel
theorem dX0_putArgument_9 : decode cX0_putArgument 9 = .ok (.iload_n 3, 1) := by decide +kernel
theorem dX0_putArgument_10 : decode cX0_putArgument 10 = .ok (.iastore, 1) := by decide +kernel
theorem dX0_putArgument_11 : decode cX0_putArgument 11 = .ok (.aload_n 0, 1) := by decide +kernel
theorem dX0_putArgument_12 : decode cX0_putArgument 12 = .ok (.getfield 33, 3) := by decide +kernel
theorem dX0_putArgument_15 : decode cX0_putArgument 15 = .ok (.iload_n 1, 1) := by decide +kernel
theorem dX0_putArgument_16 : decode cX0_putArgument 16 = .ok (.iconst 5, 1) := by decide +kernel
theorem dX0_putArgument_17 : decode cX0_putArgument 17 = .ok (.imul, 1) := by decide +kernel
theorem dX0_putArgument_18 : decode cX0_putArgument 18 = .ok (.iload_n 2, 1) := by decide +kernel
theorem dX0_putArgument_19 : decode cX0_putArgument 19 = .ok (.iadd, 1) := by decide +kernel
theorem dX0_putArgument_20 : decode cX0_putArgument 20 = .ok (.iload 4, 2) := by decide +kernel
theorem dX0_putArgument_22 : decode cX0_putArgument 22 = .ok (.iastore, 1) := by decide +kernel
theorem dX0_putArgument_23 : decode cX0_putArgument 23 = .ok (.return_, 1) := by decide +kernel
set_option maxRecDepth 20000 in
theorem ggX0_rewrite_X8_contains : GoodIn wsX0_rewrite wsX8_contains := goodIn_r _ [4] (by decide +kernel) (by decide +kernel)
set_option maxRecDepth 20000 in
theorem gX0_rewrite_X8_contains_n56 : GoodIn wsX0_rewrite (wsX8_contains) := ggX0_rewrite_X8_contains
set_option maxRecDepth 20000 in
theorem ggX0_rewrite_X0_hoist : GoodIn wsX0_rewrite wsX0_hoist := goodIn_r _ [9, 10, 11, 12, 2, 3, 4, 13, 14, 15, 8, 16, 17, 18, 19, 20, 21, 22, 38, 39, 40, 41, 42, 43, 44, 45, 46, 47, 48, 49, 50] (by decide +kernel) (by decide +kernel)
set_option maxRecDepth 20000 in
theorem gX0_rewrite_X0_hoist : GoodIn wsX0_rewrite (wsV RX0 78 RX0 yX0_hoist wsX0_hoist) := goodIn_app (goodIn_of _ (by decide +kernel)) ggX0_rewrite_X0_hoist
set_option maxRecDepth 20000 in
theorem ggX0_rewrite_X0_rearrange : GoodIn wsX0_rewrite wsX0_rearrange := goodIn_r _ [26, 27, 28, 29, 30, 31, 32, 33, 10, 13, 14, 15, 8, 16, 17, 34, 35, 36, 37, 22, 18, 19, 20, 21, 51, 52, 53, 54, 55, 56, 57, 58, 59, 60, 38, 39, 40, 41, 42, 43, 44, 45, 46, 47, 48, 49, 50] (by decide +kernel) (by decide +kernel)
set_option maxRecDepth 20000 in
theorem gX0_rewrite_X0_rearrange : GoodIn wsX0_rewrite (wsV RX0 82 RX0 yX0_rearrange wsX0_rearrange) := goodIn_app (goodIn_of _ (by decide +kernel)) ggX0_rewrite_X0_rearrange
theorem dX0_rewrite_0 : decode cX0_rewrite 0 = .ok (.iconst 0, 1) := by decide +kernel
theorem dX0_rewrite_1 : decode cX0_rewrite 1 = .ok (.istore 4, 2) := by decide +kernel
theorem dX0_rewrite_3 : decode cX0_rewrite 3 = .ok (.iload 4, 2) := by decide +kernel
theorem dX0_rewrite_5 : decode cX0_rewrite 5 = .ok (.aload_n 0, 1) := by decide +kernel
theorem dX0_rewrite_6 : decode cX0_rewrite 6 = .ok (.getfield 45, 3) := by decide +kernel
theorem dX0_rewrite_9 : decode cX0_rewrite 9 = .ok (.if_icmp .ge 35, 3) := by decide +kernel
theorem dX0_rewrite_12 : decode cX0_rewrite 12 = .ok (.iload_n 1, 1) := by decide +kernel
theorem dX0_rewrite_13 : decode cX0_rewrite 13 = .ok (.iload 4, 2) := by decide +kernel
theorem dX0_rewrite_15 : decode cX0_rewrite 15 = .ok (.invokestatic 56, 3) := by decide +kernel
theorem dX0_rewrite_18 : decode cX0_rewrite 18 = .ok (.ifCond .eq 20, 3) := by decide +kernel
theorem dX0_rewrite_21 : decode cX0_rewrite 21 = .ok (.aload_n 0, 1) := by decide +kernel
theorem dX0_rewrite_22 : decode cX0_rewrite 22 = .ok (.iload 4, 2) := by decide +kernel
theorem dX0_rewrite_24 : decode cX0_rewrite 24 = .ok (.aload_n 2, 1) := by decide +kernel
theorem dX0_rewrite_25 : decode cX0_rewrite 25 = .ok (.iload 4, 2) := by decide +kernel
theorem dX0_rewrite_27 : decode cX0_rewrite 27 = .ok (.iaload, 1) := by decide +kernel
theorem dX0_rewrite_28 : decode cX0_rewrite 28 = .ok (.invokevirtual 78, 3) := by decide +kernel
theorem dX0_rewrite_31 : decode cX0_rewrite 31 = .ok (.aload_n 0, 1) := by decide +kernel
theorem dX0_rewrite_32 : decode cX0_rewrite 32 = .ok (.iload 4, 2) := by decide +kernel
theorem dX0_rewrite_34 : decode cX0_rewrite 34 = .ok (.aload_n 3, 1) := by decide +kernel
theorem dX0_rewrite_35 : decode cX0_rewrite 35 = .ok (.invokevirtual 82, 3) := by decide +kernel
theorem dX0_rewrite_38 : decode cX0_rewrite 38 = .ok (.iinc 4 1, 3) := by decide +kernel
theorem dX0_rewrite_41 : decode cX0_rewrite 41 = .ok (.goto (-38), 3) := by decide +kernel
theorem dX0_rewrite_44 : decode cX0_rewrite 44 = .ok (.return_, 1) := by decide +kernel
set_option maxRecDepth 20000 in
theorem ggX0_hoist_X8_contains : GoodIn wsX0_hoist wsX8_contains := goodIn_r _ [6] (by decide +kernel) (by decide +kernel)
set_option maxRecDepth 20000 in
theorem gX0_hoist_X8_contains_n56 : GoodIn wsX0_hoist (wsX8_contains) := ggX0_hoist_X8_contains
set_option maxRecDepth 20000 in
theorem ggX0_hoist_X0_kindOf : GoodIn wsX0_hoist wsX0_kindOf := goodIn_r _ [11, 12, 18, 19, 20, 21, 22, 23, 24, 25, 26, 27, 28, 29, 30] (by decide +kernel) (by decide +kernel)
set_option maxRecDepth 20000 in
theorem gX0_hoist_X0_kindOf : GoodIn wsX0_hoist (wsV RX0 86 RX0 yX0_kindOf wsX0_kindOf) := goodIn_app (goodIn_of _ (by decide +kernel)) ggX0_hoist_X0_kindOf
set_option maxRecDepth 20000 in
theorem ggX0_hoist_X0_putArgument : GoodIn wsX0_hoist wsX0_putArgument := goodIn_r _ [16, 12, 17, 18, 19, 20, 21, 22, 23, 24, 25, 26, 27, 28, 29, 30] (by decide +kernel) (by decide +kernel)
set_option maxRecDepth 20000 in
theorem gX0_hoist_X0_putArgument : GoodIn wsX0_hoist (wsV RX0 74 RX0 yX0_putArgument wsX0_putArgument) := goodIn_app (goodIn_of _ (by decide +kernel)) ggX0_hoist_X0_putArgument
theorem dX0_hoist_0 : decode cX0_hoist 0 = .ok (.iconst 0, 1) := by decide +kernel
theorem dX0_hoist_1 : decode cX0_hoist 1 = .ok (.istore_n 3, 1) := by decide +kernel
theorem dX0_hoist_2 : decode cX0_hoist 2 = .ok (.iload_n 3, 1) := by decide +kernel
theorem dX0_hoist_3 : decode cX0_hoist 3 = .ok (.aload_n 0, 1) := by decide +kernel
theorem dX0_hoist_4 : decode cX0_hoist 4 = .ok (.getfield 21, 3) := by decide +kernel
theorem dX0_hoist_7 : decode cX0_hoist 7 = .ok (.iload_n 1, 1) := by decide +kernel
theorem dX0_hoist_8 : decode cX0_hoist 8 = .ok (.iaload, 1) := by decide +kernel
theorem dX0_hoist_9 : decode cX0_hoist 9 = .ok (.if_icmp .ge 62, 3) := by decide +kernel
theorem dX0_hoist_12 : decode cX0_hoist 12 = .ok (.iload_n 2, 1) := by decide +kernel
theorem dX0_hoist_13 : decode cX0_hoist 13 = .ok (.iload_n 3, 1) := by decide +kernel
theorem dX0_hoist_14 : decode cX0_hoist 14 = .ok (.invokestatic 56, 3) := by decide +kernel
theorem dX0_hoist_17 : decode cX0_hoist 17 = .ok (.ifCond .eq 48, 3) := by decide +kernel
theorem dX0_hoist_20 : decode cX0_hoist 20 = .ok (.aload_n 0, 1) := by decide +kernel
theorem dX0_hoist_21 : decode cX0_hoist 21 = .ok (.getfield 24, 3) := by decide +kernel
theorem dX0_hoist_24 : decode cX0_hoist 24 = .ok (.iload_n 1, 1) := by decide +kernel
theorem dX0_hoist_25 : decode cX0_hoist 25 = .ok (.iaload, 1) := by decide +kernel
theorem dX0_hoist_26 : decode cX0_hoist 26 = .ok (.istore 4, 2) := by decide +kernel
theorem dX0_hoist_28 : decode cX0_hoist 28 = .ok (.aload_n 0, 1) := by decide +kernel
theorem dX0_hoist_29 : decode cX0_hoist 29 = .ok (.getfield 36, 3) := by decide +kernel
theorem dX0_hoist_32 : decode cX0_hoist 32 = .ok (.iload_n 1, 1) := by decide +kernel
theorem dX0_hoist_33 : decode cX0_hoist 33 = .ok (.bipush 8, 2) := by decide +kernel
theorem dX0_hoist_35 : decode cX0_hoist 35 = .ok (.imul, 1) := by decide +kernel
theorem dX0_hoist_36 : decode cX0_hoist 36 = .ok (.iload 4, 2) := by decide +kernel
theorem dX0_hoist_38 : decode cX0_hoist 38 = .ok (.iadd, 1) := by decide +kernel
theorem dX0_hoist_39 : decode cX0_hoist 39 = .ok (.aload_n 0, 1) := by decide +kernel
theorem dX0_hoist_40 : decode cX0_hoist 40 = .ok (.iload_n 1, 1) := by decide +kernel
theorem dX0_hoist_41 : decode cX0_hoist 41 = .ok (.iload_n 3, 1) := by decide +kernel
theorem dX0_hoist_42 : decode cX0_hoist 42 = .ok (.invokevirtual 86, 3) := by decide +kernel
theorem dX0_hoist_45 : decode cX0_hoist 45 = .ok (.iastore, 1) := by decide +kernel
theorem dX0_hoist_46 : decode cX0_hoist 46 = .ok (.aload_n 0, 1) := by decide +kernel
theorem dX0_hoist_47 : decode cX0_hoist 47 = .ok (.iload_n 1, 1) := by decide +kernel
theorem dX0_hoist_48 : decode cX0_hoist 48 = .ok (.iload_n 3, 1) := by decide +kernel
theorem dX0_hoist_49 : decode cX0_hoist 49 = .ok (.iconst 3, 1) := by decide +kernel
theorem dX0_hoist_50 : decode cX0_hoist 50 = .ok (.iload 4, 2) := by decide +kernel
theorem dX0_hoist_52 : decode cX0_hoist 52 = .ok (.invokevirtual 74, 3) := by decide +kernel
theorem dX0_hoist_55 : decode cX0_hoist 55 = .ok (.aload_n 0, 1) := by decide +kernel
theorem dX0_hoist_56 : decode cX0_hoist 56 = .ok (.getfield 24, 3) := by decide +kernel
theorem dX0_hoist_59 : decode cX0_hoist 59 = .ok (.iload_n 1, 1) := by decide +kernel
theorem dX0_hoist_60 : decode cX0_hoist 60 = .ok (.dup2, 1) := by decide +kernel
theorem dX0_hoist_61 : decode cX0_hoist 61 = .ok (.iaload, 1) := by decide +kernel
theorem dX0_hoist_62 : decode cX0_hoist 62 = .ok (.iconst 1, 1) := by decide +kernel
theorem dX0_hoist_63 : decode cX0_hoist 63 = .ok (.iadd, 1) := by decide +kernel
theorem dX0_hoist_64 : decode cX0_hoist 64 = .ok (.iastore, 1) := by decide +kernel
theorem dX0_hoist_65 : decode cX0_hoist 65 = .ok (.iinc 3 1, 3) := by decide +kernel
theorem dX0_hoist_68 : decode cX0_hoist 68 = .ok (.goto (-66), 3) := by decide +kernel
theorem dX0_hoist_71 : decode cX0_hoist 71 = .ok (.return_, 1) := by decide +kernel
set_option maxRecDepth 20000 in
theorem ggX0_rearrange_X0_kindOf : GoodIn wsX0_rearrange wsX0_kindOf := goodIn_r _ [13, 14, 34, 35, 36, 37, 38, 39, 40, 41, 42, 43, 44, 45, 46] (by decide +kernel) (by decide +kernel)
set_option maxRecDepth 20000 in
theorem gX0_rearrange_X0_kindOf : GoodIn wsX0_rearrange (wsV RX0 86 RX0 yX0_kindOf wsX0_kindOf) := goodIn_app (goodIn_of _ (by decide +kernel)) ggX0_rearrange_X0_kindOf
set_option maxRecDepth 20000 in
theorem ggX0_rearrange_X0_valueOf : GoodIn wsX0_rearrange wsX0_valueOf := goodIn_r _ [18, 19, 34, 35, 36, 37, 38, 39, 40, 41, 42, 43, 44, 45, 46] (by decide +kernel) (by decide +kernel)
set_option maxRecDepth 20000 in
theorem gX0_rearrange_X0_valueOf : GoodIn wsX0_rearrange (wsV RX0 98 RX0 yX0_valueOf wsX0_valueOf) := goodIn_app (goodIn_of _ (by decide +kernel)) ggX0_rearrange_X0_valueOf
set_option maxRecDepth 20000 in
theorem ggX0_rearrange_X0_putArgument : GoodIn wsX0_rearrange wsX0_putArgument := goodIn_r _ [23, 14, 19, 34, 35, 36, 37, 38, 39, 40, 41, 42, 43, 44, 45, 46] (by decide +kernel) (by decide +kernel)
set_option maxRecDepth 20000 in
theorem gX0_rearrange_X0_putArgument : GoodIn wsX0_rearrange (wsV RX0 74 RX0 yX0_putArgument wsX0_putArgument) := goodIn_app (goodIn_of _ (by decide +kernel)) ggX0_rearrange_X0_putArgument
theorem dX0_rearrange_0 : decode cX0_rearrange 0 = .ok (.iconst 0, 1) := by decide +kernel
theorem dX0_rearrange_1 : decode cX0_rearrange 1 = .ok (.istore_n 3, 1) := by decide +kernel
theorem dX0_rearrange_2 : decode cX0_rearrange 2 = .ok (.iload_n 3, 1) := by decide +kernel
theorem dX0_rearrange_3 : decode cX0_rearrange 3 = .ok (.aload_n 2, 1) := by decide +kernel
theorem dX0_rearrange_4 : decode cX0_rearrange 4 = .ok (.getfield 89, 3) := by decide +kernel
theorem dX0_rearrange_7 : decode cX0_rearrange 7 = .ok (.if_icmp .ge 68, 3) := by decide +kernel
theorem dX0_rearrange_10 : decode cX0_rearrange 10 = .ok (.aload_n 2, 1) := by decide +kernel
theorem dX0_rearrange_11 : decode cX0_rearrange 11 = .ok (.getfield 92, 3) := by decide +kernel
theorem dX0_rearrange_14 : decode cX0_rearrange 14 = .ok (.iload_n 3, 1) := by decide +kernel
theorem dX0_rearrange_15 : decode cX0_rearrange 15 = .ok (.iaload, 1) := by decide +kernel
theorem dX0_rearrange_16 : decode cX0_rearrange 16 = .ok (.istore 4, 2) := by decide +kernel
theorem dX0_rearrange_18 : decode cX0_rearrange 18 = .ok (.aload_n 0, 1) := by decide +kernel
theorem dX0_rearrange_19 : decode cX0_rearrange 19 = .ok (.getfield 39, 3) := by decide +kernel
theorem dX0_rearrange_22 : decode cX0_rearrange 22 = .ok (.iload_n 3, 1) := by decide +kernel
theorem dX0_rearrange_23 : decode cX0_rearrange 23 = .ok (.iload 4, 2) := by decide +kernel
theorem dX0_rearrange_25 : decode cX0_rearrange 25 = .ok (.iconst (-1), 1) := by decide +kernel
theorem dX0_rearrange_26 : decode cX0_rearrange 26 = .ok (.if_icmp .ne 7, 3) := by decide +kernel
theorem dX0_rearrange_29 : decode cX0_rearrange 29 = .ok (.iconst 0, 1) := by decide +kernel
theorem dX0_rearrange_30 : decode cX0_rearrange 30 = .ok (.goto 10, 3) := by decide +kernel
theorem dX0_rearrange_33 : decode cX0_rearrange 33 = .ok (.aload_n 0, 1) := by decide +kernel
theorem dX0_rearrange_34 : decode cX0_rearrange 34 = .ok (.iload_n 1, 1) := by decide +kernel
theorem dX0_rearrange_35 : decode cX0_rearrange 35 = .ok (.iload 4, 2) := by decide +kernel
theorem dX0_rearrange_37 : decode cX0_rearrange 37 = .ok (.invokevirtual 86, 3) := by decide +kernel
theorem dX0_rearrange_40 : decode cX0_rearrange 40 = .ok (.iastore, 1) := by decide +kernel
theorem dX0_rearrange_41 : decode cX0_rearrange 41 = .ok (.aload_n 0, 1) := by decide +kernel
theorem dX0_rearrange_42 : decode cX0_rearrange 42 = .ok (.getfield 42, 3) := by decide +kernel
theorem dX0_rearrange_45 : decode cX0_rearrange 45 = .ok (.iload_n 3, 1) := by decide +kernel
theorem dX0_rearrange_46 : decode cX0_rearrange 46 = .ok (.iload 4, 2) := by decide +kernel
theorem dX0_rearrange_48 : decode cX0_rearrange 48 = .ok (.iconst (-1), 1) := by decide +kernel
theorem dX0_rearrange_49 : decode cX0_rearrange 49 = .ok (.if_icmp .ne 12, 3) := by decide +kernel
theorem dX0_rearrange_52 : decode cX0_rearrange 52 = .ok (.aload_n 2, 1) := by decide +kernel
theorem dX0_rearrange_53 : decode cX0_rearrange 53 = .ok (.getfield 95, 3) := by decide +kernel
theorem dX0_rearrange_56 : decode cX0_rearrange 56 = .ok (.iload_n 3, 1) := by decide +kernel
theorem dX0_rearrange_57 : decode cX0_rearrange 57 = .ok (.iaload, 1) := by decide +kernel
theorem dX0_rearrange_58 : decode cX0_rearrange 58 = .ok (.goto 10, 3) := by decide +kernel
theorem dX0_rearrange_61 : decode cX0_rearrange 61 = .ok (.aload_n 0, 1) := by decide +kernel
theorem dX0_rearrange_62 : decode cX0_rearrange 62 = .ok (.iload_n 1, 1) := by decide +kernel
theorem dX0_rearrange_63 : decode cX0_rearrange 63 = .ok (.iload 4, 2) := by decide +kernel
theorem dX0_rearrange_65 : decode cX0_rearrange 65 = .ok (.invokevirtual 98, 3) := by decide +kernel
theorem dX0_rearrange_68 : decode cX0_rearrange 68 = .ok (.iastore, 1) := by decide +kernel
theorem dX0_rearrange_69 : decode cX0_rearrange 69 = .ok (.iinc 3 1, 3) := by decide +kernel
theorem dX0_rearrange_72 : decode cX0_rearrange 72 = .ok (.goto (-70), 3) := by decide +kernel
theorem dX0_rearrange_75 : decode cX0_rearrange 75 = .ok (.iconst 0, 1) := by decide +kernel
theorem dX0_rearrange_76 : decode cX0_rearrange 76 = .ok (.istore_n 3, 1) := by decide +kernel
theorem dX0_rearrange_77 : decode cX0_rearrange 77 = .ok (.iload_n 3, 1) := by decide +kernel
theorem dX0_rearrange_78 : decode cX0_rearrange 78 = .ok (.aload_n 2, 1) := by decide +kernel
theorem dX0_rearrange_79 : decode cX0_rearrange 79 = .ok (.getfield 89, 3) := by decide +kernel
theorem dX0_rearrange_82 : decode cX0_rearrange 82 = .ok (.if_icmp .ge 43, 3) := by decide +kernel
theorem dX0_rearrange_85 : decode cX0_rearrange 85 = .ok (.aload_n 0, 1) := by decide +kernel
theorem dX0_rearrange_86 : decode cX0_rearrange 86 = .ok (.getfield 27, 3) := by decide +kernel
theorem dX0_rearrange_89 : decode cX0_rearrange 89 = .ok (.iload_n 1, 1) := by decide +kernel
theorem dX0_rearrange_90 : decode cX0_rearrange 90 = .ok (.iconst 5, 1) := by decide +kernel
theorem dX0_rearrange_91 : decode cX0_rearrange 91 = .ok (.imul, 1) := by decide +kernel
theorem dX0_rearrange_92 : decode cX0_rearrange 92 = .ok (.iload_n 3, 1) := by decide +kernel
theorem dX0_rearrange_93 : decode cX0_rearrange 93 = .ok (.iadd, 1) := by decide +kernel
theorem dX0_rearrange_94 : decode cX0_rearrange 94 = .ok (.aload_n 2, 1) := by decide +kernel
theorem dX0_rearrange_95 : decode cX0_rearrange 95 = .ok (.getfield 101, 3) := by decide +kernel
theorem dX0_rearrange_98 : decode cX0_rearrange 98 = .ok (.iload_n 3, 1) := by decide +kernel
theorem dX0_rearrange_99 : decode cX0_rearrange 99 = .ok (.iaload, 1) := by decide +kernel
theorem dX0_rearrange_100 : decode cX0_rearrange 100 = .ok (.iastore, 1) := by decide +kernel
theorem dX0_rearrange_101 : decode cX0_rearrange 101 = .ok (.aload_n 0, 1) := by decide +kernel
theorem dX0_rearrange_102 : decode cX0_rearrange 102 = .ok (.iload_n 1, 1) := by decide +kernel
theorem dX0_rearrange_103 : decode cX0_rearrange 103 = .ok (.iload_n 3, 1) := by decide +kernel
theorem dX0_rearrange_104 : decode cX0_rearrange 104 = .ok (.aload_n 0, 1) := by decide +kernel
theorem dX0_rearrange_105 : decode cX0_rearrange 105 = .ok (.getfield 39, 3) := by decide +kernel
theorem dX0_rearrange_108 : decode cX0_rearrange 108 = .ok (.iload_n 3, 1) := by decide +kernel
theorem dX0_rearrange_109 : decode cX0_rearrange 109 = .ok (.iaload, 1) := by decide +kernel
theorem dX0_rearrange_110 : decode cX0_rearrange 110 = .ok (.aload_n 0, 1) := by decide +kernel
theorem dX0_rearrange_111 : decode cX0_rearrange 111 = .ok (.getfield 42, 3) := by decide +kernel
theorem dX0_rearrange_114 : decode cX0_rearrange 114 = .ok (.iload_n 3, 1) := by decide +kernel
theorem dX0_rearrange_115 : decode cX0_rearrange 115 = .ok (.iaload, 1) := by decide +kernel
theorem dX0_rearrange_116 : decode cX0_rearrange 116 = .ok (.invokevirtual 74, 3) := by decide +kernel
theorem dX0_rearrange_119 : decode cX0_rearrange 119 = .ok (.iinc 3 1, 3) := by decide +kernel
theorem dX0_rearrange_122 : decode cX0_rearrange 122 = .ok (.goto (-45), 3) := by decide +kernel
theorem dX0_rearrange_125 : decode cX0_rearrange 125 = .ok (.aload_n 0, 1) := by decide +kernel
theorem dX0_rearrange_126 : decode cX0_rearrange 126 = .ok (.getfield 21, 3) := by decide +kernel
theorem dX0_rearrange_129 : decode cX0_rearrange 129 = .ok (.iload_n 1, 1) := by decide +kernel
theorem dX0_rearrange_130 : decode cX0_rearrange 130 = .ok (.aload_n 2, 1) := by decide +kernel
theorem dX0_rearrange_131 : decode cX0_rearrange 131 = .ok (.getfield 89, 3) := by decide +kernel
theorem dX0_rearrange_134 : decode cX0_rearrange 134 = .ok (.iastore, 1) := by decide +kernel
theorem dX0_rearrange_135 : decode cX0_rearrange 135 = .ok (.return_, 1) := by decide +kernel
set_option maxRecDepth 20000 in
theorem ggX0_copyFrom_X8_copyRow : GoodIn wsX0_copyFrom wsX8_copyRow := goodIn_r _ [14, 15, 16, 17, 18, 19, 20, 21, 22] (by decide +kernel) (by decide +kernel)
set_option maxRecDepth 20000 in
theorem gX0_copyFrom_X8_copyRow_n102 : GoodIn wsX0_copyFrom (wsX8_copyRow) := ggX0_copyFrom_X8_copyRow
theorem dX0_copyFrom_0 : decode cX0_copyFrom 0 = .ok (.aload_n 0, 1) := by decide +kernel
theorem dX0_copyFrom_1 : decode cX0_copyFrom 1 = .ok (.aload_n 1, 1) := by decide +kernel
theorem dX0_copyFrom_2 : decode cX0_copyFrom 2 = .ok (.getfield 45, 3) := by decide +kernel
theorem dX0_copyFrom_5 : decode cX0_copyFrom 5 = .ok (.putfield 45, 3) := by decide +kernel
theorem dX0_copyFrom_8 : decode cX0_copyFrom 8 = .ok (.aload_n 0, 1) := by decide +kernel
theorem dX0_copyFrom_9 : decode cX0_copyFrom 9 = .ok (.aload_n 1, 1) := by decide +kernel
theorem dX0_copyFrom_10 : decode cX0_copyFrom 10 = .ok (.getfield 53, 3) := by decide +kernel
theorem dX0_copyFrom_13 : decode cX0_copyFrom 13 = .ok (.putfield 53, 3) := by decide +kernel
theorem dX0_copyFrom_16 : decode cX0_copyFrom 16 = .ok (.aload_n 1, 1) := by decide +kernel
theorem dX0_copyFrom_17 : decode cX0_copyFrom 17 = .ok (.getfield 9, 3) := by decide +kernel
theorem dX0_copyFrom_20 : decode cX0_copyFrom 20 = .ok (.aload_n 0, 1) := by decide +kernel
theorem dX0_copyFrom_21 : decode cX0_copyFrom 21 = .ok (.getfield 9, 3) := by decide +kernel
theorem dX0_copyFrom_24 : decode cX0_copyFrom 24 = .ok (.invokestatic 102, 3) := by decide +kernel
theorem dX0_copyFrom_27 : decode cX0_copyFrom 27 = .ok (.aload_n 1, 1) := by decide +kernel
theorem dX0_copyFrom_28 : decode cX0_copyFrom 28 = .ok (.getfield 15, 3) := by decide +kernel
theorem dX0_copyFrom_31 : decode cX0_copyFrom 31 = .ok (.aload_n 0, 1) := by decide +kernel
theorem dX0_copyFrom_32 : decode cX0_copyFrom 32 = .ok (.getfield 15, 3) := by decide +kernel
theorem dX0_copyFrom_35 : decode cX0_copyFrom 35 = .ok (.invokestatic 102, 3) := by decide +kernel
theorem dX0_copyFrom_38 : decode cX0_copyFrom 38 = .ok (.aload_n 1, 1) := by decide +kernel
theorem dX0_copyFrom_39 : decode cX0_copyFrom 39 = .ok (.getfield 18, 3) := by decide +kernel
theorem dX0_copyFrom_42 : decode cX0_copyFrom 42 = .ok (.aload_n 0, 1) := by decide +kernel
theorem dX0_copyFrom_43 : decode cX0_copyFrom 43 = .ok (.getfield 18, 3) := by decide +kernel
theorem dX0_copyFrom_46 : decode cX0_copyFrom 46 = .ok (.invokestatic 102, 3) := by decide +kernel
theorem dX0_copyFrom_49 : decode cX0_copyFrom 49 = .ok (.aload_n 1, 1) := by decide +kernel
theorem dX0_copyFrom_50 : decode cX0_copyFrom 50 = .ok (.getfield 21, 3) := by decide +kernel
theorem dX0_copyFrom_53 : decode cX0_copyFrom 53 = .ok (.aload_n 0, 1) := by decide +kernel
theorem dX0_copyFrom_54 : decode cX0_copyFrom 54 = .ok (.getfield 21, 3) := by decide +kernel
theorem dX0_copyFrom_57 : decode cX0_copyFrom 57 = .ok (.invokestatic 102, 3) := by decide +kernel
theorem dX0_copyFrom_60 : decode cX0_copyFrom 60 = .ok (.aload_n 1, 1) := by decide +kernel
theorem dX0_copyFrom_61 : decode cX0_copyFrom 61 = .ok (.getfield 24, 3) := by decide +kernel
theorem dX0_copyFrom_64 : decode cX0_copyFrom 64 = .ok (.aload_n 0, 1) := by decide +kernel
theorem dX0_copyFrom_65 : decode cX0_copyFrom 65 = .ok (.getfield 24, 3) := by decide +kernel
theorem dX0_copyFrom_68 : decode cX0_copyFrom 68 = .ok (.invokestatic 102, 3) := by decide +kernel
theorem dX0_copyFrom_71 : decode cX0_copyFrom 71 = .ok (.aload_n 1, 1) := by decide +kernel
theorem dX0_copyFrom_72 : decode cX0_copyFrom 72 = .ok (.getfield 27, 3) := by decide +kernel
theorem dX0_copyFrom_75 : decode cX0_copyFrom 75 = .ok (.aload_n 0, 1) := by decide +kernel
theorem dX0_copyFrom_76 : decode cX0_copyFrom 76 = .ok (.getfield 27, 3) := by decide +kernel
theorem dX0_copyFrom_79 : decode cX0_copyFrom 79 = .ok (.invokestatic 102, 3) := by decide +kernel
theorem dX0_copyFrom_82 : decode cX0_copyFrom 82 = .ok (.aload_n 1, 1) := by decide +kernel
theorem dX0_copyFrom_83 : decode cX0_copyFrom 83 = .ok (.getfield 30, 3) := by decide +kernel
theorem dX0_copyFrom_86 : decode cX0_copyFrom 86 = .ok (.aload_n 0, 1) := by decide +kernel
theorem dX0_copyFrom_87 : decode cX0_copyFrom 87 = .ok (.getfield 30, 3) := by decide +kernel
theorem dX0_copyFrom_90 : decode cX0_copyFrom 90 = .ok (.invokestatic 102, 3) := by decide +kernel
theorem dX0_copyFrom_93 : decode cX0_copyFrom 93 = .ok (.aload_n 1, 1) := by decide +kernel
theorem dX0_copyFrom_94 : decode cX0_copyFrom 94 = .ok (.getfield 33, 3) := by decide +kernel
theorem dX0_copyFrom_97 : decode cX0_copyFrom 97 = .ok (.aload_n 0, 1) := by decide +kernel
theorem dX0_copyFrom_98 : decode cX0_copyFrom 98 = .ok (.getfield 33, 3) := by decide +kernel
theorem dX0_copyFrom_101 : decode cX0_copyFrom 101 = .ok (.invokestatic 102, 3) := by decide +kernel
theorem dX0_copyFrom_104 : decode cX0_copyFrom 104 = .ok (.aload_n 1, 1) := by decide +kernel
theorem dX0_copyFrom_105 : decode cX0_copyFrom 105 = .ok (.getfield 36, 3) := by decide +kernel
theorem dX0_copyFrom_108 : decode cX0_copyFrom 108 = .ok (.aload_n 0, 1) := by decide +kernel
theorem dX0_copyFrom_109 : decode cX0_copyFrom 109 = .ok (.getfield 36, 3) := by decide +kernel
theorem dX0_copyFrom_112 : decode cX0_copyFrom 112 = .ok (.invokestatic 102, 3) := by decide +kernel
theorem dX0_copyFrom_115 : decode cX0_copyFrom 115 = .ok (.return_, 1) := by decide +kernel
theorem dX1_init_0 : decode cX1_init 0 = .ok (.aload_n 0, 1) := by decide +kernel
theorem dX1_init_1 : decode cX1_init 1 = .ok (.invokespecial 3, 3) := by decide +kernel
theorem dX1_init_4 : decode cX1_init 4 = .ok (.aload_n 0, 1) := by decide +kernel
theorem dX1_init_5 : decode cX1_init 5 = .ok (.iconst 5, 1) := by decide +kernel
theorem dX1_init_6 : decode cX1_init 6 = .ok (.newarray .int, 2) := by decide +kernel
theorem dX1_init_8 : decode cX1_init 8 = .ok (.putfield 9, 3) := by decide +kernel
theorem dX1_init_11 : decode cX1_init 11 = .ok (.aload_n 0, 1) := by decide +kernel
theorem dX1_init_12 : decode cX1_init 12 = .ok (.iconst 5, 1) := by decide +kernel
theorem dX1_init_13 : decode cX1_init 13 = .ok (.newarray .int, 2) := by decide +kernel
theorem dX1_init_15 : decode cX1_init 15 = .ok (.putfield 15, 3) := by decide +kernel
theorem dX1_init_18 : decode cX1_init 18 = .ok (.aload_n 0, 1) := by decide +kernel
theorem dX1_init_19 : decode cX1_init 19 = .ok (.iconst 5, 1) := by decide +kernel
theorem dX1_init_20 : decode cX1_init 20 = .ok (.newarray .int, 2) := by decide +kernel
theorem dX1_init_22 : decode cX1_init 22 = .ok (.putfield 18, 3) := by decide +kernel
theorem dX1_init_25 : decode cX1_init 25 = .ok (.return_, 1) := by decide +kernel
set_option maxRecDepth 20000 in
theorem ggX1_start_X5_keySetOf : GoodIn wsX1_start wsX5_keySetOf := goodIn_r _ [13, 14, 15, 16, 17, 12, 18, 19, 20, 21, 22, 33, 34, 35, 36, 37, 38] (by decide +kernel) (by decide +kernel)
set_option maxRecDepth 20000 in
theorem gX1_start_X5_keySetOf : GoodIn wsX1_start (wsV RX1 46 RX5 yX5_keySetOf wsX5_keySetOf) := goodIn_app (goodIn_of _ (by decide +kernel)) ggX1_start_X5_keySetOf
theorem dX1_start_0 : decode cX1_start 0 = .ok (.aload_n 0, 1) := by decide +kernel
theorem dX1_start_1 : decode cX1_start 1 = .ok (.iconst 1, 1) := by decide +kernel
theorem dX1_start_2 : decode cX1_start 2 = .ok (.putfield 21, 3) := by decide +kernel
theorem dX1_start_5 : decode cX1_start 5 = .ok (.aload_n 0, 1) := by decide +kernel
theorem dX1_start_6 : decode cX1_start 6 = .ok (.iload_n 2, 1) := by decide +kernel
theorem dX1_start_7 : decode cX1_start 7 = .ok (.putfield 25, 3) := by decide +kernel
theorem dX1_start_10 : decode cX1_start 10 = .ok (.aload_n 0, 1) := by decide +kernel
theorem dX1_start_11 : decode cX1_start 11 = .ok (.iload_n 3, 1) := by decide +kernel
theorem dX1_start_12 : decode cX1_start 12 = .ok (.putfield 29, 3) := by decide +kernel
theorem dX1_start_15 : decode cX1_start 15 = .ok (.aload_n 0, 1) := by decide +kernel
theorem dX1_start_16 : decode cX1_start 16 = .ok (.aload_n 1, 1) := by decide +kernel
theorem dX1_start_17 : decode cX1_start 17 = .ok (.getfield 32, 3) := by decide +kernel
theorem dX1_start_20 : decode cX1_start 20 = .ok (.iload_n 2, 1) := by decide +kernel
theorem dX1_start_21 : decode cX1_start 21 = .ok (.iaload, 1) := by decide +kernel
theorem dX1_start_22 : decode cX1_start 22 = .ok (.putfield 37, 3) := by decide +kernel
theorem dX1_start_25 : decode cX1_start 25 = .ok (.aload_n 0, 1) := by decide +kernel
theorem dX1_start_26 : decode cX1_start 26 = .ok (.iconst 0, 1) := by decide +kernel
theorem dX1_start_27 : decode cX1_start 27 = .ok (.putfield 40, 3) := by decide +kernel
theorem dX1_start_30 : decode cX1_start 30 = .ok (.aload_n 0, 1) := by decide +kernel
theorem dX1_start_31 : decode cX1_start 31 = .ok (.iconst 0, 1) := by decide +kernel
theorem dX1_start_32 : decode cX1_start 32 = .ok (.putfield 43, 3) := by decide +kernel
theorem dX1_start_35 : decode cX1_start 35 = .ok (.aload_n 0, 1) := by decide +kernel
theorem dX1_start_36 : decode cX1_start 36 = .ok (.aload_n 1, 1) := by decide +kernel
theorem dX1_start_37 : decode cX1_start 37 = .ok (.iload_n 2, 1) := by decide +kernel
theorem dX1_start_38 : decode cX1_start 38 = .ok (.invokevirtual 46, 3) := by decide +kernel
theorem dX1_start_41 : decode cX1_start 41 = .ok (.putfield 50, 3) := by decide +kernel
theorem dX1_start_44 : decode cX1_start 44 = .ok (.return_, 1) := by decide +kernel
theorem dX1_close_0 : decode cX1_close 0 = .ok (.aload_n 0, 1) := by decide +kernel
theorem dX1_close_1 : decode cX1_close 1 = .ok (.iconst 0, 1) := by decide +kernel
theorem dX1_close_2 : decode cX1_close 2 = .ok (.putfield 21, 3) := by decide +kernel
theorem dX1_close_5 : decode cX1_close 5 = .ok (.return_, 1) := by decide +kernel
set_option maxRecDepth 20000 in
theorem ggX1_keep_X8_bit : GoodIn wsX1_keep wsX8_bit := goodIn_r _ [6] (by decide +kernel) (by decide +kernel)
set_option maxRecDepth 20000 in
theorem gX1_keep_X8_bit_n53 : GoodIn wsX1_keep (wsX8_bit) := ggX1_keep_X8_bit
set_option maxRecDepth 20000 in
theorem ggX1_keep_X5_keyOf : GoodIn wsX1_keep wsX5_keyOf := goodIn_r _ [11, 12, 36, 37, 38, 39, 40, 41] (by decide +kernel) (by decide +kernel)
set_option maxRecDepth 20000 in
theorem gX1_keep_X5_keyOf : GoodIn wsX1_keep (wsV RX1 56 RX5 yX5_keyOf wsX5_keyOf) := goodIn_app (goodIn_of _ (by decide +kernel)) ggX1_keep_X5_keyOf
set_option maxRecDepth 20000 in
theorem ggX1_keep_X5_defaultOf : GoodIn wsX1_keep wsX5_defaultOf := goodIn_r _ [16, 17, 36, 37, 38, 39, 40, 41] (by decide +kernel) (by decide +kernel)
set_option maxRecDepth 20000 in
theorem gX1_keep_X5_defaultOf : GoodIn wsX1_keep (wsV RX1 60 RX5 yX5_defaultOf wsX5_defaultOf) := goodIn_app (goodIn_of _ (by decide +kernel)) ggX1_keep_X5_defaultOf
set_option maxRecDepth 20000 in
theorem ggX1_keep_X1_append : GoodIn wsX1_keep wsX1_append := goodIn_r _ [22, 23, 3, 24, 25, 26, 27, 28, 29, 30, 31, 32, 33, 34, 35] (by decide +kernel) (by decide +kernel)
set_option maxRecDepth 20000 in
theorem gX1_keep_X1_append : GoodIn wsX1_keep (wsV RX1 63 RX1 yX1_append wsX1_append) := goodIn_app (goodIn_of _ (by decide +kernel)) ggX1_keep_X1_append
theorem dX1_keep_0 : decode cX1_keep 0 = .ok (.aload_n 0, 1) := by decide +kernel
theorem dX1_keep_1 : decode cX1_keep 1 = .ok (.dup, 1) := by decide +kernel
theorem dX1_keep_2 : decode cX1_keep 2 = .ok (.getfield 40, 3) := by decide +kernel
theorem dX1_keep_5 : decode cX1_keep 5 = .ok (.iload_n 2, 1) := by decide +kernel
theorem dX1_keep_6 : decode cX1_keep 6 = .ok (.invokestatic 53, 3) := by decide +kernel
theorem dX1_keep_9 : decode cX1_keep 9 = .ok (.ior, 1) := by decide +kernel
theorem dX1_keep_10 : decode cX1_keep 10 = .ok (.putfield 40, 3) := by decide +kernel
theorem dX1_keep_13 : decode cX1_keep 13 = .ok (.aload_n 0, 1) := by decide +kernel
theorem dX1_keep_14 : decode cX1_keep 14 = .ok (.iload_n 2, 1) := by decide +kernel
theorem dX1_keep_15 : decode cX1_keep 15 = .ok (.aload_n 1, 1) := by decide +kernel
theorem dX1_keep_16 : decode cX1_keep 16 = .ok (.aload_n 0, 1) := by decide +kernel
theorem dX1_keep_17 : decode cX1_keep 17 = .ok (.getfield 25, 3) := by decide +kernel
theorem dX1_keep_20 : decode cX1_keep 20 = .ok (.iload_n 2, 1) := by decide +kernel
theorem dX1_keep_21 : decode cX1_keep 21 = .ok (.invokevirtual 56, 3) := by decide +kernel
theorem dX1_keep_24 : decode cX1_keep 24 = .ok (.aload_n 1, 1) := by decide +kernel
theorem dX1_keep_25 : decode cX1_keep 25 = .ok (.aload_n 0, 1) := by decide +kernel
theorem dX1_keep_26 : decode cX1_keep 26 = .ok (.getfield 25, 3) := by decide +kernel
theorem dX1_keep_29 : decode cX1_keep 29 = .ok (.iload_n 2, 1) := by decide +kernel
theorem dX1_keep_30 : decode cX1_keep 30 = .ok (.invokevirtual 60, 3) := by decide +kernel
theorem dX1_keep_33 : decode cX1_keep 33 = .ok (.invokevirtual 63, 3) := by decide +kernel
theorem dX1_keep_36 : decode cX1_keep 36 = .ok (.aload_n 0, 1) := by decide +kernel
theorem dX1_keep_37 : decode cX1_keep 37 = .ok (.getfield 43, 3) := by decide +kernel
theorem dX1_keep_40 : decode cX1_keep 40 = .ok (.ireturn, 1) := by decide +kernel
set_option maxRecDepth 20000 in
theorem ggX1_insert_X1_freeKey : GoodIn wsX1_insert wsX1_freeKey := goodIn_r _ [6, 1, 7, 8, 9, 20, 21, 22, 23, 24, 25, 26, 27, 28, 29] (by decide +kernel) (by decide +kernel)
set_option maxRecDepth 20000 in
theorem gX1_insert_X1_freeKey : GoodIn wsX1_insert (wsV RX1 67 RX1 yX1_freeKey wsX1_freeKey) := goodIn_app (goodIn_of _ (by decide +kernel)) ggX1_insert_X1_freeKey
set_option maxRecDepth 20000 in
theorem ggX1_insert_X8_bit : GoodIn wsX1_insert wsX8_bit := goodIn_r _ [11] (by decide +kernel) (by decide +kernel)
set_option maxRecDepth 20000 in
theorem gX1_insert_X8_bit_n53 : GoodIn wsX1_insert (wsX8_bit) := ggX1_insert_X8_bit
set_option maxRecDepth 20000 in
theorem ggX1_insert_X1_append : GoodIn wsX1_insert wsX1_append := goodIn_r _ [15, 16, 17, 18, 19, 20, 21, 22, 23, 24, 25, 26, 27, 28, 29] (by decide +kernel) (by decide +kernel)
set_option maxRecDepth 20000 in
theorem gX1_insert_X1_append : GoodIn wsX1_insert (wsV RX1 63 RX1 yX1_append wsX1_append) := goodIn_app (goodIn_of _ (by decide +kernel)) ggX1_insert_X1_append
theorem dX1_insert_0 : decode cX1_insert 0 = .ok (.aload_n 0, 1) := by decide +kernel
theorem dX1_insert_1 : decode cX1_insert 1 = .ok (.invokevirtual 67, 3) := by decide +kernel
theorem dX1_insert_4 : decode cX1_insert 4 = .ok (.istore_n 2, 1) := by decide +kernel
theorem dX1_insert_5 : decode cX1_insert 5 = .ok (.aload_n 0, 1) := by decide +kernel
theorem dX1_insert_6 : decode cX1_insert 6 = .ok (.dup, 1) := by decide +kernel
theorem dX1_insert_7 : decode cX1_insert 7 = .ok (.getfield 50, 3) := by decide +kernel
theorem dX1_insert_10 : decode cX1_insert 10 = .ok (.iload_n 2, 1) := by decide +kernel
theorem dX1_insert_11 : decode cX1_insert 11 = .ok (.invokestatic 53, 3) := by decide +kernel
theorem dX1_insert_14 : decode cX1_insert 14 = .ok (.ior, 1) := by decide +kernel
theorem dX1_insert_15 : decode cX1_insert 15 = .ok (.putfield 50, 3) := by decide +kernel
theorem dX1_insert_18 : decode cX1_insert 18 = .ok (.aload_n 0, 1) := by decide +kernel
theorem dX1_insert_19 : decode cX1_insert 19 = .ok (.iconst (-1), 1) := by decide +kernel
theorem dX1_insert_20 : decode cX1_insert 20 = .ok (.iload_n 2, 1) := by decide +kernel
theorem dX1_insert_21 : decode cX1_insert 21 = .ok (.iload_n 1, 1) := by decide +kernel
theorem dX1_insert_22 : decode cX1_insert 22 = .ok (.invokevirtual 63, 3) := by decide +kernel
theorem dX1_insert_25 : decode cX1_insert 25 = .ok (.iload_n 2, 1) := by decide +kernel
theorem dX1_insert_26 : decode cX1_insert 26 = .ok (.ireturn, 1) := by decide +kernel
theorem dX1_append_0 : decode cX1_append 0 = .ok (.aload_n 0, 1) := by decide +kernel
theorem dX1_append_1 : decode cX1_append 1 = .ok (.getfield 9, 3) := by decide +kernel
theorem dX1_append_4 : decode cX1_append 4 = .ok (.aload_n 0, 1) := by decide +kernel
theorem dX1_append_5 : decode cX1_append 5 = .ok (.getfield 43, 3) := by decide +kernel
theorem dX1_append_8 : decode cX1_append 8 = .ok (.iload_n 1, 1) := by decide +kernel
theorem dX1_append_9 : decode cX1_append 9 = .ok (.iastore, 1) := by decide +kernel
theorem dX1_append_10 : decode cX1_append 10 = .ok (.aload_n 0, 1) := by decide +kernel
theorem dX1_append_11 : decode cX1_append 11 = .ok (.getfield 15, 3) := by decide +kernel
theorem dX1_append_14 : decode cX1_append 14 = .ok (.aload_n 0, 1) := by decide +kernel
theorem dX1_append_15 : decode cX1_append 15 = .ok (.getfield 43, 3) := by decide +kernel
theorem dX1_append_18 : decode cX1_append 18 = .ok (.iload_n 2, 1) := by decide +kernel
theorem dX1_append_19 : decode cX1_append 19 = .ok (.iastore, 1) := by decide +kernel
theorem dX1_append_20 : decode cX1_append 20 = .ok (.aload_n 0, 1) := by decide +kernel
theorem dX1_append_21 : decode cX1_append 21 = .ok (.getfield 18, 3) := by decide +kernel
theorem dX1_append_24 : decode cX1_append 24 = .ok (.aload_n 0, 1) := by decide +kernel
theorem dX1_append_25 : decode cX1_append 25 = .ok (.getfield 43, 3) := by decide +kernel
theorem dX1_append_28 : decode cX1_append 28 = .ok (.iload_n 3, 1) := by decide +kernel
theorem dX1_append_29 : decode cX1_append 29 = .ok (.iastore, 1) := by decide +kernel
theorem dX1_append_30 : decode cX1_append 30 = .ok (.aload_n 0, 1) := by decide +kernel
theorem dX1_append_31 : decode cX1_append 31 = .ok (.dup, 1) := by decide +kernel
theorem dX1_append_32 : decode cX1_append 32 = .ok (.getfield 43, 3) := by decide +kernel
theorem dX1_append_35 : decode cX1_append 35 = .ok (.iconst 1, 1) := by decide +kernel
theorem dX1_append_36 : decode cX1_append 36 = .ok (.iadd, 1) := by decide +kernel
theorem dX1_append_37 : decode cX1_append 37 = .ok (.putfield 43, 3) := by decide +kernel
theorem dX1_append_40 : decode cX1_append 40 = .ok (.return_, 1) := by decide +kernel
set_option maxRecDepth 20000 in
theorem ggX1_freeKey_X8_contains : GoodIn wsX1_freeKey wsX8_contains := goodIn_r _ [4] (by decide +kernel) (by decide +kernel)
set_option maxRecDepth 20000 in
theorem gX1_freeKey_X8_contains_n71 : GoodIn wsX1_freeKey (wsX8_contains) := ggX1_freeKey_X8_contains
theorem dX1_freeKey_0 : decode cX1_freeKey 0 = .ok (.iconst 0, 1) := by decide +kernel
theorem dX1_freeKey_1 : decode cX1_freeKey 1 = .ok (.istore_n 1, 1) := by decide +kernel
theorem dX1_freeKey_2 : decode cX1_freeKey 2 = .ok (.iload_n 1, 1) := by decide +kernel
theorem dX1_freeKey_3 : decode cX1_freeKey 3 = .ok (.bipush 10, 2) := by decide +kernel
theorem dX1_freeKey_5 : decode cX1_freeKey 5 = .ok (.if_icmp .ge 20, 3) := by decide +kernel
theorem dX1_freeKey_8 : decode cX1_freeKey 8 = .ok (.aload_n 0, 1) := by decide +kernel
theorem dX1_freeKey_9 : decode cX1_freeKey 9 = .ok (.getfield 50, 3) := by decide +kernel
theorem dX1_freeKey_12 : decode cX1_freeKey 12 = .ok (.iload_n 1, 1) := by decide +kernel
theorem dX1_freeKey_13 : decode cX1_freeKey 13 = .ok (.invokestatic 71, 3) := by decide +kernel
theorem dX1_freeKey_16 : decode cX1_freeKey 16 = .ok (.ifCond .eq 9, 3) := by decide +kernel
theorem dX1_freeKey_19 : decode cX1_freeKey 19 = .ok (.iinc 1 1, 3) := by decide +kernel
theorem dX1_freeKey_22 : decode cX1_freeKey 22 = .ok (.goto (-20), 3) := by decide +kernel
theorem dX1_freeKey_25 : decode cX1_freeKey 25 = .ok (.iload_n 1, 1) := by decide +kernel
theorem dX1_freeKey_26 : decode cX1_freeKey 26 = .ok (.ireturn, 1) := by decide +kernel
theorem dX1_keepsWholeList_0 : decode cX1_keepsWholeList 0 = .ok (.iconst 0, 1) := by decide +kernel
theorem dX1_keepsWholeList_1 : decode cX1_keepsWholeList 1 = .ok (.istore_n 1, 1) := by decide +kernel
theorem dX1_keepsWholeList_2 : decode cX1_keepsWholeList 2 = .ok (.iload_n 1, 1) := by decide +kernel
theorem dX1_keepsWholeList_3 : decode cX1_keepsWholeList 3 = .ok (.aload_n 0, 1) := by decide +kernel
theorem dX1_keepsWholeList_4 : decode cX1_keepsWholeList 4 = .ok (.getfield 43, 3) := by decide +kernel
theorem dX1_keepsWholeList_7 : decode cX1_keepsWholeList 7 = .ok (.if_icmp .ge 21, 3) := by decide +kernel
theorem dX1_keepsWholeList_10 : decode cX1_keepsWholeList 10 = .ok (.aload_n 0, 1) := by decide +kernel
theorem dX1_keepsWholeList_11 : decode cX1_keepsWholeList 11 = .ok (.getfield 9, 3) := by decide +kernel
theorem dX1_keepsWholeList_14 : decode cX1_keepsWholeList 14 = .ok (.iload_n 1, 1) := by decide +kernel
theorem dX1_keepsWholeList_15 : decode cX1_keepsWholeList 15 = .ok (.iaload, 1) := by decide +kernel
theorem dX1_keepsWholeList_16 : decode cX1_keepsWholeList 16 = .ok (.iload_n 1, 1) := by decide +kernel
theorem dX1_keepsWholeList_17 : decode cX1_keepsWholeList 17 = .ok (.if_icmp .eq 5, 3) := by decide +kernel
theorem dX1_keepsWholeList_20 : decode cX1_keepsWholeList 20 = .ok (.iconst 0, 1) := by decide +kernel
theorem dX1_keepsWholeList_21 : decode cX1_keepsWholeList 21 = .ok (.ireturn, 1) := by decide +kernel
theorem dX1_keepsWholeList_22 : decode cX1_keepsWholeList 22 = .ok (.iinc 1 1, 3) := by decide +kernel
theorem dX1_keepsWholeList_25 : decode cX1_keepsWholeList 25 = .ok (.goto (-23), 3) := by decide +kernel
theorem dX1_keepsWholeList_28 : decode cX1_keepsWholeList 28 = .ok (.aload_n 0, 1) := by decide +kernel
theorem dX1_keepsWholeList_29 : decode cX1_keepsWholeList 29 = .ok (.getfield 43, 3) := by decide +kernel
theorem dX1_keepsWholeList_32 : decode cX1_keepsWholeList 32 = .ok (.aload_n 0, 1) := by decide +kernel
theorem dX1_keepsWholeList_33 : decode cX1_keepsWholeList 33 = .ok (.getfield 37, 3) := by decide +kernel
theorem dX1_keepsWholeList_36 : decode cX1_keepsWholeList 36 = .ok (.if_icmp .ne 7, 3) := by decide +kernel
theorem dX1_keepsWholeList_39 : decode cX1_keepsWholeList 39 = .ok (.iconst 1, 1) := by decide +kernel
theorem dX1_keepsWholeList_40 : decode cX1_keepsWholeList 40 = .ok (.goto 4, 3) := by decide +kernel
theorem dX1_keepsWholeList_43 : decode cX1_keepsWholeList 43 = .ok (.iconst 0, 1) := by decide +kernel
theorem dX1_keepsWholeList_44 : decode cX1_keepsWholeList 44 = .ok (.ireturn, 1) := by decide +kernel
theorem dX2_init_0 : decode cX2_init 0 = .ok (.aload_n 0, 1) := by decide +kernel
theorem dX2_init_1 : decode cX2_init 1 = .ok (.invokespecial 3, 3) := by decide +kernel
theorem dX2_init_4 : decode cX2_init 4 = .ok (.aload_n 0, 1) := by decide +kernel
theorem dX2_init_5 : decode cX2_init 5 = .ok (.bipush 8, 2) := by decide +kernel
theorem dX2_init_7 : decode cX2_init 7 = .ok (.newarray .int, 2) := by decide +kernel
theorem dX2_init_9 : decode cX2_init 9 = .ok (.putfield 9, 3) := by decide +kernel
theorem dX2_init_12 : decode cX2_init 12 = .ok (.aload_n 0, 1) := by decide +kernel
theorem dX2_init_13 : decode cX2_init 13 = .ok (.iconst 5, 1) := by decide +kernel
theorem dX2_init_14 : decode cX2_init 14 = .ok (.newarray .int, 2) := by decide +kernel
theorem dX2_init_16 : decode cX2_init 16 = .ok (.putfield 15, 3) := by decide +kernel
theorem dX2_init_19 : decode cX2_init 19 = .ok (.return_, 1) := by decide +kernel
set_option maxRecDepth 20000 in
theorem ggX2_evaluate_X0_temporaryKindOf : GoodIn wsX2_evaluate wsX0_temporaryKindOf := goodIn_r _ [10, 11, 34, 35, 36, 37, 38, 39, 40, 41, 42, 43, 44, 45, 46] (by decide +kernel) (by decide +kernel)
set_option maxRecDepth 20000 in
theorem gX2_evaluate_X0_temporaryKindOf : GoodIn wsX2_evaluate (wsV RX2 27 RX0 yX0_temporaryKindOf wsX0_temporaryKindOf) := goodIn_app (goodIn_of _ (by decide +kernel)) ggX2_evaluate_X0_temporaryKindOf
set_option maxRecDepth 20000 in
theorem ggX2_evaluate_X2_readOrTick : GoodIn wsX2_evaluate wsX2_readOrTick := goodIn_r _ [16, 1, 31, 32, 33] (by decide +kernel) (by decide +kernel)
set_option maxRecDepth 20000 in
theorem gX2_evaluate_X2_readOrTick : GoodIn wsX2_evaluate (wsV RX2 31 RX2 yX2_readOrTick wsX2_readOrTick) := goodIn_app (goodIn_of _ (by decide +kernel)) ggX2_evaluate_X2_readOrTick
set_option maxRecDepth 20000 in
theorem ggX2_evaluate_X0_kindOf : GoodIn wsX2_evaluate wsX0_kindOf := goodIn_r _ [20, 21, 34, 35, 36, 37, 38, 39, 40, 41, 42, 43, 44, 45, 46] (by decide +kernel) (by decide +kernel)
set_option maxRecDepth 20000 in
theorem gX2_evaluate_X0_kindOf : GoodIn wsX2_evaluate (wsV RX2 38 RX0 yX0_kindOf wsX0_kindOf) := goodIn_app (goodIn_of _ (by decide +kernel)) ggX2_evaluate_X0_kindOf
set_option maxRecDepth 20000 in
theorem ggX2_evaluate_X0_valueOf : GoodIn wsX2_evaluate wsX0_valueOf := goodIn_r _ [25, 26, 34, 35, 36, 37, 38, 39, 40, 41, 42, 43, 44, 45, 46] (by decide +kernel) (by decide +kernel)
set_option maxRecDepth 20000 in
theorem gX2_evaluate_X0_valueOf : GoodIn wsX2_evaluate (wsV RX2 41 RX0 yX0_valueOf wsX0_valueOf) := goodIn_app (goodIn_of _ (by decide +kernel)) ggX2_evaluate_X0_valueOf
set_option maxRecDepth 20000 in
theorem ggX2_evaluate_X2_valueOf : GoodIn wsX2_evaluate wsX2_valueOf := goodIn_r _ [30, 3, 12, 13, 14, 15, 16, 1, 31, 32, 33] (by decide +kernel) (by decide +kernel)
set_option maxRecDepth 20000 in
theorem gX2_evaluate_X2_valueOf : GoodIn wsX2_evaluate (wsV RX2 44 RX2 yX2_valueOf wsX2_valueOf) := goodIn_app (goodIn_of _ (by decide +kernel)) ggX2_evaluate_X2_valueOf
theorem dX2_evaluate_0 : decode cX2_evaluate 0 = .ok (.aload_n 0, 1) := by decide +kernel
theorem dX2_evaluate_1 : decode cX2_evaluate 1 = .ok (.iconst 0, 1) := by decide +kernel
theorem dX2_evaluate_2 : decode cX2_evaluate 2 = .ok (.putfield 18, 3) := by decide +kernel
theorem dX2_evaluate_5 : decode cX2_evaluate 5 = .ok (.iconst 0, 1) := by decide +kernel
theorem dX2_evaluate_6 : decode cX2_evaluate 6 = .ok (.istore_n 3, 1) := by decide +kernel
theorem dX2_evaluate_7 : decode cX2_evaluate 7 = .ok (.iload_n 3, 1) := by decide +kernel
theorem dX2_evaluate_8 : decode cX2_evaluate 8 = .ok (.aload_n 1, 1) := by decide +kernel
theorem dX2_evaluate_9 : decode cX2_evaluate 9 = .ok (.getfield 22, 3) := by decide +kernel
theorem dX2_evaluate_12 : decode cX2_evaluate 12 = .ok (.iload_n 2, 1) := by decide +kernel
theorem dX2_evaluate_13 : decode cX2_evaluate 13 = .ok (.iaload, 1) := by decide +kernel
theorem dX2_evaluate_14 : decode cX2_evaluate 14 = .ok (.if_icmp .ge 25, 3) := by decide +kernel
theorem dX2_evaluate_17 : decode cX2_evaluate 17 = .ok (.aload_n 0, 1) := by decide +kernel
theorem dX2_evaluate_18 : decode cX2_evaluate 18 = .ok (.getfield 9, 3) := by decide +kernel
theorem dX2_evaluate_21 : decode cX2_evaluate 21 = .ok (.iload_n 3, 1) := by decide +kernel
theorem dX2_evaluate_22 : decode cX2_evaluate 22 = .ok (.aload_n 0, 1) := by decide +kernel
theorem dX2_evaluate_23 : decode cX2_evaluate 23 = .ok (.aload_n 1, 1) := by decide +kernel
theorem dX2_evaluate_24 : decode cX2_evaluate 24 = .ok (.iload_n 2, 1) := by decide +kernel
theorem dX2_evaluate_25 : decode cX2_evaluate 25 = .ok (.iload_n 3, 1) := by decide +kernel
theorem dX2_evaluate_26 : decode cX2_evaluate 26 = .ok (.invokevirtual 27, 3) := by decide +kernel
theorem dX2_evaluate_29 : decode cX2_evaluate 29 = .ok (.invokevirtual 31, 3) := by decide +kernel
theorem dX2_evaluate_32 : decode cX2_evaluate 32 = .ok (.iastore, 1) := by decide +kernel
theorem dX2_evaluate_33 : decode cX2_evaluate 33 = .ok (.iinc 3 1, 3) := by decide +kernel
theorem dX2_evaluate_36 : decode cX2_evaluate 36 = .ok (.goto (-29), 3) := by decide +kernel
theorem dX2_evaluate_39 : decode cX2_evaluate 39 = .ok (.iconst 0, 1) := by decide +kernel
theorem dX2_evaluate_40 : decode cX2_evaluate 40 = .ok (.istore_n 3, 1) := by decide +kernel
theorem dX2_evaluate_41 : decode cX2_evaluate 41 = .ok (.iload_n 3, 1) := by decide +kernel
theorem dX2_evaluate_42 : decode cX2_evaluate 42 = .ok (.aload_n 1, 1) := by decide +kernel
theorem dX2_evaluate_43 : decode cX2_evaluate 43 = .ok (.getfield 35, 3) := by decide +kernel
theorem dX2_evaluate_46 : decode cX2_evaluate 46 = .ok (.iload_n 2, 1) := by decide +kernel
theorem dX2_evaluate_47 : decode cX2_evaluate 47 = .ok (.iaload, 1) := by decide +kernel
theorem dX2_evaluate_48 : decode cX2_evaluate 48 = .ok (.if_icmp .ge 31, 3) := by decide +kernel
theorem dX2_evaluate_51 : decode cX2_evaluate 51 = .ok (.aload_n 0, 1) := by decide +kernel
theorem dX2_evaluate_52 : decode cX2_evaluate 52 = .ok (.getfield 15, 3) := by decide +kernel
theorem dX2_evaluate_55 : decode cX2_evaluate 55 = .ok (.iload_n 3, 1) := by decide +kernel
theorem dX2_evaluate_56 : decode cX2_evaluate 56 = .ok (.aload_n 0, 1) := by decide +kernel
theorem dX2_evaluate_57 : decode cX2_evaluate 57 = .ok (.aload_n 1, 1) := by decide +kernel
theorem dX2_evaluate_58 : decode cX2_evaluate 58 = .ok (.iload_n 2, 1) := by decide +kernel
theorem dX2_evaluate_59 : decode cX2_evaluate 59 = .ok (.iload_n 3, 1) := by decide +kernel
theorem dX2_evaluate_60 : decode cX2_evaluate 60 = .ok (.invokevirtual 38, 3) := by decide +kernel
theorem dX2_evaluate_63 : decode cX2_evaluate 63 = .ok (.aload_n 1, 1) := by decide +kernel
theorem dX2_evaluate_64 : decode cX2_evaluate 64 = .ok (.iload_n 2, 1) := by decide +kernel
theorem dX2_evaluate_65 : decode cX2_evaluate 65 = .ok (.iload_n 3, 1) := by decide +kernel
theorem dX2_evaluate_66 : decode cX2_evaluate 66 = .ok (.invokevirtual 41, 3) := by decide +kernel
theorem dX2_evaluate_69 : decode cX2_evaluate 69 = .ok (.invokevirtual 44, 3) := by decide +kernel
theorem dX2_evaluate_72 : decode cX2_evaluate 72 = .ok (.iastore, 1) := by decide +kernel
theorem dX2_evaluate_73 : decode cX2_evaluate 73 = .ok (.iinc 3 1, 3) := by decide +kernel
theorem dX2_evaluate_76 : decode cX2_evaluate 76 = .ok (.goto (-35), 3) := by decide +kernel
theorem dX2_evaluate_79 : decode cX2_evaluate 79 = .ok (.return_, 1) := by decide +kernel
set_option maxRecDepth 20000 in
theorem ggX2_valueOf_X2_readOrTick : GoodIn wsX2_valueOf wsX2_readOrTick := goodIn_r _ [6, 7, 8, 9, 10] (by decide +kernel) (by decide +kernel)
set_option maxRecDepth 20000 in
theorem gX2_valueOf_X2_readOrTick : GoodIn wsX2_valueOf (wsV RX2 31 RX2 yX2_readOrTick wsX2_readOrTick) := goodIn_app (goodIn_of _ (by decide +kernel)) ggX2_valueOf_X2_readOrTick
theorem dX2_valueOf_0 : decode cX2_valueOf 0 = .ok (.iload_n 1, 1) := by decide +kernel
theorem dX2_valueOf_1 : decode cX2_valueOf 1 = .ok (.ifCond .ne 5, 3) := by decide +kernel
theorem dX2_valueOf_4 : decode cX2_valueOf 4 = .ok (.iload_n 2, 1) := by decide +kernel
theorem dX2_valueOf_5 : decode cX2_valueOf 5 = .ok (.ireturn, 1) := by decide +kernel
theorem dX2_valueOf_6 : decode cX2_valueOf 6 = .ok (.iload_n 1, 1) := by decide +kernel
theorem dX2_valueOf_7 : decode cX2_valueOf 7 = .ok (.iconst 3, 1) := by decide +kernel
theorem dX2_valueOf_8 : decode cX2_valueOf 8 = .ok (.if_icmp .ne 12, 3) := by decide +kernel
theorem dX2_valueOf_11 : decode cX2_valueOf 11 = .ok (.aload_n 0, 1) := by decide +kernel
theorem dX2_valueOf_12 : decode cX2_valueOf 12 = .ok (.getfield 9, 3) := by decide +kernel
theorem dX2_valueOf_15 : decode cX2_valueOf 15 = .ok (.iload_n 2, 1) := by decide +kernel
theorem dX2_valueOf_16 : decode cX2_valueOf 16 = .ok (.iaload, 1) := by decide +kernel
theorem dX2_valueOf_17 : decode cX2_valueOf 17 = .ok (.goto 8, 3) := by decide +kernel
theorem dX2_valueOf_20 : decode cX2_valueOf 20 = .ok (.aload_n 0, 1) := by decide +kernel
theorem dX2_valueOf_21 : decode cX2_valueOf 21 = .ok (.iload_n 1, 1) := by decide +kernel
theorem dX2_valueOf_22 : decode cX2_valueOf 22 = .ok (.invokevirtual 31, 3) := by decide +kernel
theorem dX2_valueOf_25 : decode cX2_valueOf 25 = .ok (.ireturn, 1) := by decide +kernel
theorem dX2_readOrTick_0 : decode cX2_readOrTick 0 = .ok (.aload_n 0, 1) := by decide +kernel
theorem dX2_readOrTick_1 : decode cX2_readOrTick 1 = .ok (.getfield 18, 3) := by decide +kernel
theorem dX2_readOrTick_4 : decode cX2_readOrTick 4 = .ok (.istore_n 2, 1) := by decide +kernel
theorem dX2_readOrTick_5 : decode cX2_readOrTick 5 = .ok (.iload_n 1, 1) := by decide +kernel
theorem dX2_readOrTick_6 : decode cX2_readOrTick 6 = .ok (.iconst 2, 1) := by decide +kernel
theorem dX2_readOrTick_7 : decode cX2_readOrTick 7 = .ok (.if_icmp .ne 13, 3) := by decide +kernel
theorem dX2_readOrTick_10 : decode cX2_readOrTick 10 = .ok (.aload_n 0, 1) := by decide +kernel
theorem dX2_readOrTick_11 : decode cX2_readOrTick 11 = .ok (.dup, 1) := by decide +kernel
theorem dX2_readOrTick_12 : decode cX2_readOrTick 12 = .ok (.getfield 18, 3) := by decide +kernel
theorem dX2_readOrTick_15 : decode cX2_readOrTick 15 = .ok (.iconst 1, 1) := by decide +kernel
theorem dX2_readOrTick_16 : decode cX2_readOrTick 16 = .ok (.iadd, 1) := by decide +kernel
theorem dX2_readOrTick_17 : decode cX2_readOrTick 17 = .ok (.putfield 18, 3) := by decide +kernel
theorem dX2_readOrTick_20 : decode cX2_readOrTick 20 = .ok (.iload_n 2, 1) := by decide +kernel
theorem dX2_readOrTick_21 : decode cX2_readOrTick 21 = .ok (.ireturn, 1) := by decide +kernel
set_option maxRecDepth 20000 in
theorem ggX2_resultOf_X5_keyOf : GoodIn wsX2_resultOf wsX5_keyOf := goodIn_r _ [7, 8, 27, 28, 29, 30, 31, 32] (by decide +kernel) (by decide +kernel)
set_option maxRecDepth 20000 in
theorem gX2_resultOf_X5_keyOf : GoodIn wsX2_resultOf (wsV RX2 53 RX5 yX5_keyOf wsX5_keyOf) := goodIn_app (goodIn_of _ (by decide +kernel)) ggX2_resultOf_X5_keyOf
set_option maxRecDepth 20000 in
theorem ggX2_resultOf_X5_defaultOf : GoodIn wsX2_resultOf wsX5_defaultOf := goodIn_r _ [12, 13, 27, 28, 29, 30, 31, 32] (by decide +kernel) (by decide +kernel)
set_option maxRecDepth 20000 in
theorem gX2_resultOf_X5_defaultOf : GoodIn wsX2_resultOf (wsV RX2 56 RX5 yX5_defaultOf wsX5_defaultOf) := goodIn_app (goodIn_of _ (by decide +kernel)) ggX2_resultOf_X5_defaultOf
set_option maxRecDepth 20000 in
theorem ggX2_resultOf_X2_received : GoodIn wsX2_resultOf wsX2_received := goodIn_r _ [18, 19, 20, 21, 22, 23, 24, 25, 26, 33, 34, 35, 36, 37, 38, 39, 40, 41, 42, 43, 44, 45, 46, 47, 48] (by decide +kernel) (by decide +kernel)
set_option maxRecDepth 20000 in
theorem gX2_resultOf_X2_received : GoodIn wsX2_resultOf (wsV RX2 59 RX2 yX2_received wsX2_received) := goodIn_app (goodIn_of _ (by decide +kernel)) ggX2_resultOf_X2_received
theorem dX2_resultOf_0 : decode cX2_resultOf 0 = .ok (.sipush 1000, 3) := by decide +kernel
theorem dX2_resultOf_3 : decode cX2_resultOf 3 = .ok (.aload_n 1, 1) := by decide +kernel
theorem dX2_resultOf_4 : decode cX2_resultOf 4 = .ok (.getfield 45, 3) := by decide +kernel
theorem dX2_resultOf_7 : decode cX2_resultOf 7 = .ok (.iload_n 2, 1) := by decide +kernel
theorem dX2_resultOf_8 : decode cX2_resultOf 8 = .ok (.iaload, 1) := by decide +kernel
theorem dX2_resultOf_9 : decode cX2_resultOf 9 = .ok (.imul, 1) := by decide +kernel
theorem dX2_resultOf_10 : decode cX2_resultOf 10 = .ok (.istore 5, 2) := by decide +kernel
theorem dX2_resultOf_12 : decode cX2_resultOf 12 = .ok (.iconst 0, 1) := by decide +kernel
theorem dX2_resultOf_13 : decode cX2_resultOf 13 = .ok (.istore 6, 2) := by decide +kernel
theorem dX2_resultOf_15 : decode cX2_resultOf 15 = .ok (.iload 6, 2) := by decide +kernel
theorem dX2_resultOf_17 : decode cX2_resultOf 17 = .ok (.aload_n 1, 1) := by decide +kernel
theorem dX2_resultOf_18 : decode cX2_resultOf 18 = .ok (.getfield 50, 3) := by decide +kernel
theorem dX2_resultOf_21 : decode cX2_resultOf 21 = .ok (.iload_n 2, 1) := by decide +kernel
theorem dX2_resultOf_22 : decode cX2_resultOf 22 = .ok (.iaload, 1) := by decide +kernel
theorem dX2_resultOf_23 : decode cX2_resultOf 23 = .ok (.if_icmp .ge 44, 3) := by decide +kernel
theorem dX2_resultOf_26 : decode cX2_resultOf 26 = .ok (.aload_n 1, 1) := by decide +kernel
theorem dX2_resultOf_27 : decode cX2_resultOf 27 = .ok (.iload_n 2, 1) := by decide +kernel
theorem dX2_resultOf_28 : decode cX2_resultOf 28 = .ok (.iload 6, 2) := by decide +kernel
theorem dX2_resultOf_30 : decode cX2_resultOf 30 = .ok (.invokevirtual 53, 3) := by decide +kernel
theorem dX2_resultOf_33 : decode cX2_resultOf 33 = .ok (.istore 7, 2) := by decide +kernel
theorem dX2_resultOf_35 : decode cX2_resultOf 35 = .ok (.iload 5, 2) := by decide +kernel
theorem dX2_resultOf_37 : decode cX2_resultOf 37 = .ok (.iload 7, 2) := by decide +kernel
theorem dX2_resultOf_39 : decode cX2_resultOf 39 = .ok (.iconst 1, 1) := by decide +kernel
theorem dX2_resultOf_40 : decode cX2_resultOf 40 = .ok (.iadd, 1) := by decide +kernel
theorem dX2_resultOf_41 : decode cX2_resultOf 41 = .ok (.aload_n 0, 1) := by decide +kernel
theorem dX2_resultOf_42 : decode cX2_resultOf 42 = .ok (.aload_n 3, 1) := by decide +kernel
theorem dX2_resultOf_43 : decode cX2_resultOf 43 = .ok (.iload 4, 2) := by decide +kernel
theorem dX2_resultOf_45 : decode cX2_resultOf 45 = .ok (.iload 7, 2) := by decide +kernel
theorem dX2_resultOf_47 : decode cX2_resultOf 47 = .ok (.aload_n 1, 1) := by decide +kernel
theorem dX2_resultOf_48 : decode cX2_resultOf 48 = .ok (.iload_n 2, 1) := by decide +kernel
theorem dX2_resultOf_49 : decode cX2_resultOf 49 = .ok (.iload 6, 2) := by decide +kernel
theorem dX2_resultOf_51 : decode cX2_resultOf 51 = .ok (.invokevirtual 56, 3) := by decide +kernel
theorem dX2_resultOf_54 : decode cX2_resultOf 54 = .ok (.invokevirtual 59, 3) := by decide +kernel
theorem dX2_resultOf_57 : decode cX2_resultOf 57 = .ok (.imul, 1) := by decide +kernel
theorem dX2_resultOf_58 : decode cX2_resultOf 58 = .ok (.iadd, 1) := by decide +kernel
theorem dX2_resultOf_59 : decode cX2_resultOf 59 = .ok (.istore 5, 2) := by decide +kernel
theorem dX2_resultOf_61 : decode cX2_resultOf 61 = .ok (.iinc 6 1, 3) := by decide +kernel
theorem dX2_resultOf_64 : decode cX2_resultOf 64 = .ok (.goto (-49), 3) := by decide +kernel
theorem dX2_resultOf_67 : decode cX2_resultOf 67 = .ok (.iload 5, 2) := by decide +kernel
theorem dX2_resultOf_69 : decode cX2_resultOf 69 = .ok (.ireturn, 1) := by decide +kernel
set_option maxRecDepth 20000 in
theorem ggX2_received_X0_keyOf : GoodIn wsX2_received wsX0_keyOf := goodIn_r _ [7, 8, 9, 10, 11, 12, 13, 14, 15, 16, 17, 18, 19, 20, 21] (by decide +kernel) (by decide +kernel)
set_option maxRecDepth 20000 in
theorem gX2_received_X0_keyOf : GoodIn wsX2_received (wsV RX2 63 RX0 yX0_keyOf wsX0_keyOf) := goodIn_app (goodIn_of _ (by decide +kernel)) ggX2_received_X0_keyOf
theorem dX2_received_0 : decode cX2_received 0 = .ok (.iconst 0, 1) := by decide +kernel
theorem dX2_received_1 : decode cX2_received 1 = .ok (.istore 5, 2) := by decide +kernel
theorem dX2_received_3 : decode cX2_received 3 = .ok (.iload 5, 2) := by decide +kernel
theorem dX2_received_5 : decode cX2_received 5 = .ok (.aload_n 1, 1) := by decide +kernel
theorem dX2_received_6 : decode cX2_received 6 = .ok (.getfield 35, 3) := by decide +kernel
theorem dX2_received_9 : decode cX2_received 9 = .ok (.iload_n 2, 1) := by decide +kernel
theorem dX2_received_10 : decode cX2_received 10 = .ok (.iaload, 1) := by decide +kernel
theorem dX2_received_11 : decode cX2_received 11 = .ok (.if_icmp .ge 28, 3) := by decide +kernel
theorem dX2_received_14 : decode cX2_received 14 = .ok (.aload_n 1, 1) := by decide +kernel
theorem dX2_received_15 : decode cX2_received 15 = .ok (.iload_n 2, 1) := by decide +kernel
theorem dX2_received_16 : decode cX2_received 16 = .ok (.iload 5, 2) := by decide +kernel
theorem dX2_received_18 : decode cX2_received 18 = .ok (.invokevirtual 63, 3) := by decide +kernel
theorem dX2_received_21 : decode cX2_received 21 = .ok (.iload_n 3, 1) := by decide +kernel
theorem dX2_received_22 : decode cX2_received 22 = .ok (.if_icmp .ne 11, 3) := by decide +kernel
theorem dX2_received_25 : decode cX2_received 25 = .ok (.aload_n 0, 1) := by decide +kernel
theorem dX2_received_26 : decode cX2_received 26 = .ok (.getfield 15, 3) := by decide +kernel
theorem dX2_received_29 : decode cX2_received 29 = .ok (.iload 5, 2) := by decide +kernel
theorem dX2_received_31 : decode cX2_received 31 = .ok (.iaload, 1) := by decide +kernel
theorem dX2_received_32 : decode cX2_received 32 = .ok (.ireturn, 1) := by decide +kernel
theorem dX2_received_33 : decode cX2_received 33 = .ok (.iinc 5 1, 3) := by decide +kernel
theorem dX2_received_36 : decode cX2_received 36 = .ok (.goto (-33), 3) := by decide +kernel
theorem dX2_received_39 : decode cX2_received 39 = .ok (.iload 4, 2) := by decide +kernel
theorem dX2_received_41 : decode cX2_received 41 = .ok (.ireturn, 1) := by decide +kernel
set_option maxRecDepth 20000 in
theorem ggX3_init_X6_init : GoodIn wsX3_init wsX6_init := goodIn_r _ [9, 10, 2, 3, 11, 12, 13, 14, 15, 16, 17, 18, 19, 20, 21, 22, 23, 24, 25, 26, 27, 28, 29, 30, 31, 32, 33, 34, 35, 36, 37, 38, 39, 40, 41, 42, 43, 44, 45, 46, 47, 48, 49, 56, 57, 58, 53, 54, 55, 59, 60, 61, 62, 63, 64, 65, 66, 67, 68, 69, 70, 71, 72, 73, 74, 75, 76, 77] (by decide +kernel) (by decide +kernel)
set_option maxRecDepth 20000 in
theorem gX3_init_X6_init_n17 : GoodIn wsX3_init (wsX6_init) := ggX3_init_X6_init
theorem dX3_init_0 : decode cX3_init 0 = .ok (.aload_n 0, 1) := by decide +kernel
theorem dX3_init_1 : decode cX3_init 1 = .ok (.invokespecial 3, 3) := by decide +kernel
theorem dX3_init_4 : decode cX3_init 4 = .ok (.aload_n 0, 1) := by decide +kernel
theorem dX3_init_5 : decode cX3_init 5 = .ok (.bipush 8, 2) := by decide +kernel
theorem dX3_init_7 : decode cX3_init 7 = .ok (.anewarray 9, 3) := by decide +kernel
theorem dX3_init_10 : decode cX3_init 10 = .ok (.putfield 11, 3) := by decide +kernel
theorem dX3_init_13 : decode cX3_init 13 = .ok (.iconst 0, 1) := by decide +kernel
theorem dX3_init_14 : decode cX3_init 14 = .ok (.istore_n 1, 1) := by decide +kernel
theorem dX3_init_15 : decode cX3_init 15 = .ok (.iload_n 1, 1) := by decide +kernel
theorem dX3_init_16 : decode cX3_init 16 = .ok (.bipush 8, 2) := by decide +kernel
theorem dX3_init_18 : decode cX3_init 18 = .ok (.if_icmp .ge 22, 3) := by decide +kernel
theorem dX3_init_21 : decode cX3_init 21 = .ok (.aload_n 0, 1) := by decide +kernel
theorem dX3_init_22 : decode cX3_init 22 = .ok (.getfield 11, 3) := by decide +kernel
theorem dX3_init_25 : decode cX3_init 25 = .ok (.iload_n 1, 1) := by decide +kernel
theorem dX3_init_26 : decode cX3_init 26 = .ok (.new 9, 3) := by decide +kernel
theorem dX3_init_29 : decode cX3_init 29 = .ok (.dup, 1) := by decide +kernel
theorem dX3_init_30 : decode cX3_init 30 = .ok (.invokespecial 17, 3) := by decide +kernel
theorem dX3_init_33 : decode cX3_init 33 = .ok (.aastore, 1) := by decide +kernel
theorem dX3_init_34 : decode cX3_init 34 = .ok (.iinc 1 1, 3) := by decide +kernel
theorem dX3_init_37 : decode cX3_init 37 = .ok (.goto (-22), 3) := by decide +kernel
theorem dX3_init_40 : decode cX3_init 40 = .ok (.return_, 1) := by decide +kernel
set_option maxRecDepth 20000 in
theorem ggX3_remember_X6_copyFrom : GoodIn wsX3_remember wsX6_copyFrom := goodIn_r _ [12, 13, 14, 15, 16, 17, 18, 19, 20, 21, 22, 23, 24, 25, 26, 27, 5, 6, 7, 28, 29, 30, 31, 32, 33, 34, 35, 36, 37, 38, 39, 40, 41, 42, 43, 44, 45, 46, 47, 48, 49, 50, 51, 52, 53, 54, 55, 56, 57, 58, 62, 63, 64, 65, 66, 67, 68, 69, 70, 71, 72, 73, 74, 75, 76, 77, 78, 79, 80, 81, 82, 83, 84, 85, 86] (by decide +kernel) (by decide +kernel)
set_option maxRecDepth 20000 in
theorem gX3_remember_X6_copyFrom : GoodIn wsX3_remember (wsV RX3 22 RX6 yX6_copyFrom wsX6_copyFrom) := goodIn_app (goodIn_of _ (by decide +kernel)) ggX3_remember_X6_copyFrom
theorem dX3_remember_0 : decode cX3_remember 0 = .ok (.aload_n 0, 1) := by decide +kernel
theorem dX3_remember_1 : decode cX3_remember 1 = .ok (.getfield 11, 3) := by decide +kernel
theorem dX3_remember_4 : decode cX3_remember 4 = .ok (.aload_n 0, 1) := by decide +kernel
theorem dX3_remember_5 : decode cX3_remember 5 = .ok (.getfield 18, 3) := by decide +kernel
theorem dX3_remember_8 : decode cX3_remember 8 = .ok (.aaload, 1) := by decide +kernel
theorem dX3_remember_9 : decode cX3_remember 9 = .ok (.aload_n 1, 1) := by decide +kernel
theorem dX3_remember_10 : decode cX3_remember 10 = .ok (.invokevirtual 22, 3) := by decide +kernel
theorem dX3_remember_13 : decode cX3_remember 13 = .ok (.aload_n 0, 1) := by decide +kernel
theorem dX3_remember_14 : decode cX3_remember 14 = .ok (.aload_n 0, 1) := by decide +kernel
theorem dX3_remember_15 : decode cX3_remember 15 = .ok (.getfield 18, 3) := by decide +kernel
theorem dX3_remember_18 : decode cX3_remember 18 = .ok (.iconst 1, 1) := by decide +kernel
theorem dX3_remember_19 : decode cX3_remember 19 = .ok (.iadd, 1) := by decide +kernel
theorem dX3_remember_20 : decode cX3_remember 20 = .ok (.bipush 8, 2) := by decide +kernel
theorem dX3_remember_22 : decode cX3_remember 22 = .ok (.irem, 1) := by decide +kernel
theorem dX3_remember_23 : decode cX3_remember 23 = .ok (.putfield 18, 3) := by decide +kernel
theorem dX3_remember_26 : decode cX3_remember 26 = .ok (.aload_n 0, 1) := by decide +kernel
theorem dX3_remember_27 : decode cX3_remember 27 = .ok (.aload_n 0, 1) := by decide +kernel
theorem dX3_remember_28 : decode cX3_remember 28 = .ok (.getfield 26, 3) := by decide +kernel
theorem dX3_remember_31 : decode cX3_remember 31 = .ok (.iconst 1, 1) := by decide +kernel
theorem dX3_remember_32 : decode cX3_remember 32 = .ok (.iadd, 1) := by decide +kernel
theorem dX3_remember_33 : decode cX3_remember 33 = .ok (.bipush 8, 2) := by decide +kernel
theorem dX3_remember_35 : decode cX3_remember 35 = .ok (.invokestatic 29, 3) := by decide +kernel
theorem dX3_remember_38 : decode cX3_remember 38 = .ok (.putfield 26, 3) := by decide +kernel
theorem dX3_remember_41 : decode cX3_remember 41 = .ok (.return_, 1) := by decide +kernel
set_option maxRecDepth 20000 in
theorem ggX3_goBack_X6_copyFrom : GoodIn wsX3_goBack wsX6_copyFrom := goodIn_r _ [8, 9, 10, 11, 12, 13, 14, 15, 16, 17, 18, 19, 20, 21, 22, 23, 24, 25, 26, 27, 28, 29, 30, 31, 32, 33, 34, 35, 36, 37, 38, 39, 40, 41, 42, 43, 44, 45, 46, 47, 48, 49, 50, 51, 52, 53, 54, 55, 56, 57, 61, 62, 63, 64, 65, 66, 67, 68, 69, 70, 71, 72, 73, 74, 75, 76, 77, 78, 79, 80, 81, 82, 83, 84, 85] (by decide +kernel) (by decide +kernel)
set_option maxRecDepth 20000 in
theorem gX3_goBack_X6_copyFrom : GoodIn wsX3_goBack (wsV RX3 22 RX6 yX6_copyFrom wsX6_copyFrom) := goodIn_app (goodIn_of _ (by decide +kernel)) ggX3_goBack_X6_copyFrom
theorem dX3_goBack_0 : decode cX3_goBack 0 = .ok (.aload_n 0, 1) := by decide +kernel
theorem dX3_goBack_1 : decode cX3_goBack 1 = .ok (.aload_n 0, 1) := by decide +kernel
theorem dX3_goBack_2 : decode cX3_goBack 2 = .ok (.getfield 18, 3) := by decide +kernel
theorem dX3_goBack_5 : decode cX3_goBack 5 = .ok (.bipush 8, 2) := by decide +kernel
theorem dX3_goBack_7 : decode cX3_goBack 7 = .ok (.iadd, 1) := by decide +kernel
theorem dX3_goBack_8 : decode cX3_goBack 8 = .ok (.iconst 1, 1) := by decide +kernel
theorem dX3_goBack_9 : decode cX3_goBack 9 = .ok (.isub, 1) := by decide +kernel
theorem dX3_goBack_10 : decode cX3_goBack 10 = .ok (.bipush 8, 2) := by decide +kernel
theorem dX3_goBack_12 : decode cX3_goBack 12 = .ok (.irem, 1) := by decide +kernel
theorem dX3_goBack_13 : decode cX3_goBack 13 = .ok (.putfield 18, 3) := by decide +kernel
theorem dX3_goBack_16 : decode cX3_goBack 16 = .ok (.aload_n 1, 1) := by decide +kernel
theorem dX3_goBack_17 : decode cX3_goBack 17 = .ok (.aload_n 0, 1) := by decide +kernel
theorem dX3_goBack_18 : decode cX3_goBack 18 = .ok (.getfield 11, 3) := by decide +kernel
theorem dX3_goBack_21 : decode cX3_goBack 21 = .ok (.aload_n 0, 1) := by decide +kernel
theorem dX3_goBack_22 : decode cX3_goBack 22 = .ok (.getfield 18, 3) := by decide +kernel
theorem dX3_goBack_25 : decode cX3_goBack 25 = .ok (.aaload, 1) := by decide +kernel
theorem dX3_goBack_26 : decode cX3_goBack 26 = .ok (.invokevirtual 22, 3) := by decide +kernel
theorem dX3_goBack_29 : decode cX3_goBack 29 = .ok (.aload_n 0, 1) := by decide +kernel
theorem dX3_goBack_30 : decode cX3_goBack 30 = .ok (.dup, 1) := by decide +kernel
theorem dX3_goBack_31 : decode cX3_goBack 31 = .ok (.getfield 26, 3) := by decide +kernel
theorem dX3_goBack_34 : decode cX3_goBack 34 = .ok (.iconst 1, 1) := by decide +kernel
theorem dX3_goBack_35 : decode cX3_goBack 35 = .ok (.isub, 1) := by decide +kernel
theorem dX3_goBack_36 : decode cX3_goBack 36 = .ok (.putfield 26, 3) := by decide +kernel
theorem dX3_goBack_39 : decode cX3_goBack 39 = .ok (.aload_n 0, 1) := by decide +kernel
theorem dX3_goBack_40 : decode cX3_goBack 40 = .ok (.getfield 26, 3) := by decide +kernel
theorem dX3_goBack_43 : decode cX3_goBack 43 = .ok (.ireturn, 1) := by decide +kernel
theorem dX4_init_0 : decode cX4_init 0 = .ok (.aload_n 0, 1) := by decide +kernel
theorem dX4_init_1 : decode cX4_init 1 = .ok (.invokespecial 3, 3) := by decide +kernel
theorem dX4_init_4 : decode cX4_init 4 = .ok (.aload_n 0, 1) := by decide +kernel
theorem dX4_init_5 : decode cX4_init 5 = .ok (.iconst 5, 1) := by decide +kernel
theorem dX4_init_6 : decode cX4_init 6 = .ok (.newarray .int, 2) := by decide +kernel
theorem dX4_init_8 : decode cX4_init 8 = .ok (.putfield 9, 3) := by decide +kernel
theorem dX4_init_11 : decode cX4_init 11 = .ok (.aload_n 0, 1) := by decide +kernel
theorem dX4_init_12 : decode cX4_init 12 = .ok (.iconst 5, 1) := by decide +kernel
theorem dX4_init_13 : decode cX4_init 13 = .ok (.newarray .int, 2) := by decide +kernel
theorem dX4_init_15 : decode cX4_init 15 = .ok (.putfield 15, 3) := by decide +kernel
theorem dX4_init_18 : decode cX4_init 18 = .ok (.return_, 1) := by decide +kernel
set_option maxRecDepth 20000 in
theorem ggX4_choose_X4_look : GoodIn wsX4_choose wsX4_look := goodIn_r _ [6, 7, 8, 9, 1, 10, 11, 12, 13, 14, 15, 16, 17, 18, 19, 50, 51, 52, 53, 54, 55, 56, 57, 58, 59, 60, 61, 62, 46, 47, 48, 49, 63, 64, 65, 66, 67, 68, 69, 70, 71, 72] (by decide +kernel) (by decide +kernel)
set_option maxRecDepth 20000 in
theorem gX4_choose_X4_look : GoodIn wsX4_choose (wsV RX4 18 RX4 yX4_look wsX4_look) := goodIn_app (goodIn_of _ (by decide +kernel)) ggX4_choose_X4_look
set_option maxRecDepth 20000 in
theorem ggX4_choose_X4_ofKind : GoodIn wsX4_choose wsX4_ofKind := goodIn_r _ [23, 8, 10, 24, 25, 26, 46, 47, 48, 49] (by decide +kernel) (by decide +kernel)
set_option maxRecDepth 20000 in
theorem gX4_choose_X4_ofKind : GoodIn wsX4_choose (wsV RX4 22 RX4 yX4_ofKind wsX4_ofKind) := goodIn_app (goodIn_of _ (by decide +kernel)) ggX4_choose_X4_ofKind
set_option maxRecDepth 20000 in
theorem ggX4_choose_X8_bit : GoodIn wsX4_choose wsX8_bit := goodIn_r _ [26] (by decide +kernel) (by decide +kernel)
set_option maxRecDepth 20000 in
theorem gX4_choose_X8_bit_n30 : GoodIn wsX4_choose (wsX8_bit) := ggX4_choose_X8_bit
set_option maxRecDepth 20000 in
theorem ggX4_choose_J6_bitCount_0f7a4 : GoodIn wsX4_choose wsJ6_bitCount_0f7a4 := goodIn_r _ [30, 31, 32, 33] (by decide +kernel) (by decide +kernel)
set_option maxRecDepth 20000 in
theorem gX4_choose_J6_bitCount_0f7a4 : GoodIn wsX4_choose (va_wsS RX4 33 yJ6_bitCount_0f7a4 wsJ6_bitCount_0f7a4) := goodIn_app (goodIn_of _ (by decide +kernel)) ggX4_choose_J6_bitCount_0f7a4
set_option maxRecDepth 20000 in
theorem ggX4_choose_X4_keepsOrder : GoodIn wsX4_choose wsX4_keepsOrder := goodIn_r _ [37, 1, 8, 10, 38, 25, 39, 40, 41, 42, 43, 44, 5, 45, 13, 46, 47, 48, 49] (by decide +kernel) (by decide +kernel)
set_option maxRecDepth 20000 in
theorem gX4_choose_X4_keepsOrder : GoodIn wsX4_choose (wsV RX4 38 RX4 yX4_keepsOrder wsX4_keepsOrder) := goodIn_app (goodIn_of _ (by decide +kernel)) ggX4_choose_X4_keepsOrder
theorem dX4_choose_0 : decode cX4_choose 0 = .ok (.aload_n 0, 1) := by decide +kernel
theorem dX4_choose_1 : decode cX4_choose 1 = .ok (.aload_n 1, 1) := by decide +kernel
theorem dX4_choose_2 : decode cX4_choose 2 = .ok (.iload_n 2, 1) := by decide +kernel
theorem dX4_choose_3 : decode cX4_choose 3 = .ok (.aload_n 3, 1) := by decide +kernel
theorem dX4_choose_4 : decode cX4_choose 4 = .ok (.invokevirtual 18, 3) := by decide +kernel
theorem dX4_choose_7 : decode cX4_choose 7 = .ok (.aload_n 0, 1) := by decide +kernel
theorem dX4_choose_8 : decode cX4_choose 8 = .ok (.iconst 2, 1) := by decide +kernel
theorem dX4_choose_9 : decode cX4_choose 9 = .ok (.invokevirtual 22, 3) := by decide +kernel
theorem dX4_choose_12 : decode cX4_choose 12 = .ok (.aload_n 0, 1) := by decide +kernel
theorem dX4_choose_13 : decode cX4_choose 13 = .ok (.getfield 26, 3) := by decide +kernel
theorem dX4_choose_16 : decode cX4_choose 16 = .ok (.iconst (-1), 1) := by decide +kernel
theorem dX4_choose_17 : decode cX4_choose 17 = .ok (.ixor, 1) := by decide +kernel
theorem dX4_choose_18 : decode cX4_choose 18 = .ok (.iand, 1) := by decide +kernel
theorem dX4_choose_19 : decode cX4_choose 19 = .ok (.istore 4, 2) := by decide +kernel
theorem dX4_choose_21 : decode cX4_choose 21 = .ok (.aload_n 0, 1) := by decide +kernel
theorem dX4_choose_22 : decode cX4_choose 22 = .ok (.iconst 2, 1) := by decide +kernel
theorem dX4_choose_23 : decode cX4_choose 23 = .ok (.invokevirtual 22, 3) := by decide +kernel
theorem dX4_choose_26 : decode cX4_choose 26 = .ok (.aload_n 0, 1) := by decide +kernel
theorem dX4_choose_27 : decode cX4_choose 27 = .ok (.iconst 1, 1) := by decide +kernel
theorem dX4_choose_28 : decode cX4_choose 28 = .ok (.invokevirtual 22, 3) := by decide +kernel
theorem dX4_choose_31 : decode cX4_choose 31 = .ok (.aload_n 0, 1) := by decide +kernel
theorem dX4_choose_32 : decode cX4_choose 32 = .ok (.getfield 26, 3) := by decide +kernel
theorem dX4_choose_35 : decode cX4_choose 35 = .ok (.iand, 1) := by decide +kernel
theorem dX4_choose_36 : decode cX4_choose 36 = .ok (.ior, 1) := by decide +kernel
theorem dX4_choose_37 : decode cX4_choose 37 = .ok (.istore 5, 2) := by decide +kernel
theorem dX4_choose_39 : decode cX4_choose 39 = .ok (.iload 5, 2) := by decide +kernel
theorem dX4_choose_41 : decode cX4_choose 41 = .ok (.istore 6, 2) := by decide +kernel
theorem dX4_choose_43 : decode cX4_choose 43 = .ok (.iconst 0, 1) := by decide +kernel
theorem dX4_choose_44 : decode cX4_choose 44 = .ok (.istore 7, 2) := by decide +kernel
theorem dX4_choose_46 : decode cX4_choose 46 = .ok (.iload 7, 2) := by decide +kernel
theorem dX4_choose_48 : decode cX4_choose 48 = .ok (.iconst 5, 1) := by decide +kernel
theorem dX4_choose_49 : decode cX4_choose 49 = .ok (.invokestatic 30, 3) := by decide +kernel
theorem dX4_choose_52 : decode cX4_choose 52 = .ok (.if_icmp .ge 79, 3) := by decide +kernel
theorem dX4_choose_55 : decode cX4_choose 55 = .ok (.iload 4, 2) := by decide +kernel
theorem dX4_choose_57 : decode cX4_choose 57 = .ok (.iload 7, 2) := by decide +kernel
theorem dX4_choose_59 : decode cX4_choose 59 = .ok (.iconst (-1), 1) := by decide +kernel
theorem dX4_choose_60 : decode cX4_choose 60 = .ok (.ixor, 1) := by decide +kernel
theorem dX4_choose_61 : decode cX4_choose 61 = .ok (.iand, 1) := by decide +kernel
theorem dX4_choose_62 : decode cX4_choose 62 = .ok (.ifCond .ne 17, 3) := by decide +kernel
theorem dX4_choose_65 : decode cX4_choose 65 = .ok (.iload 7, 2) := by decide +kernel
theorem dX4_choose_67 : decode cX4_choose 67 = .ok (.iload 5, 2) := by decide +kernel
theorem dX4_choose_69 : decode cX4_choose 69 = .ok (.iconst (-1), 1) := by decide +kernel
theorem dX4_choose_70 : decode cX4_choose 70 = .ok (.ixor, 1) := by decide +kernel
theorem dX4_choose_71 : decode cX4_choose 71 = .ok (.iand, 1) := by decide +kernel
theorem dX4_choose_72 : decode cX4_choose 72 = .ok (.ifCond .ne 7, 3) := by decide +kernel
theorem dX4_choose_75 : decode cX4_choose 75 = .ok (.iconst 1, 1) := by decide +kernel
theorem dX4_choose_76 : decode cX4_choose 76 = .ok (.goto 4, 3) := by decide +kernel
theorem dX4_choose_79 : decode cX4_choose 79 = .ok (.iconst 0, 1) := by decide +kernel
theorem dX4_choose_80 : decode cX4_choose 80 = .ok (.istore 8, 2) := by decide +kernel
theorem dX4_choose_82 : decode cX4_choose 82 = .ok (.iload 7, 2) := by decide +kernel
theorem dX4_choose_84 : decode cX4_choose 84 = .ok (.invokestatic 33, 3) := by decide +kernel
theorem dX4_choose_87 : decode cX4_choose 87 = .ok (.iload 6, 2) := by decide +kernel
theorem dX4_choose_89 : decode cX4_choose 89 = .ok (.invokestatic 33, 3) := by decide +kernel
theorem dX4_choose_92 : decode cX4_choose 92 = .ok (.if_icmp .ge 7, 3) := by decide +kernel
theorem dX4_choose_95 : decode cX4_choose 95 = .ok (.iconst 1, 1) := by decide +kernel
theorem dX4_choose_96 : decode cX4_choose 96 = .ok (.goto 4, 3) := by decide +kernel
theorem dX4_choose_99 : decode cX4_choose 99 = .ok (.iconst 0, 1) := by decide +kernel
theorem dX4_choose_100 : decode cX4_choose 100 = .ok (.istore 9, 2) := by decide +kernel
theorem dX4_choose_102 : decode cX4_choose 102 = .ok (.iload 8, 2) := by decide +kernel
theorem dX4_choose_104 : decode cX4_choose 104 = .ok (.ifCond .eq 21, 3) := by decide +kernel
theorem dX4_choose_107 : decode cX4_choose 107 = .ok (.iload 9, 2) := by decide +kernel
theorem dX4_choose_109 : decode cX4_choose 109 = .ok (.ifCond .eq 16, 3) := by decide +kernel
theorem dX4_choose_112 : decode cX4_choose 112 = .ok (.aload_n 0, 1) := by decide +kernel
theorem dX4_choose_113 : decode cX4_choose 113 = .ok (.iload 7, 2) := by decide +kernel
theorem dX4_choose_115 : decode cX4_choose 115 = .ok (.invokevirtual 38, 3) := by decide +kernel
theorem dX4_choose_118 : decode cX4_choose 118 = .ok (.ifCond .eq 7, 3) := by decide +kernel
theorem dX4_choose_121 : decode cX4_choose 121 = .ok (.iload 7, 2) := by decide +kernel
theorem dX4_choose_123 : decode cX4_choose 123 = .ok (.istore 6, 2) := by decide +kernel
theorem dX4_choose_125 : decode cX4_choose 125 = .ok (.iinc 7 1, 3) := by decide +kernel
theorem dX4_choose_128 : decode cX4_choose 128 = .ok (.goto (-82), 3) := by decide +kernel
theorem dX4_choose_131 : decode cX4_choose 131 = .ok (.iload 6, 2) := by decide +kernel
theorem dX4_choose_133 : decode cX4_choose 133 = .ok (.ireturn, 1) := by decide +kernel
set_option maxRecDepth 20000 in
theorem ggX4_look_X0_kindOf : GoodIn wsX4_look wsX0_kindOf := goodIn_r _ [13, 14, 15, 16, 17, 18, 19, 20, 21, 22, 23, 24, 25, 26, 27] (by decide +kernel) (by decide +kernel)
set_option maxRecDepth 20000 in
theorem gX4_look_X0_kindOf : GoodIn wsX4_look (wsV RX4 55 RX0 yX0_kindOf wsX0_kindOf) := goodIn_app (goodIn_of _ (by decide +kernel)) ggX4_look_X0_kindOf
theorem dX4_look_0 : decode cX4_look 0 = .ok (.aload_n 0, 1) := by decide +kernel
theorem dX4_look_1 : decode cX4_look 1 = .ok (.aload_n 1, 1) := by decide +kernel
theorem dX4_look_2 : decode cX4_look 2 = .ok (.getfield 42, 3) := by decide +kernel
theorem dX4_look_5 : decode cX4_look 5 = .ok (.iload_n 2, 1) := by decide +kernel
theorem dX4_look_6 : decode cX4_look 6 = .ok (.iaload, 1) := by decide +kernel
theorem dX4_look_7 : decode cX4_look 7 = .ok (.putfield 47, 3) := by decide +kernel
theorem dX4_look_10 : decode cX4_look 10 = .ok (.aload_n 0, 1) := by decide +kernel
theorem dX4_look_11 : decode cX4_look 11 = .ok (.aload_n 3, 1) := by decide +kernel
theorem dX4_look_12 : decode cX4_look 12 = .ok (.getfield 50, 3) := by decide +kernel
theorem dX4_look_15 : decode cX4_look 15 = .ok (.putfield 26, 3) := by decide +kernel
theorem dX4_look_18 : decode cX4_look 18 = .ok (.iconst 0, 1) := by decide +kernel
theorem dX4_look_19 : decode cX4_look 19 = .ok (.istore 4, 2) := by decide +kernel
theorem dX4_look_21 : decode cX4_look 21 = .ok (.iload 4, 2) := by decide +kernel
theorem dX4_look_23 : decode cX4_look 23 = .ok (.aload_n 0, 1) := by decide +kernel
theorem dX4_look_24 : decode cX4_look 24 = .ok (.getfield 47, 3) := by decide +kernel
theorem dX4_look_27 : decode cX4_look 27 = .ok (.if_icmp .ge 23, 3) := by decide +kernel
theorem dX4_look_30 : decode cX4_look 30 = .ok (.aload_n 0, 1) := by decide +kernel
theorem dX4_look_31 : decode cX4_look 31 = .ok (.getfield 9, 3) := by decide +kernel
theorem dX4_look_34 : decode cX4_look 34 = .ok (.iload 4, 2) := by decide +kernel
theorem dX4_look_36 : decode cX4_look 36 = .ok (.aload_n 1, 1) := by decide +kernel
theorem dX4_look_37 : decode cX4_look 37 = .ok (.iload_n 2, 1) := by decide +kernel
theorem dX4_look_38 : decode cX4_look 38 = .ok (.iload 4, 2) := by decide +kernel
theorem dX4_look_40 : decode cX4_look 40 = .ok (.invokevirtual 55, 3) := by decide +kernel
theorem dX4_look_43 : decode cX4_look 43 = .ok (.iastore, 1) := by decide +kernel
theorem dX4_look_44 : decode cX4_look 44 = .ok (.iinc 4 1, 3) := by decide +kernel
theorem dX4_look_47 : decode cX4_look 47 = .ok (.goto (-26), 3) := by decide +kernel
theorem dX4_look_50 : decode cX4_look 50 = .ok (.iconst 0, 1) := by decide +kernel
theorem dX4_look_51 : decode cX4_look 51 = .ok (.istore 4, 2) := by decide +kernel
theorem dX4_look_53 : decode cX4_look 53 = .ok (.iload 4, 2) := by decide +kernel
theorem dX4_look_55 : decode cX4_look 55 = .ok (.aload_n 3, 1) := by decide +kernel
theorem dX4_look_56 : decode cX4_look 56 = .ok (.getfield 59, 3) := by decide +kernel
theorem dX4_look_59 : decode cX4_look 59 = .ok (.if_icmp .ge 34, 3) := by decide +kernel
theorem dX4_look_62 : decode cX4_look 62 = .ok (.aload_n 3, 1) := by decide +kernel
theorem dX4_look_63 : decode cX4_look 63 = .ok (.getfield 60, 3) := by decide +kernel
theorem dX4_look_66 : decode cX4_look 66 = .ok (.iload 4, 2) := by decide +kernel
theorem dX4_look_68 : decode cX4_look 68 = .ok (.iaload, 1) := by decide +kernel
theorem dX4_look_69 : decode cX4_look 69 = .ok (.iconst (-1), 1) := by decide +kernel
theorem dX4_look_70 : decode cX4_look 70 = .ok (.if_icmp .eq 17, 3) := by decide +kernel
theorem dX4_look_73 : decode cX4_look 73 = .ok (.aload_n 0, 1) := by decide +kernel
theorem dX4_look_74 : decode cX4_look 74 = .ok (.getfield 15, 3) := by decide +kernel
theorem dX4_look_77 : decode cX4_look 77 = .ok (.aload_n 3, 1) := by decide +kernel
theorem dX4_look_78 : decode cX4_look 78 = .ok (.getfield 60, 3) := by decide +kernel
theorem dX4_look_81 : decode cX4_look 81 = .ok (.iload 4, 2) := by decide +kernel
theorem dX4_look_83 : decode cX4_look 83 = .ok (.iaload, 1) := by decide +kernel
theorem dX4_look_84 : decode cX4_look 84 = .ok (.iload 4, 2) := by decide +kernel
theorem dX4_look_86 : decode cX4_look 86 = .ok (.iastore, 1) := by decide +kernel
theorem dX4_look_87 : decode cX4_look 87 = .ok (.iinc 4 1, 3) := by decide +kernel
theorem dX4_look_90 : decode cX4_look 90 = .ok (.goto (-37), 3) := by decide +kernel
theorem dX4_look_93 : decode cX4_look 93 = .ok (.return_, 1) := by decide +kernel
set_option maxRecDepth 20000 in
theorem ggX4_ofKind_X8_bit : GoodIn wsX4_ofKind wsX8_bit := goodIn_r _ [5] (by decide +kernel) (by decide +kernel)
set_option maxRecDepth 20000 in
theorem gX4_ofKind_X8_bit_n30 : GoodIn wsX4_ofKind (wsX8_bit) := ggX4_ofKind_X8_bit
theorem dX4_ofKind_0 : decode cX4_ofKind 0 = .ok (.iconst 0, 1) := by decide +kernel
theorem dX4_ofKind_1 : decode cX4_ofKind 1 = .ok (.istore_n 2, 1) := by decide +kernel
theorem dX4_ofKind_2 : decode cX4_ofKind 2 = .ok (.iconst 0, 1) := by decide +kernel
theorem dX4_ofKind_3 : decode cX4_ofKind 3 = .ok (.istore_n 3, 1) := by decide +kernel
theorem dX4_ofKind_4 : decode cX4_ofKind 4 = .ok (.iload_n 3, 1) := by decide +kernel
theorem dX4_ofKind_5 : decode cX4_ofKind 5 = .ok (.aload_n 0, 1) := by decide +kernel
theorem dX4_ofKind_6 : decode cX4_ofKind 6 = .ok (.getfield 47, 3) := by decide +kernel
theorem dX4_ofKind_9 : decode cX4_ofKind 9 = .ok (.if_icmp .ge 26, 3) := by decide +kernel
theorem dX4_ofKind_12 : decode cX4_ofKind 12 = .ok (.aload_n 0, 1) := by decide +kernel
theorem dX4_ofKind_13 : decode cX4_ofKind 13 = .ok (.getfield 9, 3) := by decide +kernel
theorem dX4_ofKind_16 : decode cX4_ofKind 16 = .ok (.iload_n 3, 1) := by decide +kernel
theorem dX4_ofKind_17 : decode cX4_ofKind 17 = .ok (.iaload, 1) := by decide +kernel
theorem dX4_ofKind_18 : decode cX4_ofKind 18 = .ok (.iload_n 1, 1) := by decide +kernel
theorem dX4_ofKind_19 : decode cX4_ofKind 19 = .ok (.if_icmp .ne 10, 3) := by decide +kernel
theorem dX4_ofKind_22 : decode cX4_ofKind 22 = .ok (.iload_n 2, 1) := by decide +kernel
theorem dX4_ofKind_23 : decode cX4_ofKind 23 = .ok (.iload_n 3, 1) := by decide +kernel
theorem dX4_ofKind_24 : decode cX4_ofKind 24 = .ok (.invokestatic 30, 3) := by decide +kernel
theorem dX4_ofKind_27 : decode cX4_ofKind 27 = .ok (.ior, 1) := by decide +kernel
theorem dX4_ofKind_28 : decode cX4_ofKind 28 = .ok (.istore_n 2, 1) := by decide +kernel
theorem dX4_ofKind_29 : decode cX4_ofKind 29 = .ok (.iinc 3 1, 3) := by decide +kernel
theorem dX4_ofKind_32 : decode cX4_ofKind 32 = .ok (.goto (-28), 3) := by decide +kernel
theorem dX4_ofKind_35 : decode cX4_ofKind 35 = .ok (.iload_n 2, 1) := by decide +kernel
theorem dX4_ofKind_36 : decode cX4_ofKind 36 = .ok (.ireturn, 1) := by decide +kernel
set_option maxRecDepth 20000 in
theorem ggX4_keepsOrder_X8_contains : GoodIn wsX4_keepsOrder wsX8_contains := goodIn_r _ [6] (by decide +kernel) (by decide +kernel)
set_option maxRecDepth 20000 in
theorem gX4_keepsOrder_X8_contains_n63 : GoodIn wsX4_keepsOrder (wsX8_contains) := ggX4_keepsOrder_X8_contains
set_option maxRecDepth 20000 in
theorem ggX4_keepsOrder_X8_conflict : GoodIn wsX4_keepsOrder wsX8_conflict := goodIn_r _ [8] (by decide +kernel) (by decide +kernel)
set_option maxRecDepth 20000 in
theorem gX4_keepsOrder_X8_conflict_n67 : GoodIn wsX4_keepsOrder (wsX8_conflict) := ggX4_keepsOrder_X8_conflict
set_option maxRecDepth 20000 in
theorem ggX4_keepsOrder_X4_staysEarlier : GoodIn wsX4_keepsOrder wsX4_staysEarlier := goodIn_r _ [13, 14, 4, 5, 6, 15, 16, 17, 18] (by decide +kernel) (by decide +kernel)
set_option maxRecDepth 20000 in
theorem gX4_keepsOrder_X4_staysEarlier : GoodIn wsX4_keepsOrder (wsV RX4 70 RX4 yX4_staysEarlier wsX4_staysEarlier) := goodIn_app (goodIn_of _ (by decide +kernel)) ggX4_keepsOrder_X4_staysEarlier
theorem dX4_keepsOrder_0 : decode cX4_keepsOrder 0 = .ok (.aload_n 0, 1) := by decide +kernel
theorem dX4_keepsOrder_1 : decode cX4_keepsOrder 1 = .ok (.getfield 26, 3) := by decide +kernel
theorem dX4_keepsOrder_4 : decode cX4_keepsOrder 4 = .ok (.iload_n 1, 1) := by decide +kernel
theorem dX4_keepsOrder_5 : decode cX4_keepsOrder 5 = .ok (.ior, 1) := by decide +kernel
theorem dX4_keepsOrder_6 : decode cX4_keepsOrder 6 = .ok (.istore_n 2, 1) := by decide +kernel
theorem dX4_keepsOrder_7 : decode cX4_keepsOrder 7 = .ok (.iconst 1, 1) := by decide +kernel
theorem dX4_keepsOrder_8 : decode cX4_keepsOrder 8 = .ok (.istore_n 3, 1) := by decide +kernel
theorem dX4_keepsOrder_9 : decode cX4_keepsOrder 9 = .ok (.iload_n 3, 1) := by decide +kernel
theorem dX4_keepsOrder_10 : decode cX4_keepsOrder 10 = .ok (.aload_n 0, 1) := by decide +kernel
theorem dX4_keepsOrder_11 : decode cX4_keepsOrder 11 = .ok (.getfield 47, 3) := by decide +kernel
theorem dX4_keepsOrder_14 : decode cX4_keepsOrder 14 = .ok (.if_icmp .ge 97, 3) := by decide +kernel
theorem dX4_keepsOrder_17 : decode cX4_keepsOrder 17 = .ok (.iconst 0, 1) := by decide +kernel
theorem dX4_keepsOrder_18 : decode cX4_keepsOrder 18 = .ok (.istore 4, 2) := by decide +kernel
theorem dX4_keepsOrder_20 : decode cX4_keepsOrder 20 = .ok (.iload 4, 2) := by decide +kernel
theorem dX4_keepsOrder_22 : decode cX4_keepsOrder 22 = .ok (.iload_n 3, 1) := by decide +kernel
theorem dX4_keepsOrder_23 : decode cX4_keepsOrder 23 = .ok (.if_icmp .ge 82, 3) := by decide +kernel
theorem dX4_keepsOrder_26 : decode cX4_keepsOrder 26 = .ok (.iload_n 2, 1) := by decide +kernel
theorem dX4_keepsOrder_27 : decode cX4_keepsOrder 27 = .ok (.iload 4, 2) := by decide +kernel
theorem dX4_keepsOrder_29 : decode cX4_keepsOrder 29 = .ok (.invokestatic 63, 3) := by decide +kernel
theorem dX4_keepsOrder_32 : decode cX4_keepsOrder 32 = .ok (.ifCond .eq 15, 3) := by decide +kernel
theorem dX4_keepsOrder_35 : decode cX4_keepsOrder 35 = .ok (.iload_n 2, 1) := by decide +kernel
theorem dX4_keepsOrder_36 : decode cX4_keepsOrder 36 = .ok (.iload_n 3, 1) := by decide +kernel
theorem dX4_keepsOrder_37 : decode cX4_keepsOrder 37 = .ok (.invokestatic 63, 3) := by decide +kernel
theorem dX4_keepsOrder_40 : decode cX4_keepsOrder 40 = .ok (.ifCond .eq 7, 3) := by decide +kernel
theorem dX4_keepsOrder_43 : decode cX4_keepsOrder 43 = .ok (.iconst 1, 1) := by decide +kernel
theorem dX4_keepsOrder_44 : decode cX4_keepsOrder 44 = .ok (.goto 4, 3) := by decide +kernel
theorem dX4_keepsOrder_47 : decode cX4_keepsOrder 47 = .ok (.iconst 0, 1) := by decide +kernel
theorem dX4_keepsOrder_48 : decode cX4_keepsOrder 48 = .ok (.istore 5, 2) := by decide +kernel
theorem dX4_keepsOrder_50 : decode cX4_keepsOrder 50 = .ok (.iload 5, 2) := by decide +kernel
theorem dX4_keepsOrder_52 : decode cX4_keepsOrder 52 = .ok (.ifCond .eq 26, 3) := by decide +kernel
theorem dX4_keepsOrder_55 : decode cX4_keepsOrder 55 = .ok (.aload_n 0, 1) := by decide +kernel
theorem dX4_keepsOrder_56 : decode cX4_keepsOrder 56 = .ok (.getfield 9, 3) := by decide +kernel
theorem dX4_keepsOrder_59 : decode cX4_keepsOrder 59 = .ok (.iload 4, 2) := by decide +kernel
theorem dX4_keepsOrder_61 : decode cX4_keepsOrder 61 = .ok (.iaload, 1) := by decide +kernel
theorem dX4_keepsOrder_62 : decode cX4_keepsOrder 62 = .ok (.aload_n 0, 1) := by decide +kernel
theorem dX4_keepsOrder_63 : decode cX4_keepsOrder 63 = .ok (.getfield 9, 3) := by decide +kernel
theorem dX4_keepsOrder_66 : decode cX4_keepsOrder 66 = .ok (.iload_n 3, 1) := by decide +kernel
theorem dX4_keepsOrder_67 : decode cX4_keepsOrder 67 = .ok (.iaload, 1) := by decide +kernel
theorem dX4_keepsOrder_68 : decode cX4_keepsOrder 68 = .ok (.invokestatic 67, 3) := by decide +kernel
theorem dX4_keepsOrder_71 : decode cX4_keepsOrder 71 = .ok (.ifCond .eq 7, 3) := by decide +kernel
theorem dX4_keepsOrder_74 : decode cX4_keepsOrder 74 = .ok (.iconst 1, 1) := by decide +kernel
theorem dX4_keepsOrder_75 : decode cX4_keepsOrder 75 = .ok (.goto 4, 3) := by decide +kernel
theorem dX4_keepsOrder_78 : decode cX4_keepsOrder 78 = .ok (.iconst 0, 1) := by decide +kernel
theorem dX4_keepsOrder_79 : decode cX4_keepsOrder 79 = .ok (.istore 6, 2) := by decide +kernel
theorem dX4_keepsOrder_81 : decode cX4_keepsOrder 81 = .ok (.iload 6, 2) := by decide +kernel
theorem dX4_keepsOrder_83 : decode cX4_keepsOrder 83 = .ok (.ifCond .eq 16, 3) := by decide +kernel
theorem dX4_keepsOrder_86 : decode cX4_keepsOrder 86 = .ok (.aload_n 0, 1) := by decide +kernel
theorem dX4_keepsOrder_87 : decode cX4_keepsOrder 87 = .ok (.iload 4, 2) := by decide +kernel
theorem dX4_keepsOrder_89 : decode cX4_keepsOrder 89 = .ok (.iload_n 3, 1) := by decide +kernel
theorem dX4_keepsOrder_90 : decode cX4_keepsOrder 90 = .ok (.iload_n 1, 1) := by decide +kernel
theorem dX4_keepsOrder_91 : decode cX4_keepsOrder 91 = .ok (.invokevirtual 70, 3) := by decide +kernel
theorem dX4_keepsOrder_94 : decode cX4_keepsOrder 94 = .ok (.ifCond .ne 5, 3) := by decide +kernel
theorem dX4_keepsOrder_97 : decode cX4_keepsOrder 97 = .ok (.iconst 0, 1) := by decide +kernel
theorem dX4_keepsOrder_98 : decode cX4_keepsOrder 98 = .ok (.ireturn, 1) := by decide +kernel
theorem dX4_keepsOrder_99 : decode cX4_keepsOrder 99 = .ok (.iinc 4 1, 3) := by decide +kernel
theorem dX4_keepsOrder_102 : decode cX4_keepsOrder 102 = .ok (.goto (-82), 3) := by decide +kernel
theorem dX4_keepsOrder_105 : decode cX4_keepsOrder 105 = .ok (.iinc 3 1, 3) := by decide +kernel
theorem dX4_keepsOrder_108 : decode cX4_keepsOrder 108 = .ok (.goto (-99), 3) := by decide +kernel
theorem dX4_keepsOrder_111 : decode cX4_keepsOrder 111 = .ok (.iconst 1, 1) := by decide +kernel
theorem dX4_keepsOrder_112 : decode cX4_keepsOrder 112 = .ok (.ireturn, 1) := by decide +kernel
set_option maxRecDepth 20000 in
theorem ggX4_staysEarlier_X8_contains : GoodIn wsX4_staysEarlier wsX8_contains := goodIn_r _ [4] (by decide +kernel) (by decide +kernel)
set_option maxRecDepth 20000 in
theorem gX4_staysEarlier_X8_contains_n63 : GoodIn wsX4_staysEarlier (wsX8_contains) := ggX4_staysEarlier_X8_contains
theorem dX4_staysEarlier_0 : decode cX4_staysEarlier 0 = .ok (.iload_n 3, 1) := by decide +kernel
theorem dX4_staysEarlier_1 : decode cX4_staysEarlier 1 = .ok (.iload_n 1, 1) := by decide +kernel
theorem dX4_staysEarlier_2 : decode cX4_staysEarlier 2 = .ok (.invokestatic 63, 3) := by decide +kernel
theorem dX4_staysEarlier_5 : decode cX4_staysEarlier 5 = .ok (.ifCond .eq 5, 3) := by decide +kernel
theorem dX4_staysEarlier_8 : decode cX4_staysEarlier 8 = .ok (.iconst 1, 1) := by decide +kernel
theorem dX4_staysEarlier_9 : decode cX4_staysEarlier 9 = .ok (.ireturn, 1) := by decide +kernel
theorem dX4_staysEarlier_10 : decode cX4_staysEarlier 10 = .ok (.iload_n 3, 1) := by decide +kernel
theorem dX4_staysEarlier_11 : decode cX4_staysEarlier 11 = .ok (.iload_n 2, 1) := by decide +kernel
theorem dX4_staysEarlier_12 : decode cX4_staysEarlier 12 = .ok (.invokestatic 63, 3) := by decide +kernel
theorem dX4_staysEarlier_15 : decode cX4_staysEarlier 15 = .ok (.ifCond .ne 22, 3) := by decide +kernel
theorem dX4_staysEarlier_18 : decode cX4_staysEarlier 18 = .ok (.aload_n 0, 1) := by decide +kernel
theorem dX4_staysEarlier_19 : decode cX4_staysEarlier 19 = .ok (.getfield 15, 3) := by decide +kernel
theorem dX4_staysEarlier_22 : decode cX4_staysEarlier 22 = .ok (.iload_n 1, 1) := by decide +kernel
theorem dX4_staysEarlier_23 : decode cX4_staysEarlier 23 = .ok (.iaload, 1) := by decide +kernel
theorem dX4_staysEarlier_24 : decode cX4_staysEarlier 24 = .ok (.aload_n 0, 1) := by decide +kernel
theorem dX4_staysEarlier_25 : decode cX4_staysEarlier 25 = .ok (.getfield 15, 3) := by decide +kernel
theorem dX4_staysEarlier_28 : decode cX4_staysEarlier 28 = .ok (.iload_n 2, 1) := by decide +kernel
theorem dX4_staysEarlier_29 : decode cX4_staysEarlier 29 = .ok (.iaload, 1) := by decide +kernel
theorem dX4_staysEarlier_30 : decode cX4_staysEarlier 30 = .ok (.if_icmp .ge 7, 3) := by decide +kernel
theorem dX4_staysEarlier_33 : decode cX4_staysEarlier 33 = .ok (.iconst 1, 1) := by decide +kernel
theorem dX4_staysEarlier_34 : decode cX4_staysEarlier 34 = .ok (.goto 4, 3) := by decide +kernel
theorem dX4_staysEarlier_37 : decode cX4_staysEarlier 37 = .ok (.iconst 0, 1) := by decide +kernel
theorem dX4_staysEarlier_38 : decode cX4_staysEarlier 38 = .ok (.ireturn, 1) := by decide +kernel
theorem dX5_init_0 : decode cX5_init 0 = .ok (.aload_n 0, 1) := by decide +kernel
theorem dX5_init_1 : decode cX5_init 1 = .ok (.invokespecial 3, 3) := by decide +kernel
theorem dX5_init_4 : decode cX5_init 4 = .ok (.aload_n 0, 1) := by decide +kernel
theorem dX5_init_5 : decode cX5_init 5 = .ok (.bipush 16, 2) := by decide +kernel
theorem dX5_init_7 : decode cX5_init 7 = .ok (.newarray .int, 2) := by decide +kernel
theorem dX5_init_9 : decode cX5_init 9 = .ok (.putfield 9, 3) := by decide +kernel
theorem dX5_init_12 : decode cX5_init 12 = .ok (.aload_n 0, 1) := by decide +kernel
theorem dX5_init_13 : decode cX5_init 13 = .ok (.bipush 16, 2) := by decide +kernel
theorem dX5_init_15 : decode cX5_init 15 = .ok (.newarray .int, 2) := by decide +kernel
theorem dX5_init_17 : decode cX5_init 17 = .ok (.putfield 15, 3) := by decide +kernel
theorem dX5_init_20 : decode cX5_init 20 = .ok (.aload_n 0, 1) := by decide +kernel
theorem dX5_init_21 : decode cX5_init 21 = .ok (.bipush 16, 2) := by decide +kernel
theorem dX5_init_23 : decode cX5_init 23 = .ok (.newarray .int, 2) := by decide +kernel
theorem dX5_init_25 : decode cX5_init 25 = .ok (.putfield 18, 3) := by decide +kernel
theorem dX5_init_28 : decode cX5_init 28 = .ok (.aload_n 0, 1) := by decide +kernel
theorem dX5_init_29 : decode cX5_init 29 = .ok (.bipush 80, 2) := by decide +kernel
theorem dX5_init_31 : decode cX5_init 31 = .ok (.newarray .int, 2) := by decide +kernel
theorem dX5_init_33 : decode cX5_init 33 = .ok (.putfield 21, 3) := by decide +kernel
theorem dX5_init_36 : decode cX5_init 36 = .ok (.aload_n 0, 1) := by decide +kernel
theorem dX5_init_37 : decode cX5_init 37 = .ok (.bipush 80, 2) := by decide +kernel
theorem dX5_init_39 : decode cX5_init 39 = .ok (.newarray .int, 2) := by decide +kernel
theorem dX5_init_41 : decode cX5_init 41 = .ok (.putfield 24, 3) := by decide +kernel
theorem dX5_init_44 : decode cX5_init 44 = .ok (.return_, 1) := by decide +kernel
theorem dX5_exists_0 : decode cX5_exists 0 = .ok (.iload_n 1, 1) := by decide +kernel
theorem dX5_exists_1 : decode cX5_exists 1 = .ok (.ifCond .lt 15, 3) := by decide +kernel
theorem dX5_exists_4 : decode cX5_exists 4 = .ok (.iload_n 1, 1) := by decide +kernel
theorem dX5_exists_5 : decode cX5_exists 5 = .ok (.aload_n 0, 1) := by decide +kernel
theorem dX5_exists_6 : decode cX5_exists 6 = .ok (.getfield 27, 3) := by decide +kernel
theorem dX5_exists_9 : decode cX5_exists 9 = .ok (.if_icmp .ge 7, 3) := by decide +kernel
theorem dX5_exists_12 : decode cX5_exists 12 = .ok (.iconst 1, 1) := by decide +kernel
theorem dX5_exists_13 : decode cX5_exists 13 = .ok (.goto 4, 3) := by decide +kernel
theorem dX5_exists_16 : decode cX5_exists 16 = .ok (.iconst 0, 1) := by decide +kernel
theorem dX5_exists_17 : decode cX5_exists 17 = .ok (.ireturn, 1) := by decide +kernel
theorem dX5_keyOf_0 : decode cX5_keyOf 0 = .ok (.aload_n 0, 1) := by decide +kernel
theorem dX5_keyOf_1 : decode cX5_keyOf 1 = .ok (.getfield 21, 3) := by decide +kernel
theorem dX5_keyOf_4 : decode cX5_keyOf 4 = .ok (.iload_n 1, 1) := by decide +kernel
theorem dX5_keyOf_5 : decode cX5_keyOf 5 = .ok (.iconst 5, 1) := by decide +kernel
theorem dX5_keyOf_6 : decode cX5_keyOf 6 = .ok (.imul, 1) := by decide +kernel
theorem dX5_keyOf_7 : decode cX5_keyOf 7 = .ok (.iload_n 2, 1) := by decide +kernel
theorem dX5_keyOf_8 : decode cX5_keyOf 8 = .ok (.iadd, 1) := by decide +kernel
theorem dX5_keyOf_9 : decode cX5_keyOf 9 = .ok (.iaload, 1) := by decide +kernel
theorem dX5_keyOf_10 : decode cX5_keyOf 10 = .ok (.ireturn, 1) := by decide +kernel
theorem dX5_defaultOf_0 : decode cX5_defaultOf 0 = .ok (.aload_n 0, 1) := by decide +kernel
theorem dX5_defaultOf_1 : decode cX5_defaultOf 1 = .ok (.getfield 24, 3) := by decide +kernel
theorem dX5_defaultOf_4 : decode cX5_defaultOf 4 = .ok (.iload_n 1, 1) := by decide +kernel
theorem dX5_defaultOf_5 : decode cX5_defaultOf 5 = .ok (.iconst 5, 1) := by decide +kernel
theorem dX5_defaultOf_6 : decode cX5_defaultOf 6 = .ok (.imul, 1) := by decide +kernel
theorem dX5_defaultOf_7 : decode cX5_defaultOf 7 = .ok (.iload_n 2, 1) := by decide +kernel
theorem dX5_defaultOf_8 : decode cX5_defaultOf 8 = .ok (.iadd, 1) := by decide +kernel
theorem dX5_defaultOf_9 : decode cX5_defaultOf 9 = .ok (.iaload, 1) := by decide +kernel
theorem dX5_defaultOf_10 : decode cX5_defaultOf 10 = .ok (.ireturn, 1) := by decide +kernel
set_option maxRecDepth 20000 in
theorem ggX5_keySetOf_X5_keyOf : GoodIn wsX5_keySetOf wsX5_keyOf := goodIn_r _ [6, 7, 11, 12, 13, 14, 15, 16] (by decide +kernel) (by decide +kernel)
set_option maxRecDepth 20000 in
theorem gX5_keySetOf_X5_keyOf : GoodIn wsX5_keySetOf (wsV RX5 31 RX5 yX5_keyOf wsX5_keyOf) := goodIn_app (goodIn_of _ (by decide +kernel)) ggX5_keySetOf_X5_keyOf
set_option maxRecDepth 20000 in
theorem ggX5_keySetOf_X8_bit : GoodIn wsX5_keySetOf wsX8_bit := goodIn_r _ [10] (by decide +kernel) (by decide +kernel)
set_option maxRecDepth 20000 in
theorem gX5_keySetOf_X8_bit_n35 : GoodIn wsX5_keySetOf (wsX8_bit) := ggX5_keySetOf_X8_bit
theorem dX5_keySetOf_0 : decode cX5_keySetOf 0 = .ok (.iconst 0, 1) := by decide +kernel
theorem dX5_keySetOf_1 : decode cX5_keySetOf 1 = .ok (.istore_n 2, 1) := by decide +kernel
theorem dX5_keySetOf_2 : decode cX5_keySetOf 2 = .ok (.iconst 0, 1) := by decide +kernel
theorem dX5_keySetOf_3 : decode cX5_keySetOf 3 = .ok (.istore_n 3, 1) := by decide +kernel
theorem dX5_keySetOf_4 : decode cX5_keySetOf 4 = .ok (.iload_n 3, 1) := by decide +kernel
theorem dX5_keySetOf_5 : decode cX5_keySetOf 5 = .ok (.aload_n 0, 1) := by decide +kernel
theorem dX5_keySetOf_6 : decode cX5_keySetOf 6 = .ok (.getfield 18, 3) := by decide +kernel
theorem dX5_keySetOf_9 : decode cX5_keySetOf 9 = .ok (.iload_n 1, 1) := by decide +kernel
theorem dX5_keySetOf_10 : decode cX5_keySetOf 10 = .ok (.iaload, 1) := by decide +kernel
theorem dX5_keySetOf_11 : decode cX5_keySetOf 11 = .ok (.if_icmp .ge 21, 3) := by decide +kernel
theorem dX5_keySetOf_14 : decode cX5_keySetOf 14 = .ok (.iload_n 2, 1) := by decide +kernel
theorem dX5_keySetOf_15 : decode cX5_keySetOf 15 = .ok (.aload_n 0, 1) := by decide +kernel
theorem dX5_keySetOf_16 : decode cX5_keySetOf 16 = .ok (.iload_n 1, 1) := by decide +kernel
theorem dX5_keySetOf_17 : decode cX5_keySetOf 17 = .ok (.iload_n 3, 1) := by decide +kernel
theorem dX5_keySetOf_18 : decode cX5_keySetOf 18 = .ok (.invokevirtual 31, 3) := by decide +kernel
theorem dX5_keySetOf_21 : decode cX5_keySetOf 21 = .ok (.invokestatic 35, 3) := by decide +kernel
theorem dX5_keySetOf_24 : decode cX5_keySetOf 24 = .ok (.ior, 1) := by decide +kernel
theorem dX5_keySetOf_25 : decode cX5_keySetOf 25 = .ok (.istore_n 2, 1) := by decide +kernel
theorem dX5_keySetOf_26 : decode cX5_keySetOf 26 = .ok (.iinc 3 1, 3) := by decide +kernel
theorem dX5_keySetOf_29 : decode cX5_keySetOf 29 = .ok (.goto (-25), 3) := by decide +kernel
theorem dX5_keySetOf_32 : decode cX5_keySetOf 32 = .ok (.iload_n 2, 1) := by decide +kernel
theorem dX5_keySetOf_33 : decode cX5_keySetOf 33 = .ok (.ireturn, 1) := by decide +kernel
set_option maxRecDepth 20000 in
theorem ggX5_withSignature_X8_contains : GoodIn wsX5_withSignature wsX8_contains := goodIn_r _ [7] (by decide +kernel) (by decide +kernel)
set_option maxRecDepth 20000 in
theorem gX5_withSignature_X8_contains_n39 : GoodIn wsX5_withSignature (wsX8_contains) := ggX5_withSignature_X8_contains
set_option maxRecDepth 20000 in
theorem ggX5_withSignature_X8_bit : GoodIn wsX5_withSignature wsX8_bit := goodIn_r _ [9] (by decide +kernel) (by decide +kernel)
set_option maxRecDepth 20000 in
theorem gX5_withSignature_X8_bit_n35 : GoodIn wsX5_withSignature (wsX8_bit) := ggX5_withSignature_X8_bit
theorem dX5_withSignature_0 : decode cX5_withSignature 0 = .ok (.iconst 0, 1) := by decide +kernel
theorem dX5_withSignature_1 : decode cX5_withSignature 1 = .ok (.istore 4, 2) := by decide +kernel
theorem dX5_withSignature_3 : decode cX5_withSignature 3 = .ok (.iconst 0, 1) := by decide +kernel
theorem dX5_withSignature_4 : decode cX5_withSignature 4 = .ok (.istore 5, 2) := by decide +kernel
theorem dX5_withSignature_6 : decode cX5_withSignature 6 = .ok (.iload 5, 2) := by decide +kernel
theorem dX5_withSignature_8 : decode cX5_withSignature 8 = .ok (.aload_n 0, 1) := by decide +kernel
theorem dX5_withSignature_9 : decode cX5_withSignature 9 = .ok (.getfield 27, 3) := by decide +kernel
theorem dX5_withSignature_12 : decode cX5_withSignature 12 = .ok (.if_icmp .ge 67, 3) := by decide +kernel
theorem dX5_withSignature_15 : decode cX5_withSignature 15 = .ok (.aload_n 0, 1) := by decide +kernel
theorem dX5_withSignature_16 : decode cX5_withSignature 16 = .ok (.getfield 15, 3) := by decide +kernel
theorem dX5_withSignature_19 : decode cX5_withSignature 19 = .ok (.iload 5, 2) := by decide +kernel
theorem dX5_withSignature_21 : decode cX5_withSignature 21 = .ok (.iaload, 1) := by decide +kernel
theorem dX5_withSignature_22 : decode cX5_withSignature 22 = .ok (.iload_n 1, 1) := by decide +kernel
theorem dX5_withSignature_23 : decode cX5_withSignature 23 = .ok (.if_icmp .ne 18, 3) := by decide +kernel
theorem dX5_withSignature_26 : decode cX5_withSignature 26 = .ok (.aload_n 0, 1) := by decide +kernel
theorem dX5_withSignature_27 : decode cX5_withSignature 27 = .ok (.getfield 18, 3) := by decide +kernel
theorem dX5_withSignature_30 : decode cX5_withSignature 30 = .ok (.iload 5, 2) := by decide +kernel
theorem dX5_withSignature_32 : decode cX5_withSignature 32 = .ok (.iaload, 1) := by decide +kernel
theorem dX5_withSignature_33 : decode cX5_withSignature 33 = .ok (.iload_n 2, 1) := by decide +kernel
theorem dX5_withSignature_34 : decode cX5_withSignature 34 = .ok (.if_icmp .ne 7, 3) := by decide +kernel
theorem dX5_withSignature_37 : decode cX5_withSignature 37 = .ok (.iconst 1, 1) := by decide +kernel
theorem dX5_withSignature_38 : decode cX5_withSignature 38 = .ok (.goto 4, 3) := by decide +kernel
theorem dX5_withSignature_41 : decode cX5_withSignature 41 = .ok (.iconst 0, 1) := by decide +kernel
theorem dX5_withSignature_42 : decode cX5_withSignature 42 = .ok (.istore 6, 2) := by decide +kernel
theorem dX5_withSignature_44 : decode cX5_withSignature 44 = .ok (.iload 6, 2) := by decide +kernel
theorem dX5_withSignature_46 : decode cX5_withSignature 46 = .ok (.ifCond .eq 27, 3) := by decide +kernel
theorem dX5_withSignature_49 : decode cX5_withSignature 49 = .ok (.iload_n 3, 1) := by decide +kernel
theorem dX5_withSignature_50 : decode cX5_withSignature 50 = .ok (.aload_n 0, 1) := by decide +kernel
theorem dX5_withSignature_51 : decode cX5_withSignature 51 = .ok (.getfield 9, 3) := by decide +kernel
theorem dX5_withSignature_54 : decode cX5_withSignature 54 = .ok (.iload 5, 2) := by decide +kernel
theorem dX5_withSignature_56 : decode cX5_withSignature 56 = .ok (.iaload, 1) := by decide +kernel
theorem dX5_withSignature_57 : decode cX5_withSignature 57 = .ok (.invokestatic 39, 3) := by decide +kernel
theorem dX5_withSignature_60 : decode cX5_withSignature 60 = .ok (.ifCond .eq 13, 3) := by decide +kernel
theorem dX5_withSignature_63 : decode cX5_withSignature 63 = .ok (.iload 4, 2) := by decide +kernel
theorem dX5_withSignature_65 : decode cX5_withSignature 65 = .ok (.iload 5, 2) := by decide +kernel
theorem dX5_withSignature_67 : decode cX5_withSignature 67 = .ok (.invokestatic 35, 3) := by decide +kernel
theorem dX5_withSignature_70 : decode cX5_withSignature 70 = .ok (.ior, 1) := by decide +kernel
theorem dX5_withSignature_71 : decode cX5_withSignature 71 = .ok (.istore 4, 2) := by decide +kernel
theorem dX5_withSignature_73 : decode cX5_withSignature 73 = .ok (.iinc 5 1, 3) := by decide +kernel
theorem dX5_withSignature_76 : decode cX5_withSignature 76 = .ok (.goto (-70), 3) := by decide +kernel
theorem dX5_withSignature_79 : decode cX5_withSignature 79 = .ok (.iload 4, 2) := by decide +kernel
theorem dX5_withSignature_81 : decode cX5_withSignature 81 = .ok (.ireturn, 1) := by decide +kernel
set_option maxRecDepth 20000 in
theorem ggX5_smallest_X8_contains : GoodIn wsX5_smallest wsX8_contains := goodIn_r _ [4] (by decide +kernel) (by decide +kernel)
set_option maxRecDepth 20000 in
theorem gX5_smallest_X8_contains_n39 : GoodIn wsX5_smallest (wsX8_contains) := ggX5_smallest_X8_contains
theorem dX5_smallest_0 : decode cX5_smallest 0 = .ok (.iconst 0, 1) := by decide +kernel
theorem dX5_smallest_1 : decode cX5_smallest 1 = .ok (.istore_n 2, 1) := by decide +kernel
theorem dX5_smallest_2 : decode cX5_smallest 2 = .ok (.iload_n 2, 1) := by decide +kernel
theorem dX5_smallest_3 : decode cX5_smallest 3 = .ok (.aload_n 0, 1) := by decide +kernel
theorem dX5_smallest_4 : decode cX5_smallest 4 = .ok (.getfield 27, 3) := by decide +kernel
theorem dX5_smallest_7 : decode cX5_smallest 7 = .ok (.if_icmp .ge 19, 3) := by decide +kernel
theorem dX5_smallest_10 : decode cX5_smallest 10 = .ok (.iload_n 1, 1) := by decide +kernel
theorem dX5_smallest_11 : decode cX5_smallest 11 = .ok (.iload_n 2, 1) := by decide +kernel
theorem dX5_smallest_12 : decode cX5_smallest 12 = .ok (.invokestatic 39, 3) := by decide +kernel
theorem dX5_smallest_15 : decode cX5_smallest 15 = .ok (.ifCond .eq 5, 3) := by decide +kernel
theorem dX5_smallest_18 : decode cX5_smallest 18 = .ok (.iload_n 2, 1) := by decide +kernel
theorem dX5_smallest_19 : decode cX5_smallest 19 = .ok (.ireturn, 1) := by decide +kernel
theorem dX5_smallest_20 : decode cX5_smallest 20 = .ok (.iinc 2 1, 3) := by decide +kernel
theorem dX5_smallest_23 : decode cX5_smallest 23 = .ok (.goto (-21), 3) := by decide +kernel
theorem dX5_smallest_26 : decode cX5_smallest 26 = .ok (.bipush (-9), 2) := by decide +kernel
theorem dX5_smallest_28 : decode cX5_smallest 28 = .ok (.ireturn, 1) := by decide +kernel
set_option maxRecDepth 20000 in
theorem ggX5_declaredBy_X8_bit : GoodIn wsX5_declaredBy wsX8_bit := goodIn_r _ [3] (by decide +kernel) (by decide +kernel)
set_option maxRecDepth 20000 in
theorem gX5_declaredBy_X8_bit_n35 : GoodIn wsX5_declaredBy (wsX8_bit) := ggX5_declaredBy_X8_bit
set_option maxRecDepth 20000 in
theorem ggX5_declaredBy_X5_withSignature : GoodIn wsX5_declaredBy wsX5_withSignature := goodIn_r _ [8, 9, 10, 11, 12, 13, 2, 14, 1, 3, 19, 20, 21, 22, 23, 24] (by decide +kernel) (by decide +kernel)
set_option maxRecDepth 20000 in
theorem gX5_declaredBy_X5_withSignature : GoodIn wsX5_declaredBy (wsV RX5 43 RX5 yX5_withSignature wsX5_withSignature) := goodIn_app (goodIn_of _ (by decide +kernel)) ggX5_declaredBy_X5_withSignature
set_option maxRecDepth 20000 in
theorem ggX5_declaredBy_X5_smallest : GoodIn wsX5_declaredBy wsX5_smallest := goodIn_r _ [18, 9, 13, 2, 14, 19, 20, 21, 22, 23, 24] (by decide +kernel) (by decide +kernel)
set_option maxRecDepth 20000 in
theorem gX5_declaredBy_X5_smallest : GoodIn wsX5_declaredBy (wsV RX5 47 RX5 yX5_smallest wsX5_smallest) := goodIn_app (goodIn_of _ (by decide +kernel)) ggX5_declaredBy_X5_smallest
theorem dX5_declaredBy_0 : decode cX5_declaredBy 0 = .ok (.aload_n 0, 1) := by decide +kernel
theorem dX5_declaredBy_1 : decode cX5_declaredBy 1 = .ok (.aload_n 0, 1) := by decide +kernel
theorem dX5_declaredBy_2 : decode cX5_declaredBy 2 = .ok (.iload_n 2, 1) := by decide +kernel
theorem dX5_declaredBy_3 : decode cX5_declaredBy 3 = .ok (.iload_n 3, 1) := by decide +kernel
theorem dX5_declaredBy_4 : decode cX5_declaredBy 4 = .ok (.iload_n 1, 1) := by decide +kernel
theorem dX5_declaredBy_5 : decode cX5_declaredBy 5 = .ok (.invokestatic 35, 3) := by decide +kernel
theorem dX5_declaredBy_8 : decode cX5_declaredBy 8 = .ok (.invokevirtual 43, 3) := by decide +kernel
theorem dX5_declaredBy_11 : decode cX5_declaredBy 11 = .ok (.invokevirtual 47, 3) := by decide +kernel
theorem dX5_declaredBy_14 : decode cX5_declaredBy 14 = .ok (.ireturn, 1) := by decide +kernel
set_option maxRecDepth 20000 in
theorem ggX5_typesOf_X8_contains : GoodIn wsX5_typesOf wsX8_contains := goodIn_r _ [5] (by decide +kernel) (by decide +kernel)
set_option maxRecDepth 20000 in
theorem gX5_typesOf_X8_contains_n39 : GoodIn wsX5_typesOf (wsX8_contains) := ggX5_typesOf_X8_contains
set_option maxRecDepth 20000 in
theorem ggX5_typesOf_X8_bit : GoodIn wsX5_typesOf wsX8_bit := goodIn_r _ [7] (by decide +kernel) (by decide +kernel)
set_option maxRecDepth 20000 in
theorem gX5_typesOf_X8_bit_n35 : GoodIn wsX5_typesOf (wsX8_bit) := ggX5_typesOf_X8_bit
theorem dX5_typesOf_0 : decode cX5_typesOf 0 = .ok (.iconst 0, 1) := by decide +kernel
theorem dX5_typesOf_1 : decode cX5_typesOf 1 = .ok (.istore_n 2, 1) := by decide +kernel
theorem dX5_typesOf_2 : decode cX5_typesOf 2 = .ok (.iconst 0, 1) := by decide +kernel
theorem dX5_typesOf_3 : decode cX5_typesOf 3 = .ok (.istore_n 3, 1) := by decide +kernel
theorem dX5_typesOf_4 : decode cX5_typesOf 4 = .ok (.iload_n 3, 1) := by decide +kernel
theorem dX5_typesOf_5 : decode cX5_typesOf 5 = .ok (.aload_n 0, 1) := by decide +kernel
theorem dX5_typesOf_6 : decode cX5_typesOf 6 = .ok (.getfield 27, 3) := by decide +kernel
theorem dX5_typesOf_9 : decode cX5_typesOf 9 = .ok (.if_icmp .ge 29, 3) := by decide +kernel
theorem dX5_typesOf_12 : decode cX5_typesOf 12 = .ok (.iload_n 1, 1) := by decide +kernel
theorem dX5_typesOf_13 : decode cX5_typesOf 13 = .ok (.iload_n 3, 1) := by decide +kernel
theorem dX5_typesOf_14 : decode cX5_typesOf 14 = .ok (.invokestatic 39, 3) := by decide +kernel
theorem dX5_typesOf_17 : decode cX5_typesOf 17 = .ok (.ifCond .eq 15, 3) := by decide +kernel
theorem dX5_typesOf_20 : decode cX5_typesOf 20 = .ok (.iload_n 2, 1) := by decide +kernel
theorem dX5_typesOf_21 : decode cX5_typesOf 21 = .ok (.aload_n 0, 1) := by decide +kernel
theorem dX5_typesOf_22 : decode cX5_typesOf 22 = .ok (.getfield 9, 3) := by decide +kernel
theorem dX5_typesOf_25 : decode cX5_typesOf 25 = .ok (.iload_n 3, 1) := by decide +kernel
theorem dX5_typesOf_26 : decode cX5_typesOf 26 = .ok (.iaload, 1) := by decide +kernel
theorem dX5_typesOf_27 : decode cX5_typesOf 27 = .ok (.invokestatic 35, 3) := by decide +kernel
theorem dX5_typesOf_30 : decode cX5_typesOf 30 = .ok (.ior, 1) := by decide +kernel
theorem dX5_typesOf_31 : decode cX5_typesOf 31 = .ok (.istore_n 2, 1) := by decide +kernel
theorem dX5_typesOf_32 : decode cX5_typesOf 32 = .ok (.iinc 3 1, 3) := by decide +kernel
theorem dX5_typesOf_35 : decode cX5_typesOf 35 = .ok (.goto (-31), 3) := by decide +kernel
theorem dX5_typesOf_38 : decode cX5_typesOf 38 = .ok (.iload_n 2, 1) := by decide +kernel
theorem dX5_typesOf_39 : decode cX5_typesOf 39 = .ok (.ireturn, 1) := by decide +kernel
set_option maxRecDepth 20000 in
theorem ggX5_sameParameters_X5_keyOf : GoodIn wsX5_sameParameters wsX5_keyOf := goodIn_r _ [6, 7, 13, 14, 15, 16, 17, 18] (by decide +kernel) (by decide +kernel)
set_option maxRecDepth 20000 in
theorem gX5_sameParameters_X5_keyOf : GoodIn wsX5_sameParameters (wsV RX5 31 RX5 yX5_keyOf wsX5_keyOf) := goodIn_app (goodIn_of _ (by decide +kernel)) ggX5_sameParameters_X5_keyOf
set_option maxRecDepth 20000 in
theorem ggX5_sameParameters_X5_defaultOf : GoodIn wsX5_sameParameters wsX5_defaultOf := goodIn_r _ [11, 12, 13, 14, 15, 16, 17, 18] (by decide +kernel) (by decide +kernel)
set_option maxRecDepth 20000 in
theorem gX5_sameParameters_X5_defaultOf : GoodIn wsX5_sameParameters (wsV RX5 50 RX5 yX5_defaultOf wsX5_defaultOf) := goodIn_app (goodIn_of _ (by decide +kernel)) ggX5_sameParameters_X5_defaultOf
theorem dX5_sameParameters_0 : decode cX5_sameParameters 0 = .ok (.iconst 0, 1) := by decide +kernel
theorem dX5_sameParameters_1 : decode cX5_sameParameters 1 = .ok (.istore_n 3, 1) := by decide +kernel
theorem dX5_sameParameters_2 : decode cX5_sameParameters 2 = .ok (.iload_n 3, 1) := by decide +kernel
theorem dX5_sameParameters_3 : decode cX5_sameParameters 3 = .ok (.aload_n 0, 1) := by decide +kernel
theorem dX5_sameParameters_4 : decode cX5_sameParameters 4 = .ok (.getfield 18, 3) := by decide +kernel
theorem dX5_sameParameters_7 : decode cX5_sameParameters 7 = .ok (.iload_n 1, 1) := by decide +kernel
theorem dX5_sameParameters_8 : decode cX5_sameParameters 8 = .ok (.iaload, 1) := by decide +kernel
theorem dX5_sameParameters_9 : decode cX5_sameParameters 9 = .ok (.if_icmp .ge 53, 3) := by decide +kernel
theorem dX5_sameParameters_12 : decode cX5_sameParameters 12 = .ok (.aload_n 0, 1) := by decide +kernel
theorem dX5_sameParameters_13 : decode cX5_sameParameters 13 = .ok (.iload_n 1, 1) := by decide +kernel
theorem dX5_sameParameters_14 : decode cX5_sameParameters 14 = .ok (.iload_n 3, 1) := by decide +kernel
theorem dX5_sameParameters_15 : decode cX5_sameParameters 15 = .ok (.invokevirtual 31, 3) := by decide +kernel
theorem dX5_sameParameters_18 : decode cX5_sameParameters 18 = .ok (.aload_n 0, 1) := by decide +kernel
theorem dX5_sameParameters_19 : decode cX5_sameParameters 19 = .ok (.iload_n 2, 1) := by decide +kernel
theorem dX5_sameParameters_20 : decode cX5_sameParameters 20 = .ok (.iload_n 3, 1) := by decide +kernel
theorem dX5_sameParameters_21 : decode cX5_sameParameters 21 = .ok (.invokevirtual 31, 3) := by decide +kernel
theorem dX5_sameParameters_24 : decode cX5_sameParameters 24 = .ok (.if_icmp .ne 7, 3) := by decide +kernel
theorem dX5_sameParameters_27 : decode cX5_sameParameters 27 = .ok (.iconst 1, 1) := by decide +kernel
theorem dX5_sameParameters_28 : decode cX5_sameParameters 28 = .ok (.goto 4, 3) := by decide +kernel
theorem dX5_sameParameters_31 : decode cX5_sameParameters 31 = .ok (.iconst 0, 1) := by decide +kernel
theorem dX5_sameParameters_32 : decode cX5_sameParameters 32 = .ok (.istore 4, 2) := by decide +kernel
theorem dX5_sameParameters_34 : decode cX5_sameParameters 34 = .ok (.iload 4, 2) := by decide +kernel
theorem dX5_sameParameters_36 : decode cX5_sameParameters 36 = .ok (.ifCond .eq 18, 3) := by decide +kernel
theorem dX5_sameParameters_39 : decode cX5_sameParameters 39 = .ok (.aload_n 0, 1) := by decide +kernel
theorem dX5_sameParameters_40 : decode cX5_sameParameters 40 = .ok (.iload_n 1, 1) := by decide +kernel
theorem dX5_sameParameters_41 : decode cX5_sameParameters 41 = .ok (.iload_n 3, 1) := by decide +kernel
theorem dX5_sameParameters_42 : decode cX5_sameParameters 42 = .ok (.invokevirtual 50, 3) := by decide +kernel
theorem dX5_sameParameters_45 : decode cX5_sameParameters 45 = .ok (.aload_n 0, 1) := by decide +kernel
theorem dX5_sameParameters_46 : decode cX5_sameParameters 46 = .ok (.iload_n 2, 1) := by decide +kernel
theorem dX5_sameParameters_47 : decode cX5_sameParameters 47 = .ok (.iload_n 3, 1) := by decide +kernel
theorem dX5_sameParameters_48 : decode cX5_sameParameters 48 = .ok (.invokevirtual 50, 3) := by decide +kernel
theorem dX5_sameParameters_51 : decode cX5_sameParameters 51 = .ok (.if_icmp .eq 5, 3) := by decide +kernel
theorem dX5_sameParameters_54 : decode cX5_sameParameters 54 = .ok (.iconst 0, 1) := by decide +kernel
theorem dX5_sameParameters_55 : decode cX5_sameParameters 55 = .ok (.ireturn, 1) := by decide +kernel
theorem dX5_sameParameters_56 : decode cX5_sameParameters 56 = .ok (.iinc 3 1, 3) := by decide +kernel
theorem dX5_sameParameters_59 : decode cX5_sameParameters 59 = .ok (.goto (-57), 3) := by decide +kernel
theorem dX5_sameParameters_62 : decode cX5_sameParameters 62 = .ok (.iconst 1, 1) := by decide +kernel
theorem dX5_sameParameters_63 : decode cX5_sameParameters 63 = .ok (.ireturn, 1) := by decide +kernel
set_option maxRecDepth 20000 in
theorem ggX5_agree_X5_smallest : GoodIn wsX5_agree wsX5_smallest := goodIn_r _ [6, 1, 7, 8, 9, 25, 26, 27, 28, 29, 30] (by decide +kernel) (by decide +kernel)
set_option maxRecDepth 20000 in
theorem gX5_agree_X5_smallest : GoodIn wsX5_agree (wsV RX5 47 RX5 yX5_smallest wsX5_smallest) := goodIn_app (goodIn_of _ (by decide +kernel)) ggX5_agree_X5_smallest
set_option maxRecDepth 20000 in
theorem ggX5_agree_X8_contains : GoodIn wsX5_agree wsX8_contains := goodIn_r _ [9] (by decide +kernel) (by decide +kernel)
set_option maxRecDepth 20000 in
theorem gX5_agree_X8_contains_n39 : GoodIn wsX5_agree (wsX8_contains) := ggX5_agree_X8_contains
set_option maxRecDepth 20000 in
theorem ggX5_agree_X5_sameParameters : GoodIn wsX5_agree wsX5_sameParameters := goodIn_r _ [13, 14, 15, 16, 17, 5, 18, 19, 20, 21, 22, 23, 24, 25, 26, 27, 28, 29, 30] (by decide +kernel) (by decide +kernel)
set_option maxRecDepth 20000 in
theorem gX5_agree_X5_sameParameters : GoodIn wsX5_agree (wsV RX5 53 RX5 yX5_sameParameters wsX5_sameParameters) := goodIn_app (goodIn_of _ (by decide +kernel)) ggX5_agree_X5_sameParameters
theorem dX5_agree_0 : decode cX5_agree 0 = .ok (.aload_n 0, 1) := by decide +kernel
theorem dX5_agree_1 : decode cX5_agree 1 = .ok (.iload_n 1, 1) := by decide +kernel
theorem dX5_agree_2 : decode cX5_agree 2 = .ok (.invokevirtual 47, 3) := by decide +kernel
theorem dX5_agree_5 : decode cX5_agree 5 = .ok (.istore_n 2, 1) := by decide +kernel
theorem dX5_agree_6 : decode cX5_agree 6 = .ok (.iload_n 2, 1) := by decide +kernel
theorem dX5_agree_7 : decode cX5_agree 7 = .ok (.bipush (-9), 2) := by decide +kernel
theorem dX5_agree_9 : decode cX5_agree 9 = .ok (.if_icmp .ne 5, 3) := by decide +kernel
theorem dX5_agree_12 : decode cX5_agree 12 = .ok (.iconst 1, 1) := by decide +kernel
theorem dX5_agree_13 : decode cX5_agree 13 = .ok (.ireturn, 1) := by decide +kernel
theorem dX5_agree_14 : decode cX5_agree 14 = .ok (.iload_n 2, 1) := by decide +kernel
theorem dX5_agree_15 : decode cX5_agree 15 = .ok (.iconst 1, 1) := by decide +kernel
theorem dX5_agree_16 : decode cX5_agree 16 = .ok (.iadd, 1) := by decide +kernel
theorem dX5_agree_17 : decode cX5_agree 17 = .ok (.istore_n 3, 1) := by decide +kernel
theorem dX5_agree_18 : decode cX5_agree 18 = .ok (.iload_n 3, 1) := by decide +kernel
theorem dX5_agree_19 : decode cX5_agree 19 = .ok (.aload_n 0, 1) := by decide +kernel
theorem dX5_agree_20 : decode cX5_agree 20 = .ok (.getfield 27, 3) := by decide +kernel
theorem dX5_agree_23 : decode cX5_agree 23 = .ok (.if_icmp .ge 28, 3) := by decide +kernel
theorem dX5_agree_26 : decode cX5_agree 26 = .ok (.iload_n 1, 1) := by decide +kernel
theorem dX5_agree_27 : decode cX5_agree 27 = .ok (.iload_n 3, 1) := by decide +kernel
theorem dX5_agree_28 : decode cX5_agree 28 = .ok (.invokestatic 39, 3) := by decide +kernel
theorem dX5_agree_31 : decode cX5_agree 31 = .ok (.ifCond .eq 14, 3) := by decide +kernel
theorem dX5_agree_34 : decode cX5_agree 34 = .ok (.aload_n 0, 1) := by decide +kernel
theorem dX5_agree_35 : decode cX5_agree 35 = .ok (.iload_n 2, 1) := by decide +kernel
theorem dX5_agree_36 : decode cX5_agree 36 = .ok (.iload_n 3, 1) := by decide +kernel
theorem dX5_agree_37 : decode cX5_agree 37 = .ok (.invokevirtual 53, 3) := by decide +kernel
theorem dX5_agree_40 : decode cX5_agree 40 = .ok (.ifCond .ne 5, 3) := by decide +kernel
theorem dX5_agree_43 : decode cX5_agree 43 = .ok (.iconst 0, 1) := by decide +kernel
theorem dX5_agree_44 : decode cX5_agree 44 = .ok (.ireturn, 1) := by decide +kernel
theorem dX5_agree_45 : decode cX5_agree 45 = .ok (.iinc 3 1, 3) := by decide +kernel
theorem dX5_agree_48 : decode cX5_agree 48 = .ok (.goto (-30), 3) := by decide +kernel
theorem dX5_agree_51 : decode cX5_agree 51 = .ok (.iconst 1, 1) := by decide +kernel
theorem dX5_agree_52 : decode cX5_agree 52 = .ok (.ireturn, 1) := by decide +kernel
set_option maxRecDepth 20000 in
theorem ggX5_disagreeWithin_X8_contains : GoodIn wsX5_disagreeWithin wsX8_contains := goodIn_r _ [7] (by decide +kernel) (by decide +kernel)
set_option maxRecDepth 20000 in
theorem gX5_disagreeWithin_X8_contains_n39 : GoodIn wsX5_disagreeWithin (wsX8_contains) := ggX5_disagreeWithin_X8_contains
set_option maxRecDepth 20000 in
theorem ggX5_disagreeWithin_X5_withSignature : GoodIn wsX5_disagreeWithin wsX5_withSignature := goodIn_r _ [12, 1, 3, 4, 2, 5, 6, 7, 13, 14, 37, 38, 39, 40, 41, 42] (by decide +kernel) (by decide +kernel)
set_option maxRecDepth 20000 in
theorem gX5_disagreeWithin_X5_withSignature : GoodIn wsX5_disagreeWithin (wsV RX5 43 RX5 yX5_withSignature wsX5_withSignature) := goodIn_app (goodIn_of _ (by decide +kernel)) ggX5_disagreeWithin_X5_withSignature
set_option maxRecDepth 20000 in
theorem ggX5_disagreeWithin_X5_agree : GoodIn wsX5_disagreeWithin wsX5_agree := goodIn_r _ [18, 1, 19, 20, 21, 11, 22, 5, 6, 7, 23, 24, 25, 26, 4, 27, 28, 29, 30, 31, 32, 33, 34, 35, 36, 37, 38, 39, 40, 41, 42] (by decide +kernel) (by decide +kernel)
set_option maxRecDepth 20000 in
theorem gX5_disagreeWithin_X5_agree : GoodIn wsX5_disagreeWithin (wsV RX5 56 RX5 yX5_agree wsX5_agree) := goodIn_app (goodIn_of _ (by decide +kernel)) ggX5_disagreeWithin_X5_agree
theorem dX5_disagreeWithin_0 : decode cX5_disagreeWithin 0 = .ok (.iconst 0, 1) := by decide +kernel
theorem dX5_disagreeWithin_1 : decode cX5_disagreeWithin 1 = .ok (.istore_n 2, 1) := by decide +kernel
theorem dX5_disagreeWithin_2 : decode cX5_disagreeWithin 2 = .ok (.iload_n 2, 1) := by decide +kernel
theorem dX5_disagreeWithin_3 : decode cX5_disagreeWithin 3 = .ok (.aload_n 0, 1) := by decide +kernel
theorem dX5_disagreeWithin_4 : decode cX5_disagreeWithin 4 = .ok (.getfield 27, 3) := by decide +kernel
theorem dX5_disagreeWithin_7 : decode cX5_disagreeWithin 7 = .ok (.if_icmp .ge 50, 3) := by decide +kernel
theorem dX5_disagreeWithin_10 : decode cX5_disagreeWithin 10 = .ok (.iload_n 1, 1) := by decide +kernel
theorem dX5_disagreeWithin_11 : decode cX5_disagreeWithin 11 = .ok (.aload_n 0, 1) := by decide +kernel
theorem dX5_disagreeWithin_12 : decode cX5_disagreeWithin 12 = .ok (.getfield 9, 3) := by decide +kernel
theorem dX5_disagreeWithin_15 : decode cX5_disagreeWithin 15 = .ok (.iload_n 2, 1) := by decide +kernel
theorem dX5_disagreeWithin_16 : decode cX5_disagreeWithin 16 = .ok (.iaload, 1) := by decide +kernel
theorem dX5_disagreeWithin_17 : decode cX5_disagreeWithin 17 = .ok (.invokestatic 39, 3) := by decide +kernel
theorem dX5_disagreeWithin_20 : decode cX5_disagreeWithin 20 = .ok (.istore_n 3, 1) := by decide +kernel
theorem dX5_disagreeWithin_21 : decode cX5_disagreeWithin 21 = .ok (.iload_n 3, 1) := by decide +kernel
theorem dX5_disagreeWithin_22 : decode cX5_disagreeWithin 22 = .ok (.ifCond .eq 29, 3) := by decide +kernel
theorem dX5_disagreeWithin_25 : decode cX5_disagreeWithin 25 = .ok (.aload_n 0, 1) := by decide +kernel
theorem dX5_disagreeWithin_26 : decode cX5_disagreeWithin 26 = .ok (.aload_n 0, 1) := by decide +kernel
theorem dX5_disagreeWithin_27 : decode cX5_disagreeWithin 27 = .ok (.aload_n 0, 1) := by decide +kernel
theorem dX5_disagreeWithin_28 : decode cX5_disagreeWithin 28 = .ok (.getfield 15, 3) := by decide +kernel
theorem dX5_disagreeWithin_31 : decode cX5_disagreeWithin 31 = .ok (.iload_n 2, 1) := by decide +kernel
theorem dX5_disagreeWithin_32 : decode cX5_disagreeWithin 32 = .ok (.iaload, 1) := by decide +kernel
theorem dX5_disagreeWithin_33 : decode cX5_disagreeWithin 33 = .ok (.aload_n 0, 1) := by decide +kernel
theorem dX5_disagreeWithin_34 : decode cX5_disagreeWithin 34 = .ok (.getfield 18, 3) := by decide +kernel
theorem dX5_disagreeWithin_37 : decode cX5_disagreeWithin 37 = .ok (.iload_n 2, 1) := by decide +kernel
theorem dX5_disagreeWithin_38 : decode cX5_disagreeWithin 38 = .ok (.iaload, 1) := by decide +kernel
theorem dX5_disagreeWithin_39 : decode cX5_disagreeWithin 39 = .ok (.iload_n 1, 1) := by decide +kernel
theorem dX5_disagreeWithin_40 : decode cX5_disagreeWithin 40 = .ok (.invokevirtual 43, 3) := by decide +kernel
theorem dX5_disagreeWithin_43 : decode cX5_disagreeWithin 43 = .ok (.invokevirtual 56, 3) := by decide +kernel
theorem dX5_disagreeWithin_46 : decode cX5_disagreeWithin 46 = .ok (.ifCond .ne 5, 3) := by decide +kernel
theorem dX5_disagreeWithin_49 : decode cX5_disagreeWithin 49 = .ok (.iconst 1, 1) := by decide +kernel
theorem dX5_disagreeWithin_50 : decode cX5_disagreeWithin 50 = .ok (.ireturn, 1) := by decide +kernel
theorem dX5_disagreeWithin_51 : decode cX5_disagreeWithin 51 = .ok (.iinc 2 1, 3) := by decide +kernel
theorem dX5_disagreeWithin_54 : decode cX5_disagreeWithin 54 = .ok (.goto (-52), 3) := by decide +kernel
theorem dX5_disagreeWithin_57 : decode cX5_disagreeWithin 57 = .ok (.iconst 0, 1) := by decide +kernel
theorem dX5_disagreeWithin_58 : decode cX5_disagreeWithin 58 = .ok (.ireturn, 1) := by decide +kernel
set_option maxRecDepth 20000 in
theorem ggX5_add_X5_keyOf : GoodIn wsX5_add wsX5_keyOf := goodIn_r _ [9, 10, 20, 21, 22, 23, 24, 25] (by decide +kernel) (by decide +kernel)
set_option maxRecDepth 20000 in
theorem gX5_add_X5_keyOf : GoodIn wsX5_add (wsV RX5 31 RX5 yX5_keyOf wsX5_keyOf) := goodIn_app (goodIn_of _ (by decide +kernel)) ggX5_add_X5_keyOf
set_option maxRecDepth 20000 in
theorem ggX5_add_X5_defaultOf : GoodIn wsX5_add wsX5_defaultOf := goodIn_r _ [14, 15, 20, 21, 22, 23, 24, 25] (by decide +kernel) (by decide +kernel)
set_option maxRecDepth 20000 in
theorem gX5_add_X5_defaultOf : GoodIn wsX5_add (wsV RX5 50 RX5 yX5_defaultOf wsX5_defaultOf) := goodIn_app (goodIn_of _ (by decide +kernel)) ggX5_add_X5_defaultOf
set_option maxRecDepth 20000 in
theorem ggX5_add_X5_putParameter : GoodIn wsX5_add wsX5_putParameter := goodIn_r _ [19, 10, 15, 20, 21, 22, 23, 24, 25] (by decide +kernel) (by decide +kernel)
set_option maxRecDepth 20000 in
theorem gX5_add_X5_putParameter : GoodIn wsX5_add (wsV RX5 60 RX5 yX5_putParameter wsX5_putParameter) := goodIn_app (goodIn_of _ (by decide +kernel)) ggX5_add_X5_putParameter
theorem dX5_add_0 : decode cX5_add 0 = .ok (.aload_n 0, 1) := by decide +kernel
theorem dX5_add_1 : decode cX5_add 1 = .ok (.getfield 27, 3) := by decide +kernel
theorem dX5_add_4 : decode cX5_add 4 = .ok (.istore 5, 2) := by decide +kernel
theorem dX5_add_6 : decode cX5_add 6 = .ok (.aload_n 0, 1) := by decide +kernel
theorem dX5_add_7 : decode cX5_add 7 = .ok (.getfield 9, 3) := by decide +kernel
theorem dX5_add_10 : decode cX5_add 10 = .ok (.iload 5, 2) := by decide +kernel
theorem dX5_add_12 : decode cX5_add 12 = .ok (.iload_n 1, 1) := by decide +kernel
theorem dX5_add_13 : decode cX5_add 13 = .ok (.iastore, 1) := by decide +kernel
theorem dX5_add_14 : decode cX5_add 14 = .ok (.aload_n 0, 1) := by decide +kernel
theorem dX5_add_15 : decode cX5_add 15 = .ok (.getfield 15, 3) := by decide +kernel
theorem dX5_add_18 : decode cX5_add 18 = .ok (.iload 5, 2) := by decide +kernel
theorem dX5_add_20 : decode cX5_add 20 = .ok (.iload_n 2, 1) := by decide +kernel
theorem dX5_add_21 : decode cX5_add 21 = .ok (.iastore, 1) := by decide +kernel
theorem dX5_add_22 : decode cX5_add 22 = .ok (.aload_n 0, 1) := by decide +kernel
theorem dX5_add_23 : decode cX5_add 23 = .ok (.getfield 18, 3) := by decide +kernel
theorem dX5_add_26 : decode cX5_add 26 = .ok (.iload 5, 2) := by decide +kernel
theorem dX5_add_28 : decode cX5_add 28 = .ok (.iload_n 3, 1) := by decide +kernel
theorem dX5_add_29 : decode cX5_add 29 = .ok (.iastore, 1) := by decide +kernel
theorem dX5_add_30 : decode cX5_add 30 = .ok (.iconst 0, 1) := by decide +kernel
theorem dX5_add_31 : decode cX5_add 31 = .ok (.istore 6, 2) := by decide +kernel
theorem dX5_add_33 : decode cX5_add 33 = .ok (.iload 6, 2) := by decide +kernel
theorem dX5_add_35 : decode cX5_add 35 = .ok (.iload_n 3, 1) := by decide +kernel
theorem dX5_add_36 : decode cX5_add 36 = .ok (.if_icmp .ge 60, 3) := by decide +kernel
theorem dX5_add_39 : decode cX5_add 39 = .ok (.iload 4, 2) := by decide +kernel
theorem dX5_add_41 : decode cX5_add 41 = .ok (.bipush (-9), 2) := by decide +kernel
theorem dX5_add_43 : decode cX5_add 43 = .ok (.if_icmp .ne 8, 3) := by decide +kernel
theorem dX5_add_46 : decode cX5_add 46 = .ok (.iload 6, 2) := by decide +kernel
theorem dX5_add_48 : decode cX5_add 48 = .ok (.goto 11, 3) := by decide +kernel
theorem dX5_add_51 : decode cX5_add 51 = .ok (.aload_n 0, 1) := by decide +kernel
theorem dX5_add_52 : decode cX5_add 52 = .ok (.iload 4, 2) := by decide +kernel
theorem dX5_add_54 : decode cX5_add 54 = .ok (.iload 6, 2) := by decide +kernel
theorem dX5_add_56 : decode cX5_add 56 = .ok (.invokevirtual 31, 3) := by decide +kernel
theorem dX5_add_59 : decode cX5_add 59 = .ok (.istore 7, 2) := by decide +kernel
theorem dX5_add_61 : decode cX5_add 61 = .ok (.aload_n 0, 1) := by decide +kernel
theorem dX5_add_62 : decode cX5_add 62 = .ok (.iload 5, 2) := by decide +kernel
theorem dX5_add_64 : decode cX5_add 64 = .ok (.iload 6, 2) := by decide +kernel
theorem dX5_add_66 : decode cX5_add 66 = .ok (.iload 7, 2) := by decide +kernel
theorem dX5_add_68 : decode cX5_add 68 = .ok (.iload 4, 2) := by decide +kernel
theorem dX5_add_70 : decode cX5_add 70 = .ok (.bipush (-9), 2) := by decide +kernel
theorem dX5_add_72 : decode cX5_add 72 = .ok (.if_icmp .ne 7, 3) := by decide +kernel
theorem dX5_add_75 : decode cX5_add 75 = .ok (.iconst 0, 1) := by decide +kernel
theorem dX5_add_76 : decode cX5_add 76 = .ok (.goto 11, 3) := by decide +kernel
theorem dX5_add_79 : decode cX5_add 79 = .ok (.aload_n 0, 1) := by decide +kernel
theorem dX5_add_80 : decode cX5_add 80 = .ok (.iload 4, 2) := by decide +kernel
theorem dX5_add_82 : decode cX5_add 82 = .ok (.iload 6, 2) := by decide +kernel
theorem dX5_add_84 : decode cX5_add 84 = .ok (.invokevirtual 50, 3) := by decide +kernel
theorem dX5_add_87 : decode cX5_add 87 = .ok (.invokevirtual 60, 3) := by decide +kernel
theorem dX5_add_90 : decode cX5_add 90 = .ok (.iinc 6 1, 3) := by decide +kernel
theorem dX5_add_93 : decode cX5_add 93 = .ok (.goto (-60), 3) := by decide +kernel
theorem dX5_add_96 : decode cX5_add 96 = .ok (.aload_n 0, 1) := by decide +kernel
theorem dX5_add_97 : decode cX5_add 97 = .ok (.dup, 1) := by decide +kernel
theorem dX5_add_98 : decode cX5_add 98 = .ok (.getfield 27, 3) := by decide +kernel
theorem dX5_add_101 : decode cX5_add 101 = .ok (.iconst 1, 1) := by decide +kernel
theorem dX5_add_102 : decode cX5_add 102 = .ok (.iadd, 1) := by decide +kernel
theorem dX5_add_103 : decode cX5_add 103 = .ok (.putfield 27, 3) := by decide +kernel
theorem dX5_add_106 : decode cX5_add 106 = .ok (.iload 5, 2) := by decide +kernel
theorem dX5_add_108 : decode cX5_add 108 = .ok (.ireturn, 1) := by decide +kernel
theorem dX5_putParameter_0 : decode cX5_putParameter 0 = .ok (.aload_n 0, 1) := by decide +kernel
theorem dX5_putParameter_1 : decode cX5_putParameter 1 = .ok (.getfield 21, 3) := by decide +kernel
theorem dX5_putParameter_4 : decode cX5_putParameter 4 = .ok (.iload_n 1, 1) := by decide +kernel
theorem dX5_putParameter_5 : decode cX5_putParameter 5 = .ok (.iconst 5, 1) := by decide +kernel
theorem dX5_putParameter_6 : decode cX5_putParameter 6 = .ok (.imul, 1) := by decide +kernel
theorem dX5_putParameter_7 : decode cX5_putParameter 7 = .ok (.iload_n 2, 1) := by decide +kernel
theorem dX5_putParameter_8 : decode cX5_putParameter 8 = .ok (.iadd, 1) := by decide +kernel
theorem dX5_putParameter_9 : decode cX5_putParameter 9 = .ok (.iload_n 3, 1) := by decide +kernel
theorem dX5_putParameter_10 : decode cX5_putParameter 10 = .ok (.iastore, 1) := by decide +kernel
theorem dX5_putParameter_11 : decode cX5_putParameter 11 = .ok (.aload_n 0, 1) := by decide +kernel
theorem dX5_putParameter_12 : decode cX5_putParameter 12 = .ok (.getfield 24, 3) := by decide +kernel
theorem dX5_putParameter_15 : decode cX5_putParameter 15 = .ok (.iload_n 1, 1) := by decide +kernel
theorem dX5_putParameter_16 : decode cX5_putParameter 16 = .ok (.iconst 5, 1) := by decide +kernel
theorem dX5_putParameter_17 : decode cX5_putParameter 17 = .ok (.imul, 1) := by decide +kernel
theorem dX5_putParameter_18 : decode cX5_putParameter 18 = .ok (.iload_n 2, 1) := by decide +kernel
theorem dX5_putParameter_19 : decode cX5_putParameter 19 = .ok (.iadd, 1) := by decide +kernel
theorem dX5_putParameter_20 : decode cX5_putParameter 20 = .ok (.iload 4, 2) := by decide +kernel
theorem dX5_putParameter_22 : decode cX5_putParameter 22 = .ok (.iastore, 1) := by decide +kernel
theorem dX5_putParameter_23 : decode cX5_putParameter 23 = .ok (.return_, 1) := by decide +kernel
set_option maxRecDepth 20000 in
theorem ggX5_replaceParameters_X8_contains : GoodIn wsX5_replaceParameters wsX8_contains := goodIn_r _ [9] (by decide +kernel) (by decide +kernel)
set_option maxRecDepth 20000 in
theorem gX5_replaceParameters_X8_contains_n39 : GoodIn wsX5_replaceParameters (wsX8_contains) := ggX5_replaceParameters_X8_contains
set_option maxRecDepth 20000 in
theorem ggX5_replaceParameters_X5_putParameter : GoodIn wsX5_replaceParameters wsX5_putParameter := goodIn_r _ [14, 15, 16, 17, 18, 19, 20, 21, 22] (by decide +kernel) (by decide +kernel)
set_option maxRecDepth 20000 in
theorem gX5_replaceParameters_X5_putParameter : GoodIn wsX5_replaceParameters (wsV RX5 60 RX5 yX5_putParameter wsX5_putParameter) := goodIn_app (goodIn_of _ (by decide +kernel)) ggX5_replaceParameters_X5_putParameter
theorem dX5_replaceParameters_0 : decode cX5_replaceParameters 0 = .ok (.iconst 0, 1) := by decide +kernel
theorem dX5_replaceParameters_1 : decode cX5_replaceParameters 1 = .ok (.istore_n 2, 1) := by decide +kernel
theorem dX5_replaceParameters_2 : decode cX5_replaceParameters 2 = .ok (.iload_n 2, 1) := by decide +kernel
theorem dX5_replaceParameters_3 : decode cX5_replaceParameters 3 = .ok (.aload_n 0, 1) := by decide +kernel
theorem dX5_replaceParameters_4 : decode cX5_replaceParameters 4 = .ok (.getfield 27, 3) := by decide +kernel
theorem dX5_replaceParameters_7 : decode cX5_replaceParameters 7 = .ok (.if_icmp .ge 64, 3) := by decide +kernel
theorem dX5_replaceParameters_10 : decode cX5_replaceParameters 10 = .ok (.aload_n 1, 1) := by decide +kernel
theorem dX5_replaceParameters_11 : decode cX5_replaceParameters 11 = .ok (.getfield 64, 3) := by decide +kernel
theorem dX5_replaceParameters_14 : decode cX5_replaceParameters 14 = .ok (.iload_n 2, 1) := by decide +kernel
theorem dX5_replaceParameters_15 : decode cX5_replaceParameters 15 = .ok (.invokestatic 39, 3) := by decide +kernel
theorem dX5_replaceParameters_18 : decode cX5_replaceParameters 18 = .ok (.ifCond .eq 47, 3) := by decide +kernel
theorem dX5_replaceParameters_21 : decode cX5_replaceParameters 21 = .ok (.aload_n 0, 1) := by decide +kernel
theorem dX5_replaceParameters_22 : decode cX5_replaceParameters 22 = .ok (.getfield 18, 3) := by decide +kernel
theorem dX5_replaceParameters_25 : decode cX5_replaceParameters 25 = .ok (.iload_n 2, 1) := by decide +kernel
theorem dX5_replaceParameters_26 : decode cX5_replaceParameters 26 = .ok (.aload_n 1, 1) := by decide +kernel
theorem dX5_replaceParameters_27 : decode cX5_replaceParameters 27 = .ok (.getfield 69, 3) := by decide +kernel
theorem dX5_replaceParameters_30 : decode cX5_replaceParameters 30 = .ok (.iastore, 1) := by decide +kernel
theorem dX5_replaceParameters_31 : decode cX5_replaceParameters 31 = .ok (.iconst 0, 1) := by decide +kernel
theorem dX5_replaceParameters_32 : decode cX5_replaceParameters 32 = .ok (.istore_n 3, 1) := by decide +kernel
theorem dX5_replaceParameters_33 : decode cX5_replaceParameters 33 = .ok (.iload_n 3, 1) := by decide +kernel
theorem dX5_replaceParameters_34 : decode cX5_replaceParameters 34 = .ok (.aload_n 1, 1) := by decide +kernel
theorem dX5_replaceParameters_35 : decode cX5_replaceParameters 35 = .ok (.getfield 69, 3) := by decide +kernel
theorem dX5_replaceParameters_38 : decode cX5_replaceParameters 38 = .ok (.if_icmp .ge 27, 3) := by decide +kernel
theorem dX5_replaceParameters_41 : decode cX5_replaceParameters 41 = .ok (.aload_n 0, 1) := by decide +kernel
theorem dX5_replaceParameters_42 : decode cX5_replaceParameters 42 = .ok (.iload_n 2, 1) := by decide +kernel
theorem dX5_replaceParameters_43 : decode cX5_replaceParameters 43 = .ok (.iload_n 3, 1) := by decide +kernel
theorem dX5_replaceParameters_44 : decode cX5_replaceParameters 44 = .ok (.aload_n 1, 1) := by decide +kernel
theorem dX5_replaceParameters_45 : decode cX5_replaceParameters 45 = .ok (.getfield 70, 3) := by decide +kernel
theorem dX5_replaceParameters_48 : decode cX5_replaceParameters 48 = .ok (.iload_n 3, 1) := by decide +kernel
theorem dX5_replaceParameters_49 : decode cX5_replaceParameters 49 = .ok (.iaload, 1) := by decide +kernel
theorem dX5_replaceParameters_50 : decode cX5_replaceParameters 50 = .ok (.aload_n 1, 1) := by decide +kernel
theorem dX5_replaceParameters_51 : decode cX5_replaceParameters 51 = .ok (.getfield 71, 3) := by decide +kernel
theorem dX5_replaceParameters_54 : decode cX5_replaceParameters 54 = .ok (.iload_n 3, 1) := by decide +kernel
theorem dX5_replaceParameters_55 : decode cX5_replaceParameters 55 = .ok (.iaload, 1) := by decide +kernel
theorem dX5_replaceParameters_56 : decode cX5_replaceParameters 56 = .ok (.invokevirtual 60, 3) := by decide +kernel
theorem dX5_replaceParameters_59 : decode cX5_replaceParameters 59 = .ok (.iinc 3 1, 3) := by decide +kernel
theorem dX5_replaceParameters_62 : decode cX5_replaceParameters 62 = .ok (.goto (-29), 3) := by decide +kernel
theorem dX5_replaceParameters_65 : decode cX5_replaceParameters 65 = .ok (.iinc 2 1, 3) := by decide +kernel
theorem dX5_replaceParameters_68 : decode cX5_replaceParameters 68 = .ok (.goto (-66), 3) := by decide +kernel
theorem dX5_replaceParameters_71 : decode cX5_replaceParameters 71 = .ok (.return_, 1) := by decide +kernel
set_option maxRecDepth 20000 in
theorem ggX5_copyFrom_X8_copyRow : GoodIn wsX5_copyFrom wsX8_copyRow := goodIn_r _ [9, 10, 11, 12, 13, 14, 15, 16, 17] (by decide +kernel) (by decide +kernel)
set_option maxRecDepth 20000 in
theorem gX5_copyFrom_X8_copyRow_n72 : GoodIn wsX5_copyFrom (wsX8_copyRow) := ggX5_copyFrom_X8_copyRow
theorem dX5_copyFrom_0 : decode cX5_copyFrom 0 = .ok (.aload_n 0, 1) := by decide +kernel
theorem dX5_copyFrom_1 : decode cX5_copyFrom 1 = .ok (.aload_n 1, 1) := by decide +kernel
theorem dX5_copyFrom_2 : decode cX5_copyFrom 2 = .ok (.getfield 27, 3) := by decide +kernel
theorem dX5_copyFrom_5 : decode cX5_copyFrom 5 = .ok (.putfield 27, 3) := by decide +kernel
theorem dX5_copyFrom_8 : decode cX5_copyFrom 8 = .ok (.aload_n 1, 1) := by decide +kernel
theorem dX5_copyFrom_9 : decode cX5_copyFrom 9 = .ok (.getfield 9, 3) := by decide +kernel
theorem dX5_copyFrom_12 : decode cX5_copyFrom 12 = .ok (.aload_n 0, 1) := by decide +kernel
theorem dX5_copyFrom_13 : decode cX5_copyFrom 13 = .ok (.getfield 9, 3) := by decide +kernel
theorem dX5_copyFrom_16 : decode cX5_copyFrom 16 = .ok (.invokestatic 72, 3) := by decide +kernel
theorem dX5_copyFrom_19 : decode cX5_copyFrom 19 = .ok (.aload_n 1, 1) := by decide +kernel
theorem dX5_copyFrom_20 : decode cX5_copyFrom 20 = .ok (.getfield 15, 3) := by decide +kernel
theorem dX5_copyFrom_23 : decode cX5_copyFrom 23 = .ok (.aload_n 0, 1) := by decide +kernel
theorem dX5_copyFrom_24 : decode cX5_copyFrom 24 = .ok (.getfield 15, 3) := by decide +kernel
theorem dX5_copyFrom_27 : decode cX5_copyFrom 27 = .ok (.invokestatic 72, 3) := by decide +kernel
theorem dX5_copyFrom_30 : decode cX5_copyFrom 30 = .ok (.aload_n 1, 1) := by decide +kernel
theorem dX5_copyFrom_31 : decode cX5_copyFrom 31 = .ok (.getfield 18, 3) := by decide +kernel
theorem dX5_copyFrom_34 : decode cX5_copyFrom 34 = .ok (.aload_n 0, 1) := by decide +kernel
theorem dX5_copyFrom_35 : decode cX5_copyFrom 35 = .ok (.getfield 18, 3) := by decide +kernel
theorem dX5_copyFrom_38 : decode cX5_copyFrom 38 = .ok (.invokestatic 72, 3) := by decide +kernel
theorem dX5_copyFrom_41 : decode cX5_copyFrom 41 = .ok (.aload_n 1, 1) := by decide +kernel
theorem dX5_copyFrom_42 : decode cX5_copyFrom 42 = .ok (.getfield 21, 3) := by decide +kernel
theorem dX5_copyFrom_45 : decode cX5_copyFrom 45 = .ok (.aload_n 0, 1) := by decide +kernel
theorem dX5_copyFrom_46 : decode cX5_copyFrom 46 = .ok (.getfield 21, 3) := by decide +kernel
theorem dX5_copyFrom_49 : decode cX5_copyFrom 49 = .ok (.invokestatic 72, 3) := by decide +kernel
theorem dX5_copyFrom_52 : decode cX5_copyFrom 52 = .ok (.aload_n 1, 1) := by decide +kernel
theorem dX5_copyFrom_53 : decode cX5_copyFrom 53 = .ok (.getfield 24, 3) := by decide +kernel
theorem dX5_copyFrom_56 : decode cX5_copyFrom 56 = .ok (.aload_n 0, 1) := by decide +kernel
theorem dX5_copyFrom_57 : decode cX5_copyFrom 57 = .ok (.getfield 24, 3) := by decide +kernel
theorem dX5_copyFrom_60 : decode cX5_copyFrom 60 = .ok (.invokestatic 72, 3) := by decide +kernel
theorem dX5_copyFrom_63 : decode cX5_copyFrom 63 = .ok (.return_, 1) := by decide +kernel
set_option maxRecDepth 20000 in
theorem ggX6_init_X7_init : GoodIn wsX6_init wsX7_init := goodIn_r _ [17, 18, 2, 3, 19, 20, 43, 44, 45] (by decide +kernel) (by decide +kernel)
set_option maxRecDepth 20000 in
theorem gX6_init_X7_init_n11 : GoodIn wsX6_init (wsX7_init) := ggX6_init_X7_init
set_option maxRecDepth 20000 in
theorem ggX6_init_X5_init : GoodIn wsX6_init wsX5_init := goodIn_r _ [22, 23, 2, 3, 19, 24, 25, 26, 27, 28, 49, 50, 51, 52, 53, 54] (by decide +kernel) (by decide +kernel)
set_option maxRecDepth 20000 in
theorem gX6_init_X5_init_n20 : GoodIn wsX6_init (wsX5_init) := ggX6_init_X5_init
set_option maxRecDepth 20000 in
theorem ggX6_init_X0_init : GoodIn wsX6_init wsX0_init := goodIn_r _ [30, 31, 2, 3, 19, 32, 33, 34, 35, 36, 37, 38, 39, 40, 41, 42, 55, 56, 57, 58, 59, 60, 61, 62, 63, 64, 65, 66, 67] (by decide +kernel) (by decide +kernel)
set_option maxRecDepth 20000 in
theorem gX6_init_X0_init_n27 : GoodIn wsX6_init (wsX0_init) := ggX6_init_X0_init
theorem dX6_init_0 : decode cX6_init 0 = .ok (.aload_n 0, 1) := by decide +kernel
theorem dX6_init_1 : decode cX6_init 1 = .ok (.invokespecial 3, 3) := by decide +kernel
theorem dX6_init_4 : decode cX6_init 4 = .ok (.aload_n 0, 1) := by decide +kernel
theorem dX6_init_5 : decode cX6_init 5 = .ok (.new 9, 3) := by decide +kernel
theorem dX6_init_8 : decode cX6_init 8 = .ok (.dup, 1) := by decide +kernel
theorem dX6_init_9 : decode cX6_init 9 = .ok (.invokespecial 11, 3) := by decide +kernel
theorem dX6_init_12 : decode cX6_init 12 = .ok (.putfield 12, 3) := by decide +kernel
theorem dX6_init_15 : decode cX6_init 15 = .ok (.aload_n 0, 1) := by decide +kernel
theorem dX6_init_16 : decode cX6_init 16 = .ok (.new 18, 3) := by decide +kernel
theorem dX6_init_19 : decode cX6_init 19 = .ok (.dup, 1) := by decide +kernel
theorem dX6_init_20 : decode cX6_init 20 = .ok (.invokespecial 20, 3) := by decide +kernel
theorem dX6_init_23 : decode cX6_init 23 = .ok (.putfield 21, 3) := by decide +kernel
theorem dX6_init_26 : decode cX6_init 26 = .ok (.aload_n 0, 1) := by decide +kernel
theorem dX6_init_27 : decode cX6_init 27 = .ok (.new 25, 3) := by decide +kernel
theorem dX6_init_30 : decode cX6_init 30 = .ok (.dup, 1) := by decide +kernel
theorem dX6_init_31 : decode cX6_init 31 = .ok (.invokespecial 27, 3) := by decide +kernel
theorem dX6_init_34 : decode cX6_init 34 = .ok (.putfield 28, 3) := by decide +kernel
theorem dX6_init_37 : decode cX6_init 37 = .ok (.return_, 1) := by decide +kernel
set_option maxRecDepth 20000 in
theorem ggX6_copyFrom_X7_copyFrom : GoodIn wsX6_copyFrom wsX7_copyFrom := goodIn_r _ [8, 9, 10, 11, 12, 13, 14, 15, 16, 17, 18, 19, 20, 21, 22, 53, 54, 55] (by decide +kernel) (by decide +kernel)
set_option maxRecDepth 20000 in
theorem gX6_copyFrom_X7_copyFrom : GoodIn wsX6_copyFrom (wsV RX6 32 RX7 yX7_copyFrom wsX7_copyFrom) := goodIn_app (goodIn_of _ (by decide +kernel)) ggX6_copyFrom_X7_copyFrom
set_option maxRecDepth 20000 in
theorem ggX6_copyFrom_X5_copyFrom : GoodIn wsX6_copyFrom wsX5_copyFrom := goodIn_r _ [27, 28, 29, 30, 31, 32, 33, 12, 13, 14, 15, 16, 17, 18, 19, 20, 21, 22, 56, 57, 58, 59, 60, 61] (by decide +kernel) (by decide +kernel)
set_option maxRecDepth 20000 in
theorem gX6_copyFrom_X5_copyFrom : GoodIn wsX6_copyFrom (wsV RX6 36 RX5 yX5_copyFrom wsX5_copyFrom) := goodIn_app (goodIn_of _ (by decide +kernel)) ggX6_copyFrom_X5_copyFrom
set_option maxRecDepth 20000 in
theorem ggX6_copyFrom_X0_copyFrom : GoodIn wsX6_copyFrom wsX0_copyFrom := goodIn_r _ [38, 39, 40, 41, 42, 43, 44, 45, 46, 47, 48, 49, 12, 13, 14, 15, 16, 17, 18, 19, 20, 21, 22, 62, 63, 64, 65, 66, 67, 68, 69, 70, 71, 72, 73, 74] (by decide +kernel) (by decide +kernel)
set_option maxRecDepth 20000 in
theorem gX6_copyFrom_X0_copyFrom : GoodIn wsX6_copyFrom (wsV RX6 39 RX0 yX0_copyFrom wsX0_copyFrom) := goodIn_app (goodIn_of _ (by decide +kernel)) ggX6_copyFrom_X0_copyFrom
theorem dX6_copyFrom_0 : decode cX6_copyFrom 0 = .ok (.aload_n 0, 1) := by decide +kernel
theorem dX6_copyFrom_1 : decode cX6_copyFrom 1 = .ok (.getfield 12, 3) := by decide +kernel
theorem dX6_copyFrom_4 : decode cX6_copyFrom 4 = .ok (.aload_n 1, 1) := by decide +kernel
theorem dX6_copyFrom_5 : decode cX6_copyFrom 5 = .ok (.getfield 12, 3) := by decide +kernel
theorem dX6_copyFrom_8 : decode cX6_copyFrom 8 = .ok (.invokevirtual 32, 3) := by decide +kernel
theorem dX6_copyFrom_11 : decode cX6_copyFrom 11 = .ok (.aload_n 0, 1) := by decide +kernel
theorem dX6_copyFrom_12 : decode cX6_copyFrom 12 = .ok (.getfield 21, 3) := by decide +kernel
theorem dX6_copyFrom_15 : decode cX6_copyFrom 15 = .ok (.aload_n 1, 1) := by decide +kernel
theorem dX6_copyFrom_16 : decode cX6_copyFrom 16 = .ok (.getfield 21, 3) := by decide +kernel
theorem dX6_copyFrom_19 : decode cX6_copyFrom 19 = .ok (.invokevirtual 36, 3) := by decide +kernel
theorem dX6_copyFrom_22 : decode cX6_copyFrom 22 = .ok (.aload_n 0, 1) := by decide +kernel
theorem dX6_copyFrom_23 : decode cX6_copyFrom 23 = .ok (.getfield 28, 3) := by decide +kernel
theorem dX6_copyFrom_26 : decode cX6_copyFrom 26 = .ok (.aload_n 1, 1) := by decide +kernel
theorem dX6_copyFrom_27 : decode cX6_copyFrom 27 = .ok (.getfield 28, 3) := by decide +kernel
theorem dX6_copyFrom_30 : decode cX6_copyFrom 30 = .ok (.invokevirtual 39, 3) := by decide +kernel
theorem dX6_copyFrom_33 : decode cX6_copyFrom 33 = .ok (.return_, 1) := by decide +kernel
set_option maxRecDepth 20000 in
theorem ggX6_familyOf_X8_bit : GoodIn wsX6_familyOf wsX8_bit := goodIn_r _ [8] (by decide +kernel) (by decide +kernel)
set_option maxRecDepth 20000 in
theorem gX6_familyOf_X8_bit_n49 : GoodIn wsX6_familyOf (wsX8_bit) := ggX6_familyOf_X8_bit
set_option maxRecDepth 20000 in
theorem ggX6_familyOf_X5_typesOf : GoodIn wsX6_familyOf wsX5_typesOf := goodIn_r _ [13, 14, 15, 16, 7, 17, 6, 8, 34, 35, 36, 37, 38, 39] (by decide +kernel) (by decide +kernel)
set_option maxRecDepth 20000 in
theorem gX6_familyOf_X5_typesOf : GoodIn wsX6_familyOf (wsV RX6 57 RX5 yX5_typesOf wsX5_typesOf) := goodIn_app (goodIn_of _ (by decide +kernel)) ggX6_familyOf_X5_typesOf
set_option maxRecDepth 20000 in
theorem ggX6_familyOf_X7_connectedWith : GoodIn wsX6_familyOf wsX7_connectedWith := goodIn_r _ [22, 23, 24, 40, 41, 42] (by decide +kernel) (by decide +kernel)
set_option maxRecDepth 20000 in
theorem gX6_familyOf_X7_connectedWith : GoodIn wsX6_familyOf (wsV RX6 60 RX7 yX7_connectedWith wsX7_connectedWith) := goodIn_app (goodIn_of _ (by decide +kernel)) ggX6_familyOf_X7_connectedWith
set_option maxRecDepth 20000 in
theorem ggX6_familyOf_X5_withSignature : GoodIn wsX6_familyOf wsX5_withSignature := goodIn_r _ [28, 14, 29, 30, 15, 16, 7, 17, 6, 8, 34, 35, 36, 37, 38, 39] (by decide +kernel) (by decide +kernel)
set_option maxRecDepth 20000 in
theorem gX6_familyOf_X5_withSignature : GoodIn wsX6_familyOf (wsV RX6 63 RX5 yX5_withSignature wsX5_withSignature) := goodIn_app (goodIn_of _ (by decide +kernel)) ggX6_familyOf_X5_withSignature
theorem dX6_familyOf_0 : decode cX6_familyOf 0 = .ok (.aload_n 0, 1) := by decide +kernel
theorem dX6_familyOf_1 : decode cX6_familyOf 1 = .ok (.getfield 21, 3) := by decide +kernel
theorem dX6_familyOf_4 : decode cX6_familyOf 4 = .ok (.getfield 42, 3) := by decide +kernel
theorem dX6_familyOf_7 : decode cX6_familyOf 7 = .ok (.iload_n 1, 1) := by decide +kernel
theorem dX6_familyOf_8 : decode cX6_familyOf 8 = .ok (.iaload, 1) := by decide +kernel
theorem dX6_familyOf_9 : decode cX6_familyOf 9 = .ok (.istore_n 2, 1) := by decide +kernel
theorem dX6_familyOf_10 : decode cX6_familyOf 10 = .ok (.aload_n 0, 1) := by decide +kernel
theorem dX6_familyOf_11 : decode cX6_familyOf 11 = .ok (.getfield 21, 3) := by decide +kernel
theorem dX6_familyOf_14 : decode cX6_familyOf 14 = .ok (.getfield 46, 3) := by decide +kernel
theorem dX6_familyOf_17 : decode cX6_familyOf 17 = .ok (.iload_n 1, 1) := by decide +kernel
theorem dX6_familyOf_18 : decode cX6_familyOf 18 = .ok (.iaload, 1) := by decide +kernel
theorem dX6_familyOf_19 : decode cX6_familyOf 19 = .ok (.istore_n 3, 1) := by decide +kernel
theorem dX6_familyOf_20 : decode cX6_familyOf 20 = .ok (.iload_n 1, 1) := by decide +kernel
theorem dX6_familyOf_21 : decode cX6_familyOf 21 = .ok (.invokestatic 49, 3) := by decide +kernel
theorem dX6_familyOf_24 : decode cX6_familyOf 24 = .ok (.istore 4, 2) := by decide +kernel
theorem dX6_familyOf_26 : decode cX6_familyOf 26 = .ok (.iconst 0, 1) := by decide +kernel
theorem dX6_familyOf_27 : decode cX6_familyOf 27 = .ok (.istore 5, 2) := by decide +kernel
theorem dX6_familyOf_29 : decode cX6_familyOf 29 = .ok (.iload 5, 2) := by decide +kernel
theorem dX6_familyOf_31 : decode cX6_familyOf 31 = .ok (.aload_n 0, 1) := by decide +kernel
theorem dX6_familyOf_32 : decode cX6_familyOf 32 = .ok (.getfield 21, 3) := by decide +kernel
theorem dX6_familyOf_35 : decode cX6_familyOf 35 = .ok (.getfield 53, 3) := by decide +kernel
theorem dX6_familyOf_38 : decode cX6_familyOf 38 = .ok (.if_icmp .ge 54, 3) := by decide +kernel
theorem dX6_familyOf_41 : decode cX6_familyOf 41 = .ok (.aload_n 0, 1) := by decide +kernel
theorem dX6_familyOf_42 : decode cX6_familyOf 42 = .ok (.getfield 12, 3) := by decide +kernel
theorem dX6_familyOf_45 : decode cX6_familyOf 45 = .ok (.aload_n 0, 1) := by decide +kernel
theorem dX6_familyOf_46 : decode cX6_familyOf 46 = .ok (.getfield 21, 3) := by decide +kernel
theorem dX6_familyOf_49 : decode cX6_familyOf 49 = .ok (.iload 4, 2) := by decide +kernel
theorem dX6_familyOf_51 : decode cX6_familyOf 51 = .ok (.invokevirtual 57, 3) := by decide +kernel
theorem dX6_familyOf_54 : decode cX6_familyOf 54 = .ok (.invokevirtual 60, 3) := by decide +kernel
theorem dX6_familyOf_57 : decode cX6_familyOf 57 = .ok (.istore 6, 2) := by decide +kernel
theorem dX6_familyOf_59 : decode cX6_familyOf 59 = .ok (.aload_n 0, 1) := by decide +kernel
theorem dX6_familyOf_60 : decode cX6_familyOf 60 = .ok (.getfield 21, 3) := by decide +kernel
theorem dX6_familyOf_63 : decode cX6_familyOf 63 = .ok (.iload_n 2, 1) := by decide +kernel
theorem dX6_familyOf_64 : decode cX6_familyOf 64 = .ok (.iload_n 3, 1) := by decide +kernel
theorem dX6_familyOf_65 : decode cX6_familyOf 65 = .ok (.iload 6, 2) := by decide +kernel
theorem dX6_familyOf_67 : decode cX6_familyOf 67 = .ok (.invokevirtual 63, 3) := by decide +kernel
theorem dX6_familyOf_70 : decode cX6_familyOf 70 = .ok (.istore 7, 2) := by decide +kernel
theorem dX6_familyOf_72 : decode cX6_familyOf 72 = .ok (.iload 7, 2) := by decide +kernel
theorem dX6_familyOf_74 : decode cX6_familyOf 74 = .ok (.iload 4, 2) := by decide +kernel
theorem dX6_familyOf_76 : decode cX6_familyOf 76 = .ok (.if_icmp .ne 6, 3) := by decide +kernel
theorem dX6_familyOf_79 : decode cX6_familyOf 79 = .ok (.goto 13, 3) := by decide +kernel
theorem dX6_familyOf_82 : decode cX6_familyOf 82 = .ok (.iload 7, 2) := by decide +kernel
theorem dX6_familyOf_84 : decode cX6_familyOf 84 = .ok (.istore 4, 2) := by decide +kernel
theorem dX6_familyOf_86 : decode cX6_familyOf 86 = .ok (.iinc 5 1, 3) := by decide +kernel
theorem dX6_familyOf_89 : decode cX6_familyOf 89 = .ok (.goto (-60), 3) := by decide +kernel
theorem dX6_familyOf_92 : decode cX6_familyOf 92 = .ok (.iload 4, 2) := by decide +kernel
theorem dX6_familyOf_94 : decode cX6_familyOf 94 = .ok (.ireturn, 1) := by decide +kernel
set_option maxRecDepth 20000 in
theorem ggX6_targetFor_X5_withSignature : GoodIn wsX6_targetFor wsX5_withSignature := goodIn_r _ [8, 9, 10, 11, 12, 13, 14, 15, 16, 17, 28, 29, 30, 31, 32, 33] (by decide +kernel) (by decide +kernel)
set_option maxRecDepth 20000 in
theorem gX6_targetFor_X5_withSignature : GoodIn wsX6_targetFor (wsV RX6 63 RX5 yX5_withSignature wsX5_withSignature) := goodIn_app (goodIn_of _ (by decide +kernel)) ggX6_targetFor_X5_withSignature
set_option maxRecDepth 20000 in
theorem ggX6_targetFor_X5_smallest : GoodIn wsX6_targetFor wsX5_smallest := goodIn_r _ [21, 9, 13, 14, 15, 28, 29, 30, 31, 32, 33] (by decide +kernel) (by decide +kernel)
set_option maxRecDepth 20000 in
theorem gX6_targetFor_X5_smallest : GoodIn wsX6_targetFor (wsV RX6 70 RX5 yX5_smallest wsX5_smallest) := goodIn_app (goodIn_of _ (by decide +kernel)) ggX6_targetFor_X5_smallest
theorem dX6_targetFor_0 : decode cX6_targetFor 0 = .ok (.aload_n 0, 1) := by decide +kernel
theorem dX6_targetFor_1 : decode cX6_targetFor 1 = .ok (.getfield 21, 3) := by decide +kernel
theorem dX6_targetFor_4 : decode cX6_targetFor 4 = .ok (.aload_n 0, 1) := by decide +kernel
theorem dX6_targetFor_5 : decode cX6_targetFor 5 = .ok (.getfield 21, 3) := by decide +kernel
theorem dX6_targetFor_8 : decode cX6_targetFor 8 = .ok (.iload_n 2, 1) := by decide +kernel
theorem dX6_targetFor_9 : decode cX6_targetFor 9 = .ok (.iload_n 3, 1) := by decide +kernel
theorem dX6_targetFor_10 : decode cX6_targetFor 10 = .ok (.aload_n 0, 1) := by decide +kernel
theorem dX6_targetFor_11 : decode cX6_targetFor 11 = .ok (.getfield 12, 3) := by decide +kernel
theorem dX6_targetFor_14 : decode cX6_targetFor 14 = .ok (.getfield 67, 3) := by decide +kernel
theorem dX6_targetFor_17 : decode cX6_targetFor 17 = .ok (.iload_n 1, 1) := by decide +kernel
theorem dX6_targetFor_18 : decode cX6_targetFor 18 = .ok (.iaload, 1) := by decide +kernel
theorem dX6_targetFor_19 : decode cX6_targetFor 19 = .ok (.invokevirtual 63, 3) := by decide +kernel
theorem dX6_targetFor_22 : decode cX6_targetFor 22 = .ok (.invokevirtual 70, 3) := by decide +kernel
theorem dX6_targetFor_25 : decode cX6_targetFor 25 = .ok (.ireturn, 1) := by decide +kernel
set_option maxRecDepth 20000 in
theorem ggX6_executedBy_X6_classMethod : GoodIn wsX6_executedBy wsX6_classMethod := goodIn_r _ [14, 6, 15, 1, 16, 17, 18, 19, 20, 21, 22, 23, 24, 25, 26, 27, 28, 29, 30, 31, 32, 33, 34, 35, 36, 37, 57, 58, 59, 79, 80, 81, 60, 61, 62, 63, 64, 65] (by decide +kernel) (by decide +kernel)
set_option maxRecDepth 20000 in
theorem gX6_executedBy_X6_classMethod : GoodIn wsX6_executedBy (wsV RX6 82 RX6 yX6_classMethod wsX6_classMethod) := goodIn_app (goodIn_of _ (by decide +kernel)) ggX6_executedBy_X6_classMethod
set_option maxRecDepth 20000 in
theorem ggX6_executedBy_X6_interfaceMethod : GoodIn wsX6_executedBy wsX6_interfaceMethod := goodIn_r _ [41, 1, 6, 15, 42, 27, 28, 22, 29, 30, 31, 32, 33, 16, 17, 18, 24, 25, 43, 44, 45, 46, 47, 48, 49, 13, 50, 51, 52, 53, 54, 55, 56, 19, 20, 21, 23, 26, 34, 35, 36, 37, 57, 58, 59, 79, 80, 81, 60, 61, 62, 63, 64, 65] (by decide +kernel) (by decide +kernel)
set_option maxRecDepth 20000 in
theorem gX6_executedBy_X6_interfaceMethod : GoodIn wsX6_executedBy (wsV RX6 85 RX6 yX6_interfaceMethod wsX6_interfaceMethod) := goodIn_app (goodIn_of _ (by decide +kernel)) ggX6_executedBy_X6_interfaceMethod
theorem dX6_executedBy_0 : decode cX6_executedBy 0 = .ok (.aload_n 0, 1) := by decide +kernel
theorem dX6_executedBy_1 : decode cX6_executedBy 1 = .ok (.getfield 21, 3) := by decide +kernel
theorem dX6_executedBy_4 : decode cX6_executedBy 4 = .ok (.getfield 42, 3) := by decide +kernel
theorem dX6_executedBy_7 : decode cX6_executedBy 7 = .ok (.aload_n 0, 1) := by decide +kernel
theorem dX6_executedBy_8 : decode cX6_executedBy 8 = .ok (.getfield 28, 3) := by decide +kernel
theorem dX6_executedBy_11 : decode cX6_executedBy 11 = .ok (.getfield 73, 3) := by decide +kernel
theorem dX6_executedBy_14 : decode cX6_executedBy 14 = .ok (.iload_n 1, 1) := by decide +kernel
theorem dX6_executedBy_15 : decode cX6_executedBy 15 = .ok (.iaload, 1) := by decide +kernel
theorem dX6_executedBy_16 : decode cX6_executedBy 16 = .ok (.iaload, 1) := by decide +kernel
theorem dX6_executedBy_17 : decode cX6_executedBy 17 = .ok (.istore_n 2, 1) := by decide +kernel
theorem dX6_executedBy_18 : decode cX6_executedBy 18 = .ok (.aload_n 0, 1) := by decide +kernel
theorem dX6_executedBy_19 : decode cX6_executedBy 19 = .ok (.getfield 21, 3) := by decide +kernel
theorem dX6_executedBy_22 : decode cX6_executedBy 22 = .ok (.getfield 46, 3) := by decide +kernel
theorem dX6_executedBy_25 : decode cX6_executedBy 25 = .ok (.aload_n 0, 1) := by decide +kernel
theorem dX6_executedBy_26 : decode cX6_executedBy 26 = .ok (.getfield 28, 3) := by decide +kernel
theorem dX6_executedBy_29 : decode cX6_executedBy 29 = .ok (.getfield 73, 3) := by decide +kernel
theorem dX6_executedBy_32 : decode cX6_executedBy 32 = .ok (.iload_n 1, 1) := by decide +kernel
theorem dX6_executedBy_33 : decode cX6_executedBy 33 = .ok (.iaload, 1) := by decide +kernel
theorem dX6_executedBy_34 : decode cX6_executedBy 34 = .ok (.iaload, 1) := by decide +kernel
theorem dX6_executedBy_35 : decode cX6_executedBy 35 = .ok (.istore_n 3, 1) := by decide +kernel
theorem dX6_executedBy_36 : decode cX6_executedBy 36 = .ok (.aload_n 0, 1) := by decide +kernel
theorem dX6_executedBy_37 : decode cX6_executedBy 37 = .ok (.getfield 12, 3) := by decide +kernel
theorem dX6_executedBy_40 : decode cX6_executedBy 40 = .ok (.getfield 67, 3) := by decide +kernel
theorem dX6_executedBy_43 : decode cX6_executedBy 43 = .ok (.aload_n 0, 1) := by decide +kernel
theorem dX6_executedBy_44 : decode cX6_executedBy 44 = .ok (.getfield 28, 3) := by decide +kernel
theorem dX6_executedBy_47 : decode cX6_executedBy 47 = .ok (.getfield 76, 3) := by decide +kernel
theorem dX6_executedBy_50 : decode cX6_executedBy 50 = .ok (.iload_n 1, 1) := by decide +kernel
theorem dX6_executedBy_51 : decode cX6_executedBy 51 = .ok (.iaload, 1) := by decide +kernel
theorem dX6_executedBy_52 : decode cX6_executedBy 52 = .ok (.iaload, 1) := by decide +kernel
theorem dX6_executedBy_53 : decode cX6_executedBy 53 = .ok (.istore 4, 2) := by decide +kernel
theorem dX6_executedBy_55 : decode cX6_executedBy 55 = .ok (.aload_n 0, 1) := by decide +kernel
theorem dX6_executedBy_56 : decode cX6_executedBy 56 = .ok (.iload 4, 2) := by decide +kernel
theorem dX6_executedBy_58 : decode cX6_executedBy 58 = .ok (.aload_n 0, 1) := by decide +kernel
theorem dX6_executedBy_59 : decode cX6_executedBy 59 = .ok (.getfield 12, 3) := by decide +kernel
theorem dX6_executedBy_62 : decode cX6_executedBy 62 = .ok (.getfield 79, 3) := by decide +kernel
theorem dX6_executedBy_65 : decode cX6_executedBy 65 = .ok (.iconst (-1), 1) := by decide +kernel
theorem dX6_executedBy_66 : decode cX6_executedBy 66 = .ok (.ixor, 1) := by decide +kernel
theorem dX6_executedBy_67 : decode cX6_executedBy 67 = .ok (.iand, 1) := by decide +kernel
theorem dX6_executedBy_68 : decode cX6_executedBy 68 = .ok (.iload_n 2, 1) := by decide +kernel
theorem dX6_executedBy_69 : decode cX6_executedBy 69 = .ok (.iload_n 3, 1) := by decide +kernel
theorem dX6_executedBy_70 : decode cX6_executedBy 70 = .ok (.invokevirtual 82, 3) := by decide +kernel
theorem dX6_executedBy_73 : decode cX6_executedBy 73 = .ok (.istore 5, 2) := by decide +kernel
theorem dX6_executedBy_75 : decode cX6_executedBy 75 = .ok (.iload 5, 2) := by decide +kernel
theorem dX6_executedBy_77 : decode cX6_executedBy 77 = .ok (.bipush (-9), 2) := by decide +kernel
theorem dX6_executedBy_79 : decode cX6_executedBy 79 = .ok (.if_icmp .eq 8, 3) := by decide +kernel
theorem dX6_executedBy_82 : decode cX6_executedBy 82 = .ok (.iload 5, 2) := by decide +kernel
theorem dX6_executedBy_84 : decode cX6_executedBy 84 = .ok (.goto 19, 3) := by decide +kernel
theorem dX6_executedBy_87 : decode cX6_executedBy 87 = .ok (.aload_n 0, 1) := by decide +kernel
theorem dX6_executedBy_88 : decode cX6_executedBy 88 = .ok (.iload 4, 2) := by decide +kernel
theorem dX6_executedBy_90 : decode cX6_executedBy 90 = .ok (.aload_n 0, 1) := by decide +kernel
theorem dX6_executedBy_91 : decode cX6_executedBy 91 = .ok (.getfield 12, 3) := by decide +kernel
theorem dX6_executedBy_94 : decode cX6_executedBy 94 = .ok (.getfield 79, 3) := by decide +kernel
theorem dX6_executedBy_97 : decode cX6_executedBy 97 = .ok (.iand, 1) := by decide +kernel
theorem dX6_executedBy_98 : decode cX6_executedBy 98 = .ok (.iload_n 2, 1) := by decide +kernel
theorem dX6_executedBy_99 : decode cX6_executedBy 99 = .ok (.iload_n 3, 1) := by decide +kernel
theorem dX6_executedBy_100 : decode cX6_executedBy 100 = .ok (.invokevirtual 85, 3) := by decide +kernel
theorem dX6_executedBy_103 : decode cX6_executedBy 103 = .ok (.ireturn, 1) := by decide +kernel
set_option maxRecDepth 20000 in
theorem ggX6_classMethod_X8_contains : GoodIn wsX6_classMethod wsX8_contains := goodIn_r _ [6] (by decide +kernel) (by decide +kernel)
set_option maxRecDepth 20000 in
theorem gX6_classMethod_X8_contains_n89 : GoodIn wsX6_classMethod (wsX8_contains) := ggX6_classMethod_X8_contains
set_option maxRecDepth 20000 in
theorem ggX6_classMethod_X5_declaredBy : GoodIn wsX6_classMethod wsX5_declaredBy := goodIn_r _ [11, 12, 5, 13, 14, 15, 16, 10, 17, 18, 19, 20, 21, 4, 6, 22, 23, 24, 25, 32, 33, 34, 35, 36, 37] (by decide +kernel) (by decide +kernel)
set_option maxRecDepth 20000 in
theorem gX6_classMethod_X5_declaredBy : GoodIn wsX6_classMethod (wsV RX6 93 RX5 yX5_declaredBy wsX5_declaredBy) := goodIn_app (goodIn_of _ (by decide +kernel)) ggX6_classMethod_X5_declaredBy
theorem dX6_classMethod_0 : decode cX6_classMethod 0 = .ok (.aload_n 0, 1) := by decide +kernel
theorem dX6_classMethod_1 : decode cX6_classMethod 1 = .ok (.getfield 12, 3) := by decide +kernel
theorem dX6_classMethod_4 : decode cX6_classMethod 4 = .ok (.getfield 88, 3) := by decide +kernel
theorem dX6_classMethod_7 : decode cX6_classMethod 7 = .ok (.iconst 1, 1) := by decide +kernel
theorem dX6_classMethod_8 : decode cX6_classMethod 8 = .ok (.isub, 1) := by decide +kernel
theorem dX6_classMethod_9 : decode cX6_classMethod 9 = .ok (.istore 4, 2) := by decide +kernel
theorem dX6_classMethod_11 : decode cX6_classMethod 11 = .ok (.iload 4, 2) := by decide +kernel
theorem dX6_classMethod_13 : decode cX6_classMethod 13 = .ok (.ifCond .lt 46, 3) := by decide +kernel
theorem dX6_classMethod_16 : decode cX6_classMethod 16 = .ok (.iload_n 1, 1) := by decide +kernel
theorem dX6_classMethod_17 : decode cX6_classMethod 17 = .ok (.iload 4, 2) := by decide +kernel
theorem dX6_classMethod_19 : decode cX6_classMethod 19 = .ok (.invokestatic 89, 3) := by decide +kernel
theorem dX6_classMethod_22 : decode cX6_classMethod 22 = .ok (.ifCond .eq 17, 3) := by decide +kernel
theorem dX6_classMethod_25 : decode cX6_classMethod 25 = .ok (.aload_n 0, 1) := by decide +kernel
theorem dX6_classMethod_26 : decode cX6_classMethod 26 = .ok (.getfield 21, 3) := by decide +kernel
theorem dX6_classMethod_29 : decode cX6_classMethod 29 = .ok (.iload 4, 2) := by decide +kernel
theorem dX6_classMethod_31 : decode cX6_classMethod 31 = .ok (.iload_n 2, 1) := by decide +kernel
theorem dX6_classMethod_32 : decode cX6_classMethod 32 = .ok (.iload_n 3, 1) := by decide +kernel
theorem dX6_classMethod_33 : decode cX6_classMethod 33 = .ok (.invokevirtual 93, 3) := by decide +kernel
theorem dX6_classMethod_36 : decode cX6_classMethod 36 = .ok (.goto 5, 3) := by decide +kernel
theorem dX6_classMethod_39 : decode cX6_classMethod 39 = .ok (.bipush (-9), 2) := by decide +kernel
theorem dX6_classMethod_41 : decode cX6_classMethod 41 = .ok (.istore 5, 2) := by decide +kernel
theorem dX6_classMethod_43 : decode cX6_classMethod 43 = .ok (.iload 5, 2) := by decide +kernel
theorem dX6_classMethod_45 : decode cX6_classMethod 45 = .ok (.bipush (-9), 2) := by decide +kernel
theorem dX6_classMethod_47 : decode cX6_classMethod 47 = .ok (.if_icmp .eq 6, 3) := by decide +kernel
theorem dX6_classMethod_50 : decode cX6_classMethod 50 = .ok (.iload 5, 2) := by decide +kernel
theorem dX6_classMethod_52 : decode cX6_classMethod 52 = .ok (.ireturn, 1) := by decide +kernel
theorem dX6_classMethod_53 : decode cX6_classMethod 53 = .ok (.iinc 4 (-1), 3) := by decide +kernel
theorem dX6_classMethod_56 : decode cX6_classMethod 56 = .ok (.goto (-45), 3) := by decide +kernel
theorem dX6_classMethod_59 : decode cX6_classMethod 59 = .ok (.bipush (-9), 2) := by decide +kernel
theorem dX6_classMethod_61 : decode cX6_classMethod 61 = .ok (.ireturn, 1) := by decide +kernel
set_option maxRecDepth 20000 in
theorem ggX6_interfaceMethod_X5_withSignature : GoodIn wsX6_interfaceMethod wsX5_withSignature := goodIn_r _ [8, 9, 10, 11, 12, 13, 14, 15, 16, 17, 48, 49, 50, 51, 52, 53] (by decide +kernel) (by decide +kernel)
set_option maxRecDepth 20000 in
theorem gX6_interfaceMethod_X5_withSignature : GoodIn wsX6_interfaceMethod (wsV RX6 63 RX5 yX5_withSignature wsX5_withSignature) := goodIn_app (goodIn_of _ (by decide +kernel)) ggX6_interfaceMethod_X5_withSignature
set_option maxRecDepth 20000 in
theorem ggX6_interfaceMethod_X5_typesOf : GoodIn wsX6_interfaceMethod wsX5_typesOf := goodIn_r _ [21, 9, 12, 13, 14, 15, 16, 17, 48, 49, 50, 51, 52, 53] (by decide +kernel) (by decide +kernel)
set_option maxRecDepth 20000 in
theorem gX6_interfaceMethod_X5_typesOf : GoodIn wsX6_interfaceMethod (wsV RX6 57 RX5 yX5_typesOf wsX5_typesOf) := goodIn_app (goodIn_of _ (by decide +kernel)) ggX6_interfaceMethod_X5_typesOf
set_option maxRecDepth 20000 in
theorem ggX6_interfaceMethod_X8_contains : GoodIn wsX6_interfaceMethod wsX8_contains := goodIn_r _ [15] (by decide +kernel) (by decide +kernel)
set_option maxRecDepth 20000 in
theorem gX6_interfaceMethod_X8_contains_n89 : GoodIn wsX6_interfaceMethod (wsX8_contains) := ggX6_interfaceMethod_X8_contains
set_option maxRecDepth 20000 in
theorem ggX6_interfaceMethod_X8_bit : GoodIn wsX6_interfaceMethod wsX8_bit := goodIn_r _ [17] (by decide +kernel) (by decide +kernel)
set_option maxRecDepth 20000 in
theorem gX6_interfaceMethod_X8_bit_n49 : GoodIn wsX6_interfaceMethod (wsX8_bit) := ggX6_interfaceMethod_X8_bit
set_option maxRecDepth 20000 in
theorem ggX6_interfaceMethod_X6_hasSubtypeIn : GoodIn wsX6_interfaceMethod wsX6_hasSubtypeIn := goodIn_r _ [26, 2, 3, 13, 14, 15, 27, 28, 29, 30, 31, 32, 42, 43, 44, 45, 46, 47] (by decide +kernel) (by decide +kernel)
set_option maxRecDepth 20000 in
theorem gX6_interfaceMethod_X6_hasSubtypeIn : GoodIn wsX6_interfaceMethod (wsV RX6 96 RX6 yX6_hasSubtypeIn wsX6_hasSubtypeIn) := goodIn_app (goodIn_of _ (by decide +kernel)) ggX6_interfaceMethod_X6_hasSubtypeIn
set_option maxRecDepth 20000 in
theorem ggX6_interfaceMethod_X5_declaredBy : GoodIn wsX6_interfaceMethod wsX5_declaredBy := goodIn_r _ [36, 16, 14, 17, 37, 5, 6, 7, 8, 9, 10, 11, 12, 13, 15, 38, 39, 40, 41, 48, 49, 50, 51, 52, 53] (by decide +kernel) (by decide +kernel)
set_option maxRecDepth 20000 in
theorem gX6_interfaceMethod_X5_declaredBy : GoodIn wsX6_interfaceMethod (wsV RX6 93 RX5 yX5_declaredBy wsX5_declaredBy) := goodIn_app (goodIn_of _ (by decide +kernel)) ggX6_interfaceMethod_X5_declaredBy
theorem dX6_interfaceMethod_0 : decode cX6_interfaceMethod 0 = .ok (.aload_n 0, 1) := by decide +kernel
theorem dX6_interfaceMethod_1 : decode cX6_interfaceMethod 1 = .ok (.getfield 21, 3) := by decide +kernel
theorem dX6_interfaceMethod_4 : decode cX6_interfaceMethod 4 = .ok (.aload_n 0, 1) := by decide +kernel
theorem dX6_interfaceMethod_5 : decode cX6_interfaceMethod 5 = .ok (.getfield 21, 3) := by decide +kernel
theorem dX6_interfaceMethod_8 : decode cX6_interfaceMethod 8 = .ok (.iload_n 2, 1) := by decide +kernel
theorem dX6_interfaceMethod_9 : decode cX6_interfaceMethod 9 = .ok (.iload_n 3, 1) := by decide +kernel
theorem dX6_interfaceMethod_10 : decode cX6_interfaceMethod 10 = .ok (.iload_n 1, 1) := by decide +kernel
theorem dX6_interfaceMethod_11 : decode cX6_interfaceMethod 11 = .ok (.invokevirtual 63, 3) := by decide +kernel
theorem dX6_interfaceMethod_14 : decode cX6_interfaceMethod 14 = .ok (.invokevirtual 57, 3) := by decide +kernel
theorem dX6_interfaceMethod_17 : decode cX6_interfaceMethod 17 = .ok (.istore 4, 2) := by decide +kernel
theorem dX6_interfaceMethod_19 : decode cX6_interfaceMethod 19 = .ok (.iconst 0, 1) := by decide +kernel
theorem dX6_interfaceMethod_20 : decode cX6_interfaceMethod 20 = .ok (.istore 5, 2) := by decide +kernel
theorem dX6_interfaceMethod_22 : decode cX6_interfaceMethod 22 = .ok (.iload 5, 2) := by decide +kernel
theorem dX6_interfaceMethod_24 : decode cX6_interfaceMethod 24 = .ok (.aload_n 0, 1) := by decide +kernel
theorem dX6_interfaceMethod_25 : decode cX6_interfaceMethod 25 = .ok (.getfield 12, 3) := by decide +kernel
theorem dX6_interfaceMethod_28 : decode cX6_interfaceMethod 28 = .ok (.getfield 88, 3) := by decide +kernel
theorem dX6_interfaceMethod_31 : decode cX6_interfaceMethod 31 = .ok (.if_icmp .ge 50, 3) := by decide +kernel
theorem dX6_interfaceMethod_34 : decode cX6_interfaceMethod 34 = .ok (.iload 4, 2) := by decide +kernel
theorem dX6_interfaceMethod_36 : decode cX6_interfaceMethod 36 = .ok (.iload 5, 2) := by decide +kernel
theorem dX6_interfaceMethod_38 : decode cX6_interfaceMethod 38 = .ok (.invokestatic 89, 3) := by decide +kernel
theorem dX6_interfaceMethod_41 : decode cX6_interfaceMethod 41 = .ok (.ifCond .eq 34, 3) := by decide +kernel
theorem dX6_interfaceMethod_44 : decode cX6_interfaceMethod 44 = .ok (.aload_n 0, 1) := by decide +kernel
theorem dX6_interfaceMethod_45 : decode cX6_interfaceMethod 45 = .ok (.iload 4, 2) := by decide +kernel
theorem dX6_interfaceMethod_47 : decode cX6_interfaceMethod 47 = .ok (.iload 5, 2) := by decide +kernel
theorem dX6_interfaceMethod_49 : decode cX6_interfaceMethod 49 = .ok (.invokestatic 49, 3) := by decide +kernel
theorem dX6_interfaceMethod_52 : decode cX6_interfaceMethod 52 = .ok (.iconst (-1), 1) := by decide +kernel
theorem dX6_interfaceMethod_53 : decode cX6_interfaceMethod 53 = .ok (.ixor, 1) := by decide +kernel
theorem dX6_interfaceMethod_54 : decode cX6_interfaceMethod 54 = .ok (.iand, 1) := by decide +kernel
theorem dX6_interfaceMethod_55 : decode cX6_interfaceMethod 55 = .ok (.iload 5, 2) := by decide +kernel
theorem dX6_interfaceMethod_57 : decode cX6_interfaceMethod 57 = .ok (.invokevirtual 96, 3) := by decide +kernel
theorem dX6_interfaceMethod_60 : decode cX6_interfaceMethod 60 = .ok (.ifCond .ne 15, 3) := by decide +kernel
theorem dX6_interfaceMethod_63 : decode cX6_interfaceMethod 63 = .ok (.aload_n 0, 1) := by decide +kernel
theorem dX6_interfaceMethod_64 : decode cX6_interfaceMethod 64 = .ok (.getfield 21, 3) := by decide +kernel
theorem dX6_interfaceMethod_67 : decode cX6_interfaceMethod 67 = .ok (.iload 5, 2) := by decide +kernel
theorem dX6_interfaceMethod_69 : decode cX6_interfaceMethod 69 = .ok (.iload_n 2, 1) := by decide +kernel
theorem dX6_interfaceMethod_70 : decode cX6_interfaceMethod 70 = .ok (.iload_n 3, 1) := by decide +kernel
theorem dX6_interfaceMethod_71 : decode cX6_interfaceMethod 71 = .ok (.invokevirtual 93, 3) := by decide +kernel
theorem dX6_interfaceMethod_74 : decode cX6_interfaceMethod 74 = .ok (.ireturn, 1) := by decide +kernel
theorem dX6_interfaceMethod_75 : decode cX6_interfaceMethod 75 = .ok (.iinc 5 1, 3) := by decide +kernel
theorem dX6_interfaceMethod_78 : decode cX6_interfaceMethod 78 = .ok (.goto (-56), 3) := by decide +kernel
theorem dX6_interfaceMethod_81 : decode cX6_interfaceMethod 81 = .ok (.bipush (-9), 2) := by decide +kernel
theorem dX6_interfaceMethod_83 : decode cX6_interfaceMethod 83 = .ok (.ireturn, 1) := by decide +kernel
set_option maxRecDepth 20000 in
theorem ggX6_hasSubtypeIn_X8_contains : GoodIn wsX6_hasSubtypeIn wsX8_contains := goodIn_r _ [5] (by decide +kernel) (by decide +kernel)
set_option maxRecDepth 20000 in
theorem gX6_hasSubtypeIn_X8_contains_n89 : GoodIn wsX6_hasSubtypeIn (wsX8_contains) := ggX6_hasSubtypeIn_X8_contains
set_option maxRecDepth 20000 in
theorem ggX6_hasSubtypeIn_X7_inherits : GoodIn wsX6_hasSubtypeIn wsX7_inherits := goodIn_r _ [10, 11, 3, 4, 5, 15, 16, 17] (by decide +kernel) (by decide +kernel)
set_option maxRecDepth 20000 in
theorem gX6_hasSubtypeIn_X7_inherits : GoodIn wsX6_hasSubtypeIn (wsV RX6 99 RX7 yX7_inherits wsX7_inherits) := goodIn_app (goodIn_of _ (by decide +kernel)) ggX6_hasSubtypeIn_X7_inherits
theorem dX6_hasSubtypeIn_0 : decode cX6_hasSubtypeIn 0 = .ok (.iconst 0, 1) := by decide +kernel
theorem dX6_hasSubtypeIn_1 : decode cX6_hasSubtypeIn 1 = .ok (.istore_n 3, 1) := by decide +kernel
theorem dX6_hasSubtypeIn_2 : decode cX6_hasSubtypeIn 2 = .ok (.iload_n 3, 1) := by decide +kernel
theorem dX6_hasSubtypeIn_3 : decode cX6_hasSubtypeIn 3 = .ok (.aload_n 0, 1) := by decide +kernel
theorem dX6_hasSubtypeIn_4 : decode cX6_hasSubtypeIn 4 = .ok (.getfield 12, 3) := by decide +kernel
theorem dX6_hasSubtypeIn_7 : decode cX6_hasSubtypeIn 7 = .ok (.getfield 88, 3) := by decide +kernel
theorem dX6_hasSubtypeIn_10 : decode cX6_hasSubtypeIn 10 = .ok (.if_icmp .ge 31, 3) := by decide +kernel
theorem dX6_hasSubtypeIn_13 : decode cX6_hasSubtypeIn 13 = .ok (.iload_n 1, 1) := by decide +kernel
theorem dX6_hasSubtypeIn_14 : decode cX6_hasSubtypeIn 14 = .ok (.iload_n 3, 1) := by decide +kernel
theorem dX6_hasSubtypeIn_15 : decode cX6_hasSubtypeIn 15 = .ok (.invokestatic 89, 3) := by decide +kernel
theorem dX6_hasSubtypeIn_18 : decode cX6_hasSubtypeIn 18 = .ok (.ifCond .eq 17, 3) := by decide +kernel
theorem dX6_hasSubtypeIn_21 : decode cX6_hasSubtypeIn 21 = .ok (.aload_n 0, 1) := by decide +kernel
theorem dX6_hasSubtypeIn_22 : decode cX6_hasSubtypeIn 22 = .ok (.getfield 12, 3) := by decide +kernel
theorem dX6_hasSubtypeIn_25 : decode cX6_hasSubtypeIn 25 = .ok (.iload_n 3, 1) := by decide +kernel
theorem dX6_hasSubtypeIn_26 : decode cX6_hasSubtypeIn 26 = .ok (.iload_n 2, 1) := by decide +kernel
theorem dX6_hasSubtypeIn_27 : decode cX6_hasSubtypeIn 27 = .ok (.invokevirtual 99, 3) := by decide +kernel
theorem dX6_hasSubtypeIn_30 : decode cX6_hasSubtypeIn 30 = .ok (.ifCond .eq 5, 3) := by decide +kernel
theorem dX6_hasSubtypeIn_33 : decode cX6_hasSubtypeIn 33 = .ok (.iconst 1, 1) := by decide +kernel
theorem dX6_hasSubtypeIn_34 : decode cX6_hasSubtypeIn 34 = .ok (.ireturn, 1) := by decide +kernel
theorem dX6_hasSubtypeIn_35 : decode cX6_hasSubtypeIn 35 = .ok (.iinc 3 1, 3) := by decide +kernel
theorem dX6_hasSubtypeIn_38 : decode cX6_hasSubtypeIn 38 = .ok (.goto (-36), 3) := by decide +kernel
theorem dX6_hasSubtypeIn_41 : decode cX6_hasSubtypeIn 41 = .ok (.iconst 0, 1) := by decide +kernel
theorem dX6_hasSubtypeIn_42 : decode cX6_hasSubtypeIn 42 = .ok (.ireturn, 1) := by decide +kernel
set_option maxRecDepth 20000 in
theorem ggX6_clashOf_X5_typesOf : GoodIn wsX6_clashOf wsX5_typesOf := goodIn_r _ [11, 12, 13, 14, 15, 16, 17, 18, 49, 50, 51, 52, 53, 54] (by decide +kernel) (by decide +kernel)
set_option maxRecDepth 20000 in
theorem gX6_clashOf_X5_typesOf : GoodIn wsX6_clashOf (wsV RX6 57 RX5 yX5_typesOf wsX5_typesOf) := goodIn_app (goodIn_of _ (by decide +kernel)) ggX6_clashOf_X5_typesOf
set_option maxRecDepth 20000 in
theorem ggX6_clashOf_X7_connectedWith : GoodIn wsX6_clashOf wsX7_connectedWith := goodIn_r _ [23, 24, 25, 55, 56, 57] (by decide +kernel) (by decide +kernel)
set_option maxRecDepth 20000 in
theorem gX6_clashOf_X7_connectedWith : GoodIn wsX6_clashOf (wsV RX6 60 RX7 yX7_connectedWith wsX7_connectedWith) := goodIn_app (goodIn_of _ (by decide +kernel)) ggX6_clashOf_X7_connectedWith
set_option maxRecDepth 20000 in
theorem ggX6_clashOf_X5_withSignature : GoodIn wsX6_clashOf wsX5_withSignature := goodIn_r _ [29, 12, 30, 31, 13, 14, 15, 16, 17, 18, 49, 50, 51, 52, 53, 54] (by decide +kernel) (by decide +kernel)
set_option maxRecDepth 20000 in
theorem gX6_clashOf_X5_withSignature : GoodIn wsX6_clashOf (wsV RX6 63 RX5 yX5_withSignature wsX5_withSignature) := goodIn_app (goodIn_of _ (by decide +kernel)) ggX6_clashOf_X5_withSignature
set_option maxRecDepth 20000 in
theorem ggX6_clashOf_X5_smallest : GoodIn wsX6_clashOf wsX5_smallest := goodIn_r _ [35, 12, 14, 15, 16, 49, 50, 51, 52, 53, 54] (by decide +kernel) (by decide +kernel)
set_option maxRecDepth 20000 in
theorem gX6_clashOf_X5_smallest : GoodIn wsX6_clashOf (wsV RX6 70 RX5 yX5_smallest wsX5_smallest) := goodIn_app (goodIn_of _ (by decide +kernel)) ggX6_clashOf_X5_smallest
theorem dX6_clashOf_0 : decode cX6_clashOf 0 = .ok (.aload_n 0, 1) := by decide +kernel
theorem dX6_clashOf_1 : decode cX6_clashOf 1 = .ok (.getfield 12, 3) := by decide +kernel
theorem dX6_clashOf_4 : decode cX6_clashOf 4 = .ok (.aload_n 0, 1) := by decide +kernel
theorem dX6_clashOf_5 : decode cX6_clashOf 5 = .ok (.getfield 21, 3) := by decide +kernel
theorem dX6_clashOf_8 : decode cX6_clashOf 8 = .ok (.aload_n 1, 1) := by decide +kernel
theorem dX6_clashOf_9 : decode cX6_clashOf 9 = .ok (.getfield 102, 3) := by decide +kernel
theorem dX6_clashOf_12 : decode cX6_clashOf 12 = .ok (.invokevirtual 57, 3) := by decide +kernel
theorem dX6_clashOf_15 : decode cX6_clashOf 15 = .ok (.invokevirtual 60, 3) := by decide +kernel
theorem dX6_clashOf_18 : decode cX6_clashOf 18 = .ok (.istore_n 2, 1) := by decide +kernel
theorem dX6_clashOf_19 : decode cX6_clashOf 19 = .ok (.aload_n 0, 1) := by decide +kernel
theorem dX6_clashOf_20 : decode cX6_clashOf 20 = .ok (.getfield 21, 3) := by decide +kernel
theorem dX6_clashOf_23 : decode cX6_clashOf 23 = .ok (.aload_n 0, 1) := by decide +kernel
theorem dX6_clashOf_24 : decode cX6_clashOf 24 = .ok (.getfield 21, 3) := by decide +kernel
theorem dX6_clashOf_27 : decode cX6_clashOf 27 = .ok (.getfield 42, 3) := by decide +kernel
theorem dX6_clashOf_30 : decode cX6_clashOf 30 = .ok (.aload_n 1, 1) := by decide +kernel
theorem dX6_clashOf_31 : decode cX6_clashOf 31 = .ok (.getfield 107, 3) := by decide +kernel
theorem dX6_clashOf_34 : decode cX6_clashOf 34 = .ok (.iaload, 1) := by decide +kernel
theorem dX6_clashOf_35 : decode cX6_clashOf 35 = .ok (.aload_n 1, 1) := by decide +kernel
theorem dX6_clashOf_36 : decode cX6_clashOf 36 = .ok (.getfield 110, 3) := by decide +kernel
theorem dX6_clashOf_39 : decode cX6_clashOf 39 = .ok (.iload_n 2, 1) := by decide +kernel
theorem dX6_clashOf_40 : decode cX6_clashOf 40 = .ok (.invokevirtual 63, 3) := by decide +kernel
theorem dX6_clashOf_43 : decode cX6_clashOf 43 = .ok (.istore_n 3, 1) := by decide +kernel
theorem dX6_clashOf_44 : decode cX6_clashOf 44 = .ok (.aload_n 0, 1) := by decide +kernel
theorem dX6_clashOf_45 : decode cX6_clashOf 45 = .ok (.getfield 21, 3) := by decide +kernel
theorem dX6_clashOf_48 : decode cX6_clashOf 48 = .ok (.iload_n 3, 1) := by decide +kernel
theorem dX6_clashOf_49 : decode cX6_clashOf 49 = .ok (.aload_n 1, 1) := by decide +kernel
theorem dX6_clashOf_50 : decode cX6_clashOf 50 = .ok (.getfield 102, 3) := by decide +kernel
theorem dX6_clashOf_53 : decode cX6_clashOf 53 = .ok (.iconst (-1), 1) := by decide +kernel
theorem dX6_clashOf_54 : decode cX6_clashOf 54 = .ok (.ixor, 1) := by decide +kernel
theorem dX6_clashOf_55 : decode cX6_clashOf 55 = .ok (.iand, 1) := by decide +kernel
theorem dX6_clashOf_56 : decode cX6_clashOf 56 = .ok (.invokevirtual 70, 3) := by decide +kernel
theorem dX6_clashOf_59 : decode cX6_clashOf 59 = .ok (.ireturn, 1) := by decide +kernel
set_option maxRecDepth 20000 in
theorem ggX6_bridgesFor_X0_withTargetIn : GoodIn wsX6_bridgesFor wsX0_withTargetIn := goodIn_r _ [8, 9, 10, 11, 12, 13, 14, 15, 42, 43, 44, 45, 46, 47, 48, 49, 50, 51, 52, 53, 54] (by decide +kernel) (by decide +kernel)
set_option maxRecDepth 20000 in
theorem gX6_bridgesFor_X0_withTargetIn : GoodIn wsX6_bridgesFor (wsV RX6 111 RX0 yX0_withTargetIn wsX0_withTargetIn) := goodIn_app (goodIn_of _ (by decide +kernel)) ggX6_bridgesFor_X0_withTargetIn
set_option maxRecDepth 20000 in
theorem ggX6_bridgesFor_X5_typesOf : GoodIn wsX6_bridgesFor wsX5_typesOf := goodIn_r _ [20, 21, 22, 11, 12, 13, 14, 15, 55, 56, 57, 58, 59, 60] (by decide +kernel) (by decide +kernel)
set_option maxRecDepth 20000 in
theorem gX6_bridgesFor_X5_typesOf : GoodIn wsX6_bridgesFor (wsV RX6 57 RX5 yX5_typesOf wsX5_typesOf) := goodIn_app (goodIn_of _ (by decide +kernel)) ggX6_bridgesFor_X5_typesOf
set_option maxRecDepth 20000 in
theorem ggX6_bridgesFor_X8_bit : GoodIn wsX6_bridgesFor wsX8_bit := goodIn_r _ [15] (by decide +kernel) (by decide +kernel)
set_option maxRecDepth 20000 in
theorem gX6_bridgesFor_X8_bit_n49 : GoodIn wsX6_bridgesFor (wsX8_bit) := ggX6_bridgesFor_X8_bit
set_option maxRecDepth 20000 in
theorem ggX6_bridgesFor_J6_bitCount_0f7a4 : GoodIn wsX6_bridgesFor wsJ6_bitCount_0f7a4 := goodIn_r _ [26, 27, 28, 29] (by decide +kernel) (by decide +kernel)
set_option maxRecDepth 20000 in
theorem gX6_bridgesFor_J6_bitCount_0f7a4 : GoodIn wsX6_bridgesFor (va_wsS RX6 117 yJ6_bitCount_0f7a4 wsJ6_bitCount_0f7a4) := goodIn_app (goodIn_of _ (by decide +kernel)) ggX6_bridgesFor_J6_bitCount_0f7a4
set_option maxRecDepth 20000 in
theorem ggX6_bridgesFor_X6_bridgesServe : GoodIn wsX6_bridgesFor wsX6_bridgesServe := goodIn_r _ [34, 1, 35, 36, 37, 38, 11, 12, 13, 39, 40, 41, 42, 43, 44, 45, 46, 47, 48, 49, 50, 51, 52, 53, 54, 61, 62, 63] (by decide +kernel) (by decide +kernel)
set_option maxRecDepth 20000 in
theorem gX6_bridgesFor_X6_bridgesServe : GoodIn wsX6_bridgesFor (wsV RX6 122 RX6 yX6_bridgesServe wsX6_bridgesServe) := goodIn_app (goodIn_of _ (by decide +kernel)) ggX6_bridgesFor_X6_bridgesServe
theorem dX6_bridgesFor_0 : decode cX6_bridgesFor 0 = .ok (.aload_n 0, 1) := by decide +kernel
theorem dX6_bridgesFor_1 : decode cX6_bridgesFor 1 = .ok (.getfield 28, 3) := by decide +kernel
theorem dX6_bridgesFor_4 : decode cX6_bridgesFor 4 = .ok (.iload_n 1, 1) := by decide +kernel
theorem dX6_bridgesFor_5 : decode cX6_bridgesFor 5 = .ok (.invokevirtual 111, 3) := by decide +kernel
theorem dX6_bridgesFor_8 : decode cX6_bridgesFor 8 = .ok (.aload_n 0, 1) := by decide +kernel
theorem dX6_bridgesFor_9 : decode cX6_bridgesFor 9 = .ok (.getfield 28, 3) := by decide +kernel
theorem dX6_bridgesFor_12 : decode cX6_bridgesFor 12 = .ok (.getfield 114, 3) := by decide +kernel
theorem dX6_bridgesFor_15 : decode cX6_bridgesFor 15 = .ok (.iand, 1) := by decide +kernel
theorem dX6_bridgesFor_16 : decode cX6_bridgesFor 16 = .ok (.istore_n 2, 1) := by decide +kernel
theorem dX6_bridgesFor_17 : decode cX6_bridgesFor 17 = .ok (.aload_n 0, 1) := by decide +kernel
theorem dX6_bridgesFor_18 : decode cX6_bridgesFor 18 = .ok (.getfield 21, 3) := by decide +kernel
theorem dX6_bridgesFor_21 : decode cX6_bridgesFor 21 = .ok (.iload_n 1, 1) := by decide +kernel
theorem dX6_bridgesFor_22 : decode cX6_bridgesFor 22 = .ok (.invokevirtual 57, 3) := by decide +kernel
theorem dX6_bridgesFor_25 : decode cX6_bridgesFor 25 = .ok (.istore_n 3, 1) := by decide +kernel
theorem dX6_bridgesFor_26 : decode cX6_bridgesFor 26 = .ok (.iload_n 3, 1) := by decide +kernel
theorem dX6_bridgesFor_27 : decode cX6_bridgesFor 27 = .ok (.istore 4, 2) := by decide +kernel
theorem dX6_bridgesFor_29 : decode cX6_bridgesFor 29 = .ok (.iconst 0, 1) := by decide +kernel
theorem dX6_bridgesFor_30 : decode cX6_bridgesFor 30 = .ok (.istore 5, 2) := by decide +kernel
theorem dX6_bridgesFor_32 : decode cX6_bridgesFor 32 = .ok (.iload 5, 2) := by decide +kernel
theorem dX6_bridgesFor_34 : decode cX6_bridgesFor 34 = .ok (.bipush 8, 2) := by decide +kernel
theorem dX6_bridgesFor_36 : decode cX6_bridgesFor 36 = .ok (.invokestatic 49, 3) := by decide +kernel
theorem dX6_bridgesFor_39 : decode cX6_bridgesFor 39 = .ok (.if_icmp .ge 69, 3) := by decide +kernel
theorem dX6_bridgesFor_42 : decode cX6_bridgesFor 42 = .ok (.iload 5, 2) := by decide +kernel
theorem dX6_bridgesFor_44 : decode cX6_bridgesFor 44 = .ok (.iload_n 3, 1) := by decide +kernel
theorem dX6_bridgesFor_45 : decode cX6_bridgesFor 45 = .ok (.iconst (-1), 1) := by decide +kernel
theorem dX6_bridgesFor_46 : decode cX6_bridgesFor 46 = .ok (.ixor, 1) := by decide +kernel
theorem dX6_bridgesFor_47 : decode cX6_bridgesFor 47 = .ok (.iand, 1) := by decide +kernel
theorem dX6_bridgesFor_48 : decode cX6_bridgesFor 48 = .ok (.ifCond .ne 7, 3) := by decide +kernel
theorem dX6_bridgesFor_51 : decode cX6_bridgesFor 51 = .ok (.iconst 1, 1) := by decide +kernel
theorem dX6_bridgesFor_52 : decode cX6_bridgesFor 52 = .ok (.goto 4, 3) := by decide +kernel
theorem dX6_bridgesFor_55 : decode cX6_bridgesFor 55 = .ok (.iconst 0, 1) := by decide +kernel
theorem dX6_bridgesFor_56 : decode cX6_bridgesFor 56 = .ok (.istore 6, 2) := by decide +kernel
theorem dX6_bridgesFor_58 : decode cX6_bridgesFor 58 = .ok (.iload 5, 2) := by decide +kernel
theorem dX6_bridgesFor_60 : decode cX6_bridgesFor 60 = .ok (.invokestatic 117, 3) := by decide +kernel
theorem dX6_bridgesFor_63 : decode cX6_bridgesFor 63 = .ok (.iload 4, 2) := by decide +kernel
theorem dX6_bridgesFor_65 : decode cX6_bridgesFor 65 = .ok (.invokestatic 117, 3) := by decide +kernel
theorem dX6_bridgesFor_68 : decode cX6_bridgesFor 68 = .ok (.if_icmp .ge 7, 3) := by decide +kernel
theorem dX6_bridgesFor_71 : decode cX6_bridgesFor 71 = .ok (.iconst 1, 1) := by decide +kernel
theorem dX6_bridgesFor_72 : decode cX6_bridgesFor 72 = .ok (.goto 4, 3) := by decide +kernel
theorem dX6_bridgesFor_75 : decode cX6_bridgesFor 75 = .ok (.iconst 0, 1) := by decide +kernel
theorem dX6_bridgesFor_76 : decode cX6_bridgesFor 76 = .ok (.istore 7, 2) := by decide +kernel
theorem dX6_bridgesFor_78 : decode cX6_bridgesFor 78 = .ok (.iload 6, 2) := by decide +kernel
theorem dX6_bridgesFor_80 : decode cX6_bridgesFor 80 = .ok (.ifCond .eq 22, 3) := by decide +kernel
theorem dX6_bridgesFor_83 : decode cX6_bridgesFor 83 = .ok (.iload 7, 2) := by decide +kernel
theorem dX6_bridgesFor_85 : decode cX6_bridgesFor 85 = .ok (.ifCond .eq 17, 3) := by decide +kernel
theorem dX6_bridgesFor_88 : decode cX6_bridgesFor 88 = .ok (.aload_n 0, 1) := by decide +kernel
theorem dX6_bridgesFor_89 : decode cX6_bridgesFor 89 = .ok (.iload 5, 2) := by decide +kernel
theorem dX6_bridgesFor_91 : decode cX6_bridgesFor 91 = .ok (.iload_n 2, 1) := by decide +kernel
theorem dX6_bridgesFor_92 : decode cX6_bridgesFor 92 = .ok (.invokevirtual 122, 3) := by decide +kernel
theorem dX6_bridgesFor_95 : decode cX6_bridgesFor 95 = .ok (.ifCond .eq 7, 3) := by decide +kernel
theorem dX6_bridgesFor_98 : decode cX6_bridgesFor 98 = .ok (.iload 5, 2) := by decide +kernel
theorem dX6_bridgesFor_100 : decode cX6_bridgesFor 100 = .ok (.istore 4, 2) := by decide +kernel
theorem dX6_bridgesFor_102 : decode cX6_bridgesFor 102 = .ok (.iinc 5 1, 3) := by decide +kernel
theorem dX6_bridgesFor_105 : decode cX6_bridgesFor 105 = .ok (.goto (-73), 3) := by decide +kernel
theorem dX6_bridgesFor_108 : decode cX6_bridgesFor 108 = .ok (.iload 4, 2) := by decide +kernel
theorem dX6_bridgesFor_110 : decode cX6_bridgesFor 110 = .ok (.ireturn, 1) := by decide +kernel
set_option maxRecDepth 20000 in
theorem ggX6_bridgesServe_X8_contains : GoodIn wsX6_bridgesServe wsX8_contains := goodIn_r _ [8] (by decide +kernel) (by decide +kernel)
set_option maxRecDepth 20000 in
theorem gX6_bridgesServe_X8_contains_n89 : GoodIn wsX6_bridgesServe (wsX8_contains) := ggX6_bridgesServe_X8_contains
theorem dX6_bridgesServe_0 : decode cX6_bridgesServe 0 = .ok (.iconst 0, 1) := by decide +kernel
theorem dX6_bridgesServe_1 : decode cX6_bridgesServe 1 = .ok (.istore_n 3, 1) := by decide +kernel
theorem dX6_bridgesServe_2 : decode cX6_bridgesServe 2 = .ok (.iload_n 3, 1) := by decide +kernel
theorem dX6_bridgesServe_3 : decode cX6_bridgesServe 3 = .ok (.aload_n 0, 1) := by decide +kernel
theorem dX6_bridgesServe_4 : decode cX6_bridgesServe 4 = .ok (.getfield 28, 3) := by decide +kernel
theorem dX6_bridgesServe_7 : decode cX6_bridgesServe 7 = .ok (.getfield 125, 3) := by decide +kernel
theorem dX6_bridgesServe_10 : decode cX6_bridgesServe 10 = .ok (.if_icmp .ge 53, 3) := by decide +kernel
theorem dX6_bridgesServe_13 : decode cX6_bridgesServe 13 = .ok (.aload_n 0, 1) := by decide +kernel
theorem dX6_bridgesServe_14 : decode cX6_bridgesServe 14 = .ok (.getfield 12, 3) := by decide +kernel
theorem dX6_bridgesServe_17 : decode cX6_bridgesServe 17 = .ok (.getfield 67, 3) := by decide +kernel
theorem dX6_bridgesServe_20 : decode cX6_bridgesServe 20 = .ok (.aload_n 0, 1) := by decide +kernel
theorem dX6_bridgesServe_21 : decode cX6_bridgesServe 21 = .ok (.getfield 28, 3) := by decide +kernel
theorem dX6_bridgesServe_24 : decode cX6_bridgesServe 24 = .ok (.getfield 126, 3) := by decide +kernel
theorem dX6_bridgesServe_27 : decode cX6_bridgesServe 27 = .ok (.iload_n 3, 1) := by decide +kernel
theorem dX6_bridgesServe_28 : decode cX6_bridgesServe 28 = .ok (.iaload, 1) := by decide +kernel
theorem dX6_bridgesServe_29 : decode cX6_bridgesServe 29 = .ok (.iaload, 1) := by decide +kernel
theorem dX6_bridgesServe_30 : decode cX6_bridgesServe 30 = .ok (.iload_n 1, 1) := by decide +kernel
theorem dX6_bridgesServe_31 : decode cX6_bridgesServe 31 = .ok (.iand, 1) := by decide +kernel
theorem dX6_bridgesServe_32 : decode cX6_bridgesServe 32 = .ok (.ifCond .eq 7, 3) := by decide +kernel
theorem dX6_bridgesServe_35 : decode cX6_bridgesServe 35 = .ok (.iconst 1, 1) := by decide +kernel
theorem dX6_bridgesServe_36 : decode cX6_bridgesServe 36 = .ok (.goto 4, 3) := by decide +kernel
theorem dX6_bridgesServe_39 : decode cX6_bridgesServe 39 = .ok (.iconst 0, 1) := by decide +kernel
theorem dX6_bridgesServe_40 : decode cX6_bridgesServe 40 = .ok (.istore 4, 2) := by decide +kernel
theorem dX6_bridgesServe_42 : decode cX6_bridgesServe 42 = .ok (.iload_n 2, 1) := by decide +kernel
theorem dX6_bridgesServe_43 : decode cX6_bridgesServe 43 = .ok (.iload_n 3, 1) := by decide +kernel
theorem dX6_bridgesServe_44 : decode cX6_bridgesServe 44 = .ok (.invokestatic 89, 3) := by decide +kernel
theorem dX6_bridgesServe_47 : decode cX6_bridgesServe 47 = .ok (.ifCond .eq 10, 3) := by decide +kernel
theorem dX6_bridgesServe_50 : decode cX6_bridgesServe 50 = .ok (.iload 4, 2) := by decide +kernel
theorem dX6_bridgesServe_52 : decode cX6_bridgesServe 52 = .ok (.ifCond .ne 5, 3) := by decide +kernel
theorem dX6_bridgesServe_55 : decode cX6_bridgesServe 55 = .ok (.iconst 0, 1) := by decide +kernel
theorem dX6_bridgesServe_56 : decode cX6_bridgesServe 56 = .ok (.ireturn, 1) := by decide +kernel
theorem dX6_bridgesServe_57 : decode cX6_bridgesServe 57 = .ok (.iinc 3 1, 3) := by decide +kernel
theorem dX6_bridgesServe_60 : decode cX6_bridgesServe 60 = .ok (.goto (-58), 3) := by decide +kernel
theorem dX6_bridgesServe_63 : decode cX6_bridgesServe 63 = .ok (.iconst 1, 1) := by decide +kernel
theorem dX6_bridgesServe_64 : decode cX6_bridgesServe 64 = .ok (.ireturn, 1) := by decide +kernel
theorem dX7_init_0 : decode cX7_init 0 = .ok (.aload_n 0, 1) := by decide +kernel
theorem dX7_init_1 : decode cX7_init 1 = .ok (.invokespecial 3, 3) := by decide +kernel
theorem dX7_init_4 : decode cX7_init 4 = .ok (.aload_n 0, 1) := by decide +kernel
theorem dX7_init_5 : decode cX7_init 5 = .ok (.bipush 8, 2) := by decide +kernel
theorem dX7_init_7 : decode cX7_init 7 = .ok (.newarray .int, 2) := by decide +kernel
theorem dX7_init_9 : decode cX7_init 9 = .ok (.putfield 9, 3) := by decide +kernel
theorem dX7_init_12 : decode cX7_init 12 = .ok (.return_, 1) := by decide +kernel
theorem dX7_exists_0 : decode cX7_exists 0 = .ok (.iload_n 1, 1) := by decide +kernel
theorem dX7_exists_1 : decode cX7_exists 1 = .ok (.ifCond .lt 15, 3) := by decide +kernel
theorem dX7_exists_4 : decode cX7_exists 4 = .ok (.iload_n 1, 1) := by decide +kernel
theorem dX7_exists_5 : decode cX7_exists 5 = .ok (.aload_n 0, 1) := by decide +kernel
theorem dX7_exists_6 : decode cX7_exists 6 = .ok (.getfield 15, 3) := by decide +kernel
theorem dX7_exists_9 : decode cX7_exists 9 = .ok (.if_icmp .ge 7, 3) := by decide +kernel
theorem dX7_exists_12 : decode cX7_exists 12 = .ok (.iconst 1, 1) := by decide +kernel
theorem dX7_exists_13 : decode cX7_exists 13 = .ok (.goto 4, 3) := by decide +kernel
theorem dX7_exists_16 : decode cX7_exists 16 = .ok (.iconst 0, 1) := by decide +kernel
theorem dX7_exists_17 : decode cX7_exists 17 = .ok (.ireturn, 1) := by decide +kernel
set_option maxRecDepth 20000 in
theorem ggX7_isClass_X7_exists : GoodIn wsX7_isClass wsX7_exists := goodIn_r _ [6, 7, 11, 12, 13] (by decide +kernel) (by decide +kernel)
set_option maxRecDepth 20000 in
theorem gX7_isClass_X7_exists : GoodIn wsX7_isClass (wsV RX7 19 RX7 yX7_exists wsX7_exists) := goodIn_app (goodIn_of _ (by decide +kernel)) ggX7_isClass_X7_exists
set_option maxRecDepth 20000 in
theorem ggX7_isClass_X8_contains : GoodIn wsX7_isClass wsX8_contains := goodIn_r _ [10] (by decide +kernel) (by decide +kernel)
set_option maxRecDepth 20000 in
theorem gX7_isClass_X8_contains_n26 : GoodIn wsX7_isClass (wsX8_contains) := ggX7_isClass_X8_contains
theorem dX7_isClass_0 : decode cX7_isClass 0 = .ok (.aload_n 0, 1) := by decide +kernel
theorem dX7_isClass_1 : decode cX7_isClass 1 = .ok (.iload_n 1, 1) := by decide +kernel
theorem dX7_isClass_2 : decode cX7_isClass 2 = .ok (.invokevirtual 19, 3) := by decide +kernel
theorem dX7_isClass_5 : decode cX7_isClass 5 = .ok (.ifCond .eq 18, 3) := by decide +kernel
theorem dX7_isClass_8 : decode cX7_isClass 8 = .ok (.aload_n 0, 1) := by decide +kernel
theorem dX7_isClass_9 : decode cX7_isClass 9 = .ok (.getfield 23, 3) := by decide +kernel
theorem dX7_isClass_12 : decode cX7_isClass 12 = .ok (.iload_n 1, 1) := by decide +kernel
theorem dX7_isClass_13 : decode cX7_isClass 13 = .ok (.invokestatic 26, 3) := by decide +kernel
theorem dX7_isClass_16 : decode cX7_isClass 16 = .ok (.ifCond .ne 7, 3) := by decide +kernel
theorem dX7_isClass_19 : decode cX7_isClass 19 = .ok (.iconst 1, 1) := by decide +kernel
theorem dX7_isClass_20 : decode cX7_isClass 20 = .ok (.goto 4, 3) := by decide +kernel
theorem dX7_isClass_23 : decode cX7_isClass 23 = .ok (.iconst 0, 1) := by decide +kernel
theorem dX7_isClass_24 : decode cX7_isClass 24 = .ok (.ireturn, 1) := by decide +kernel
theorem dX7_areInterfaces_0 : decode cX7_areInterfaces 0 = .ok (.iload_n 1, 1) := by decide +kernel
theorem dX7_areInterfaces_1 : decode cX7_areInterfaces 1 = .ok (.aload_n 0, 1) := by decide +kernel
theorem dX7_areInterfaces_2 : decode cX7_areInterfaces 2 = .ok (.getfield 23, 3) := by decide +kernel
theorem dX7_areInterfaces_5 : decode cX7_areInterfaces 5 = .ok (.iconst (-1), 1) := by decide +kernel
theorem dX7_areInterfaces_6 : decode cX7_areInterfaces 6 = .ok (.ixor, 1) := by decide +kernel
theorem dX7_areInterfaces_7 : decode cX7_areInterfaces 7 = .ok (.iand, 1) := by decide +kernel
theorem dX7_areInterfaces_8 : decode cX7_areInterfaces 8 = .ok (.ifCond .ne 7, 3) := by decide +kernel
theorem dX7_areInterfaces_11 : decode cX7_areInterfaces 11 = .ok (.iconst 1, 1) := by decide +kernel
theorem dX7_areInterfaces_12 : decode cX7_areInterfaces 12 = .ok (.goto 4, 3) := by decide +kernel
theorem dX7_areInterfaces_15 : decode cX7_areInterfaces 15 = .ok (.iconst 0, 1) := by decide +kernel
theorem dX7_areInterfaces_16 : decode cX7_areInterfaces 16 = .ok (.ireturn, 1) := by decide +kernel
set_option maxRecDepth 20000 in
theorem ggX7_allowsSuperclass_X7_isClass : GoodIn wsX7_allowsSuperclass wsX7_isClass := goodIn_r _ [5, 6, 7, 8, 9, 4, 10, 11, 12, 13, 14, 15, 16, 17] (by decide +kernel) (by decide +kernel)
set_option maxRecDepth 20000 in
theorem gX7_allowsSuperclass_X7_isClass : GoodIn wsX7_allowsSuperclass (wsV RX7 30 RX7 yX7_isClass wsX7_isClass) := goodIn_app (goodIn_of _ (by decide +kernel)) ggX7_allowsSuperclass_X7_isClass
theorem dX7_allowsSuperclass_0 : decode cX7_allowsSuperclass 0 = .ok (.iload_n 2, 1) := by decide +kernel
theorem dX7_allowsSuperclass_1 : decode cX7_allowsSuperclass 1 = .ok (.iconst (-1), 1) := by decide +kernel
theorem dX7_allowsSuperclass_2 : decode cX7_allowsSuperclass 2 = .ok (.if_icmp .ne 18, 3) := by decide +kernel
theorem dX7_allowsSuperclass_5 : decode cX7_allowsSuperclass 5 = .ok (.iload_n 1, 1) := by decide +kernel
theorem dX7_allowsSuperclass_6 : decode cX7_allowsSuperclass 6 = .ok (.ifCond .eq 8, 3) := by decide +kernel
theorem dX7_allowsSuperclass_9 : decode cX7_allowsSuperclass 9 = .ok (.iload_n 1, 1) := by decide +kernel
theorem dX7_allowsSuperclass_10 : decode cX7_allowsSuperclass 10 = .ok (.iconst 1, 1) := by decide +kernel
theorem dX7_allowsSuperclass_11 : decode cX7_allowsSuperclass 11 = .ok (.if_icmp .ne 7, 3) := by decide +kernel
theorem dX7_allowsSuperclass_14 : decode cX7_allowsSuperclass 14 = .ok (.iconst 1, 1) := by decide +kernel
theorem dX7_allowsSuperclass_15 : decode cX7_allowsSuperclass 15 = .ok (.goto 4, 3) := by decide +kernel
theorem dX7_allowsSuperclass_18 : decode cX7_allowsSuperclass 18 = .ok (.iconst 0, 1) := by decide +kernel
theorem dX7_allowsSuperclass_19 : decode cX7_allowsSuperclass 19 = .ok (.ireturn, 1) := by decide +kernel
theorem dX7_allowsSuperclass_20 : decode cX7_allowsSuperclass 20 = .ok (.iload_n 1, 1) := by decide +kernel
theorem dX7_allowsSuperclass_21 : decode cX7_allowsSuperclass 21 = .ok (.ifCond .ne 15, 3) := by decide +kernel
theorem dX7_allowsSuperclass_24 : decode cX7_allowsSuperclass 24 = .ok (.aload_n 0, 1) := by decide +kernel
theorem dX7_allowsSuperclass_25 : decode cX7_allowsSuperclass 25 = .ok (.iload_n 2, 1) := by decide +kernel
theorem dX7_allowsSuperclass_26 : decode cX7_allowsSuperclass 26 = .ok (.invokevirtual 30, 3) := by decide +kernel
theorem dX7_allowsSuperclass_29 : decode cX7_allowsSuperclass 29 = .ok (.ifCond .eq 7, 3) := by decide +kernel
theorem dX7_allowsSuperclass_32 : decode cX7_allowsSuperclass 32 = .ok (.iconst 1, 1) := by decide +kernel
theorem dX7_allowsSuperclass_33 : decode cX7_allowsSuperclass 33 = .ok (.goto 4, 3) := by decide +kernel
theorem dX7_allowsSuperclass_36 : decode cX7_allowsSuperclass 36 = .ok (.iconst 0, 1) := by decide +kernel
theorem dX7_allowsSuperclass_37 : decode cX7_allowsSuperclass 37 = .ok (.ireturn, 1) := by decide +kernel
set_option maxRecDepth 20000 in
theorem ggX7_inherits_X8_contains : GoodIn wsX7_inherits wsX8_contains := goodIn_r _ [4] (by decide +kernel) (by decide +kernel)
set_option maxRecDepth 20000 in
theorem gX7_inherits_X8_contains_n26 : GoodIn wsX7_inherits (wsX8_contains) := ggX7_inherits_X8_contains
theorem dX7_inherits_0 : decode cX7_inherits 0 = .ok (.aload_n 0, 1) := by decide +kernel
theorem dX7_inherits_1 : decode cX7_inherits 1 = .ok (.getfield 9, 3) := by decide +kernel
theorem dX7_inherits_4 : decode cX7_inherits 4 = .ok (.iload_n 1, 1) := by decide +kernel
theorem dX7_inherits_5 : decode cX7_inherits 5 = .ok (.iaload, 1) := by decide +kernel
theorem dX7_inherits_6 : decode cX7_inherits 6 = .ok (.iload_n 2, 1) := by decide +kernel
theorem dX7_inherits_7 : decode cX7_inherits 7 = .ok (.invokestatic 26, 3) := by decide +kernel
theorem dX7_inherits_10 : decode cX7_inherits 10 = .ok (.ireturn, 1) := by decide +kernel
set_option maxRecDepth 20000 in
theorem ggX7_inheritedFrom_X8_contains : GoodIn wsX7_inheritedFrom wsX8_contains := goodIn_r _ [5] (by decide +kernel) (by decide +kernel)
set_option maxRecDepth 20000 in
theorem gX7_inheritedFrom_X8_contains_n26 : GoodIn wsX7_inheritedFrom (wsX8_contains) := ggX7_inheritedFrom_X8_contains
theorem dX7_inheritedFrom_0 : decode cX7_inheritedFrom 0 = .ok (.iload_n 1, 1) := by decide +kernel
theorem dX7_inheritedFrom_1 : decode cX7_inheritedFrom 1 = .ok (.iconst (-1), 1) := by decide +kernel
theorem dX7_inheritedFrom_2 : decode cX7_inheritedFrom 2 = .ok (.if_icmp .ne 7, 3) := by decide +kernel
theorem dX7_inheritedFrom_5 : decode cX7_inheritedFrom 5 = .ok (.iconst 0, 1) := by decide +kernel
theorem dX7_inheritedFrom_6 : decode cX7_inheritedFrom 6 = .ok (.goto 9, 3) := by decide +kernel
theorem dX7_inheritedFrom_9 : decode cX7_inheritedFrom 9 = .ok (.aload_n 0, 1) := by decide +kernel
theorem dX7_inheritedFrom_10 : decode cX7_inheritedFrom 10 = .ok (.getfield 9, 3) := by decide +kernel
theorem dX7_inheritedFrom_13 : decode cX7_inheritedFrom 13 = .ok (.iload_n 1, 1) := by decide +kernel
theorem dX7_inheritedFrom_14 : decode cX7_inheritedFrom 14 = .ok (.iaload, 1) := by decide +kernel
theorem dX7_inheritedFrom_15 : decode cX7_inheritedFrom 15 = .ok (.istore_n 3, 1) := by decide +kernel
theorem dX7_inheritedFrom_16 : decode cX7_inheritedFrom 16 = .ok (.iconst 0, 1) := by decide +kernel
theorem dX7_inheritedFrom_17 : decode cX7_inheritedFrom 17 = .ok (.istore 4, 2) := by decide +kernel
theorem dX7_inheritedFrom_19 : decode cX7_inheritedFrom 19 = .ok (.iload 4, 2) := by decide +kernel
theorem dX7_inheritedFrom_21 : decode cX7_inheritedFrom 21 = .ok (.aload_n 0, 1) := by decide +kernel
theorem dX7_inheritedFrom_22 : decode cX7_inheritedFrom 22 = .ok (.getfield 15, 3) := by decide +kernel
theorem dX7_inheritedFrom_25 : decode cX7_inheritedFrom 25 = .ok (.if_icmp .ge 28, 3) := by decide +kernel
theorem dX7_inheritedFrom_28 : decode cX7_inheritedFrom 28 = .ok (.iload_n 2, 1) := by decide +kernel
theorem dX7_inheritedFrom_29 : decode cX7_inheritedFrom 29 = .ok (.iload 4, 2) := by decide +kernel
theorem dX7_inheritedFrom_31 : decode cX7_inheritedFrom 31 = .ok (.invokestatic 26, 3) := by decide +kernel
theorem dX7_inheritedFrom_34 : decode cX7_inheritedFrom 34 = .ok (.ifCond .eq 13, 3) := by decide +kernel
theorem dX7_inheritedFrom_37 : decode cX7_inheritedFrom 37 = .ok (.iload_n 3, 1) := by decide +kernel
theorem dX7_inheritedFrom_38 : decode cX7_inheritedFrom 38 = .ok (.aload_n 0, 1) := by decide +kernel
theorem dX7_inheritedFrom_39 : decode cX7_inheritedFrom 39 = .ok (.getfield 9, 3) := by decide +kernel
theorem dX7_inheritedFrom_42 : decode cX7_inheritedFrom 42 = .ok (.iload 4, 2) := by decide +kernel
theorem dX7_inheritedFrom_44 : decode cX7_inheritedFrom 44 = .ok (.iaload, 1) := by decide +kernel
theorem dX7_inheritedFrom_45 : decode cX7_inheritedFrom 45 = .ok (.ior, 1) := by decide +kernel
theorem dX7_inheritedFrom_46 : decode cX7_inheritedFrom 46 = .ok (.istore_n 3, 1) := by decide +kernel
theorem dX7_inheritedFrom_47 : decode cX7_inheritedFrom 47 = .ok (.iinc 4 1, 3) := by decide +kernel
theorem dX7_inheritedFrom_50 : decode cX7_inheritedFrom 50 = .ok (.goto (-31), 3) := by decide +kernel
theorem dX7_inheritedFrom_53 : decode cX7_inheritedFrom 53 = .ok (.iload_n 3, 1) := by decide +kernel
theorem dX7_inheritedFrom_54 : decode cX7_inheritedFrom 54 = .ok (.ireturn, 1) := by decide +kernel
set_option maxRecDepth 20000 in
theorem ggX7_add_X8_bit : GoodIn wsX7_add wsX8_bit := goodIn_r _ [6] (by decide +kernel) (by decide +kernel)
set_option maxRecDepth 20000 in
theorem gX7_add_X8_bit_n33 : GoodIn wsX7_add (wsX8_bit) := ggX7_add_X8_bit
theorem dX7_add_0 : decode cX7_add 0 = .ok (.aload_n 0, 1) := by decide +kernel
theorem dX7_add_1 : decode cX7_add 1 = .ok (.getfield 15, 3) := by decide +kernel
theorem dX7_add_4 : decode cX7_add 4 = .ok (.istore_n 3, 1) := by decide +kernel
theorem dX7_add_5 : decode cX7_add 5 = .ok (.aload_n 0, 1) := by decide +kernel
theorem dX7_add_6 : decode cX7_add 6 = .ok (.getfield 9, 3) := by decide +kernel
theorem dX7_add_9 : decode cX7_add 9 = .ok (.iload_n 3, 1) := by decide +kernel
theorem dX7_add_10 : decode cX7_add 10 = .ok (.iload_n 2, 1) := by decide +kernel
theorem dX7_add_11 : decode cX7_add 11 = .ok (.iload_n 3, 1) := by decide +kernel
theorem dX7_add_12 : decode cX7_add 12 = .ok (.invokestatic 33, 3) := by decide +kernel
theorem dX7_add_15 : decode cX7_add 15 = .ok (.ior, 1) := by decide +kernel
theorem dX7_add_16 : decode cX7_add 16 = .ok (.iastore, 1) := by decide +kernel
theorem dX7_add_17 : decode cX7_add 17 = .ok (.iload_n 1, 1) := by decide +kernel
theorem dX7_add_18 : decode cX7_add 18 = .ok (.iconst 1, 1) := by decide +kernel
theorem dX7_add_19 : decode cX7_add 19 = .ok (.if_icmp .ne 16, 3) := by decide +kernel
theorem dX7_add_22 : decode cX7_add 22 = .ok (.aload_n 0, 1) := by decide +kernel
theorem dX7_add_23 : decode cX7_add 23 = .ok (.dup, 1) := by decide +kernel
theorem dX7_add_24 : decode cX7_add 24 = .ok (.getfield 23, 3) := by decide +kernel
theorem dX7_add_27 : decode cX7_add 27 = .ok (.iload_n 3, 1) := by decide +kernel
theorem dX7_add_28 : decode cX7_add 28 = .ok (.invokestatic 33, 3) := by decide +kernel
theorem dX7_add_31 : decode cX7_add 31 = .ok (.ior, 1) := by decide +kernel
theorem dX7_add_32 : decode cX7_add 32 = .ok (.putfield 23, 3) := by decide +kernel
theorem dX7_add_35 : decode cX7_add 35 = .ok (.aload_n 0, 1) := by decide +kernel
theorem dX7_add_36 : decode cX7_add 36 = .ok (.dup, 1) := by decide +kernel
theorem dX7_add_37 : decode cX7_add 37 = .ok (.getfield 15, 3) := by decide +kernel
theorem dX7_add_40 : decode cX7_add 40 = .ok (.iconst 1, 1) := by decide +kernel
theorem dX7_add_41 : decode cX7_add 41 = .ok (.iadd, 1) := by decide +kernel
theorem dX7_add_42 : decode cX7_add 42 = .ok (.putfield 15, 3) := by decide +kernel
theorem dX7_add_45 : decode cX7_add 45 = .ok (.iload_n 3, 1) := by decide +kernel
theorem dX7_add_46 : decode cX7_add 46 = .ok (.ireturn, 1) := by decide +kernel
theorem dX7_connectedWith_0 : decode cX7_connectedWith 0 = .ok (.iconst 0, 1) := by decide +kernel
theorem dX7_connectedWith_1 : decode cX7_connectedWith 1 = .ok (.istore_n 2, 1) := by decide +kernel
theorem dX7_connectedWith_2 : decode cX7_connectedWith 2 = .ok (.iconst 0, 1) := by decide +kernel
theorem dX7_connectedWith_3 : decode cX7_connectedWith 3 = .ok (.istore_n 3, 1) := by decide +kernel
theorem dX7_connectedWith_4 : decode cX7_connectedWith 4 = .ok (.iload_n 3, 1) := by decide +kernel
theorem dX7_connectedWith_5 : decode cX7_connectedWith 5 = .ok (.aload_n 0, 1) := by decide +kernel
theorem dX7_connectedWith_6 : decode cX7_connectedWith 6 = .ok (.getfield 15, 3) := by decide +kernel
theorem dX7_connectedWith_9 : decode cX7_connectedWith 9 = .ok (.if_icmp .ge 29, 3) := by decide +kernel
theorem dX7_connectedWith_12 : decode cX7_connectedWith 12 = .ok (.aload_n 0, 1) := by decide +kernel
theorem dX7_connectedWith_13 : decode cX7_connectedWith 13 = .ok (.getfield 9, 3) := by decide +kernel
theorem dX7_connectedWith_16 : decode cX7_connectedWith 16 = .ok (.iload_n 3, 1) := by decide +kernel
theorem dX7_connectedWith_17 : decode cX7_connectedWith 17 = .ok (.iaload, 1) := by decide +kernel
theorem dX7_connectedWith_18 : decode cX7_connectedWith 18 = .ok (.iload_n 1, 1) := by decide +kernel
theorem dX7_connectedWith_19 : decode cX7_connectedWith 19 = .ok (.iand, 1) := by decide +kernel
theorem dX7_connectedWith_20 : decode cX7_connectedWith 20 = .ok (.ifCond .eq 12, 3) := by decide +kernel
theorem dX7_connectedWith_23 : decode cX7_connectedWith 23 = .ok (.iload_n 2, 1) := by decide +kernel
theorem dX7_connectedWith_24 : decode cX7_connectedWith 24 = .ok (.aload_n 0, 1) := by decide +kernel
theorem dX7_connectedWith_25 : decode cX7_connectedWith 25 = .ok (.getfield 9, 3) := by decide +kernel
theorem dX7_connectedWith_28 : decode cX7_connectedWith 28 = .ok (.iload_n 3, 1) := by decide +kernel
theorem dX7_connectedWith_29 : decode cX7_connectedWith 29 = .ok (.iaload, 1) := by decide +kernel
theorem dX7_connectedWith_30 : decode cX7_connectedWith 30 = .ok (.ior, 1) := by decide +kernel
theorem dX7_connectedWith_31 : decode cX7_connectedWith 31 = .ok (.istore_n 2, 1) := by decide +kernel
theorem dX7_connectedWith_32 : decode cX7_connectedWith 32 = .ok (.iinc 3 1, 3) := by decide +kernel
theorem dX7_connectedWith_35 : decode cX7_connectedWith 35 = .ok (.goto (-31), 3) := by decide +kernel
theorem dX7_connectedWith_38 : decode cX7_connectedWith 38 = .ok (.iload_n 2, 1) := by decide +kernel
theorem dX7_connectedWith_39 : decode cX7_connectedWith 39 = .ok (.ireturn, 1) := by decide +kernel
set_option maxRecDepth 20000 in
theorem ggX7_copyFrom_X8_copyRow : GoodIn wsX7_copyFrom wsX8_copyRow := goodIn_r _ [6, 7, 8, 9, 10, 11, 12, 13, 14] (by decide +kernel) (by decide +kernel)
set_option maxRecDepth 20000 in
theorem gX7_copyFrom_X8_copyRow_n37 : GoodIn wsX7_copyFrom (wsX8_copyRow) := ggX7_copyFrom_X8_copyRow
theorem dX7_copyFrom_0 : decode cX7_copyFrom 0 = .ok (.aload_n 0, 1) := by decide +kernel
theorem dX7_copyFrom_1 : decode cX7_copyFrom 1 = .ok (.aload_n 1, 1) := by decide +kernel
theorem dX7_copyFrom_2 : decode cX7_copyFrom 2 = .ok (.getfield 15, 3) := by decide +kernel
theorem dX7_copyFrom_5 : decode cX7_copyFrom 5 = .ok (.putfield 15, 3) := by decide +kernel
theorem dX7_copyFrom_8 : decode cX7_copyFrom 8 = .ok (.aload_n 0, 1) := by decide +kernel
theorem dX7_copyFrom_9 : decode cX7_copyFrom 9 = .ok (.aload_n 1, 1) := by decide +kernel
theorem dX7_copyFrom_10 : decode cX7_copyFrom 10 = .ok (.getfield 23, 3) := by decide +kernel
theorem dX7_copyFrom_13 : decode cX7_copyFrom 13 = .ok (.putfield 23, 3) := by decide +kernel
theorem dX7_copyFrom_16 : decode cX7_copyFrom 16 = .ok (.aload_n 1, 1) := by decide +kernel
theorem dX7_copyFrom_17 : decode cX7_copyFrom 17 = .ok (.getfield 9, 3) := by decide +kernel
theorem dX7_copyFrom_20 : decode cX7_copyFrom 20 = .ok (.aload_n 0, 1) := by decide +kernel
theorem dX7_copyFrom_21 : decode cX7_copyFrom 21 = .ok (.getfield 9, 3) := by decide +kernel
theorem dX7_copyFrom_24 : decode cX7_copyFrom 24 = .ok (.invokestatic 37, 3) := by decide +kernel
theorem dX7_copyFrom_27 : decode cX7_copyFrom 27 = .ok (.return_, 1) := by decide +kernel
set_option maxRecDepth 20000 in
theorem ggX8_init_X6_init : GoodIn wsX8_init wsX6_init := goodIn_r _ [27, 28, 2, 3, 29, 30, 31, 32, 33, 34, 35, 36, 37, 38, 39, 40, 41, 42, 43, 24, 44, 45, 46, 47, 48, 49, 50, 51, 52, 53, 54, 55, 56, 57, 58, 59, 60, 61, 62, 63, 64, 65, 66, 118, 119, 120, 89, 90, 91, 121, 122, 123, 124, 125, 126, 127, 128, 129, 130, 131, 132, 133, 134, 135, 136, 137, 138, 139] (by decide +kernel) (by decide +kernel)
set_option maxRecDepth 20000 in
theorem gX8_init_X6_init_n9 : GoodIn wsX8_init (wsX6_init) := ggX8_init_X6_init
set_option maxRecDepth 20000 in
theorem ggX8_init_X1_init : GoodIn wsX8_init wsX1_init := goodIn_r _ [68, 69, 2, 3, 24, 70, 71, 72, 98, 99, 100, 101, 102, 103, 104, 105, 106, 107] (by decide +kernel) (by decide +kernel)
set_option maxRecDepth 20000 in
theorem gX8_init_X1_init_n18 : GoodIn wsX8_init (wsX1_init) := ggX8_init_X1_init
set_option maxRecDepth 20000 in
theorem ggX8_init_X3_init : GoodIn wsX8_init wsX3_init := goodIn_r _ [75, 76, 2, 3, 77, 78, 5, 6, 26, 27, 28, 29, 30, 31, 32, 33, 34, 35, 36, 37, 38, 39, 40, 41, 42, 43, 24, 44, 45, 46, 47, 48, 49, 50, 51, 52, 53, 54, 55, 56, 57, 58, 59, 60, 61, 62, 63, 64, 65, 66, 108, 109, 110, 89, 90, 91, 118, 119, 120, 121, 122, 123, 124, 125, 126, 127, 128, 129, 130, 131, 132, 133, 134, 135, 136, 137, 138, 139] (by decide +kernel) (by decide +kernel)
set_option maxRecDepth 20000 in
theorem gX8_init_X3_init : GoodIn wsX8_init (wsX3_init) := ggX8_init_X3_init
set_option maxRecDepth 20000 in
theorem ggX8_init_X2_init : GoodIn wsX8_init wsX2_init := goodIn_r _ [80, 81, 2, 3, 24, 82, 83, 111, 112, 113] (by decide +kernel) (by decide +kernel)
set_option maxRecDepth 20000 in
theorem gX8_init_X2_init_n32 : GoodIn wsX8_init (wsX2_init) := ggX8_init_X2_init
set_option maxRecDepth 20000 in
theorem ggX8_init_X4_init : GoodIn wsX8_init wsX4_init := goodIn_r _ [85, 86, 2, 3, 24, 87, 88, 114, 115, 116, 117] (by decide +kernel) (by decide +kernel)
set_option maxRecDepth 20000 in
theorem gX8_init_X4_init_n39 : GoodIn wsX8_init (wsX4_init) := ggX8_init_X4_init
