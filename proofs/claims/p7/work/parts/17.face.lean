abbrev b_CO_isKind : ByteArray := prog_1_method_10_code
abbrev y_CO_isKind : MethodName := ⟨"CharOutlines", "isKind", "(I)Z"⟩
set_option maxRecDepth 100000 in
theorem cal_CO_isKind : CalS gd_tbl y_CO_isKind b_CO_isKind 1 (some .boolean) 1 := ⟨⟨List.mem_filter.mpr ⟨List.mem_of_getElem? (i := 411) rfl, rfl⟩, List.mem_filter.mpr ⟨List.mem_of_getElem? (i := 60) rfl, rfl⟩, ⟨by decide, by decide⟩, by decide +kernel⟩, List.mem_filter.mpr ⟨List.mem_of_getElem? (i := 410) rfl, rfl⟩⟩
theorem d_CO_isKind_0 : decode b_CO_isKind 0 = .ok (.iload_n 0, 1) := by decide +kernel
theorem d_CO_isKind_1 : decode b_CO_isKind 1 = .ok (.ifCond .lt 12, 3) := by decide +kernel
theorem d_CO_isKind_4 : decode b_CO_isKind 4 = .ok (.iload_n 0, 1) := by decide +kernel
theorem d_CO_isKind_5 : decode b_CO_isKind 5 = .ok (.iconst 2, 1) := by decide +kernel
theorem d_CO_isKind_6 : decode b_CO_isKind 6 = .ok (.if_icmp .gt 7, 3) := by decide +kernel
theorem d_CO_isKind_9 : decode b_CO_isKind 9 = .ok (.iconst 1, 1) := by decide +kernel
theorem d_CO_isKind_10 : decode b_CO_isKind 10 = .ok (.goto 4, 3) := by decide +kernel
theorem d_CO_isKind_13 : decode b_CO_isKind 13 = .ok (.iconst 0, 1) := by decide +kernel
theorem d_CO_isKind_14 : decode b_CO_isKind 14 = .ok (.ireturn, 1) := by decide +kernel
abbrev b_CO_feed : ByteArray := prog_1_method_2_code
abbrev y_CO_feed : MethodName := ⟨"CharOutlines", "feed", "(IIIII)I"⟩
set_option maxRecDepth 100000 in
theorem cal_CO_feed : CalV gd_tbl "CharOutlines" y_CO_feed b_CO_feed 6 (some .int) 5 := ⟨⟨List.mem_filter.mpr ⟨List.mem_of_getElem? (i := 242) rfl, rfl⟩, List.mem_filter.mpr ⟨List.mem_of_getElem? (i := 60) rfl, rfl⟩, ⟨by decide, by decide⟩, by decide +kernel⟩, List.mem_filter.mpr ⟨List.mem_of_getElem? (i := 240) rfl, rfl⟩, List.mem_filter.mpr ⟨List.mem_of_getElem? (i := 241) rfl, rfl⟩⟩
theorem d_CO_feed_0 : decode b_CO_feed 0 = .ok (.aload_n 0, 1) := by decide +kernel
theorem d_CO_feed_1 : decode b_CO_feed 1 = .ok (.getfield 10, 3) := by decide +kernel
theorem d_CO_feed_4 : decode b_CO_feed 4 = .ok (.invokevirtual 23, 3) := by decide +kernel
theorem d_CO_feed_7 : decode b_CO_feed 7 = .ok (.sipush 16364, 3) := by decide +kernel
theorem d_CO_feed_10 : decode b_CO_feed 10 = .ok (.if_icmp .le 5, 3) := by decide +kernel
theorem d_CO_feed_13 : decode b_CO_feed 13 = .ok (.iconst (-1), 1) := by decide +kernel
theorem d_CO_feed_14 : decode b_CO_feed 14 = .ok (.ireturn, 1) := by decide +kernel
theorem d_CO_feed_15 : decode b_CO_feed 15 = .ok (.aload_n 0, 1) := by decide +kernel
theorem d_CO_feed_16 : decode b_CO_feed 16 = .ok (.getfield 10, 3) := by decide +kernel
theorem d_CO_feed_19 : decode b_CO_feed 19 = .ok (.iload_n 1, 1) := by decide +kernel
theorem d_CO_feed_20 : decode b_CO_feed 20 = .ok (.invokevirtual 27, 3) := by decide +kernel
theorem d_CO_feed_23 : decode b_CO_feed 23 = .ok (.aload_n 0, 1) := by decide +kernel
theorem d_CO_feed_24 : decode b_CO_feed 24 = .ok (.getfield 10, 3) := by decide +kernel
theorem d_CO_feed_27 : decode b_CO_feed 27 = .ok (.iload_n 2, 1) := by decide +kernel
theorem d_CO_feed_28 : decode b_CO_feed 28 = .ok (.invokevirtual 27, 3) := by decide +kernel
theorem d_CO_feed_31 : decode b_CO_feed 31 = .ok (.aload_n 0, 1) := by decide +kernel
theorem d_CO_feed_32 : decode b_CO_feed 32 = .ok (.getfield 10, 3) := by decide +kernel
theorem d_CO_feed_35 : decode b_CO_feed 35 = .ok (.iload_n 3, 1) := by decide +kernel
theorem d_CO_feed_36 : decode b_CO_feed 36 = .ok (.invokevirtual 27, 3) := by decide +kernel
theorem d_CO_feed_39 : decode b_CO_feed 39 = .ok (.aload_n 0, 1) := by decide +kernel
theorem d_CO_feed_40 : decode b_CO_feed 40 = .ok (.getfield 10, 3) := by decide +kernel
theorem d_CO_feed_43 : decode b_CO_feed 43 = .ok (.iload 4, 2) := by decide +kernel
theorem d_CO_feed_45 : decode b_CO_feed 45 = .ok (.invokevirtual 27, 3) := by decide +kernel
theorem d_CO_feed_48 : decode b_CO_feed 48 = .ok (.aload_n 0, 1) := by decide +kernel
theorem d_CO_feed_49 : decode b_CO_feed 49 = .ok (.getfield 10, 3) := by decide +kernel
theorem d_CO_feed_52 : decode b_CO_feed 52 = .ok (.iload 5, 2) := by decide +kernel
theorem d_CO_feed_54 : decode b_CO_feed 54 = .ok (.invokevirtual 27, 3) := by decide +kernel
theorem d_CO_feed_57 : decode b_CO_feed 57 = .ok (.aload_n 0, 1) := by decide +kernel
theorem d_CO_feed_58 : decode b_CO_feed 58 = .ok (.getfield 10, 3) := by decide +kernel
theorem d_CO_feed_61 : decode b_CO_feed 61 = .ok (.invokevirtual 23, 3) := by decide +kernel
theorem d_CO_feed_64 : decode b_CO_feed 64 = .ok (.ireturn, 1) := by decide +kernel
abbrev b_CO_put : ByteArray := prog_1_method_3_code
abbrev y_CO_put : MethodName := ⟨"CharOutlines", "put", "(II)I"⟩
set_option maxRecDepth 100000 in
theorem cal_CO_put : CalV gd_tbl "CharOutlines" y_CO_put b_CO_put 3 (some .int) 2 := ⟨⟨List.mem_filter.mpr ⟨List.mem_of_getElem? (i := 299) rfl, rfl⟩, List.mem_filter.mpr ⟨List.mem_of_getElem? (i := 60) rfl, rfl⟩, ⟨by decide, by decide⟩, by decide +kernel⟩, List.mem_filter.mpr ⟨List.mem_of_getElem? (i := 297) rfl, rfl⟩, List.mem_filter.mpr ⟨List.mem_of_getElem? (i := 298) rfl, rfl⟩⟩
theorem d_CO_put_0 : decode b_CO_put 0 = .ok (.iload_n 1, 1) := by decide +kernel
theorem d_CO_put_1 : decode b_CO_put 1 = .ok (.ifCond .lt 14, 3) := by decide +kernel
theorem d_CO_put_4 : decode b_CO_put 4 = .ok (.iload_n 1, 1) := by decide +kernel
theorem d_CO_put_5 : decode b_CO_put 5 = .ok (.aload_n 0, 1) := by decide +kernel
theorem d_CO_put_6 : decode b_CO_put 6 = .ok (.getfield 10, 3) := by decide +kernel
theorem d_CO_put_9 : decode b_CO_put 9 = .ok (.invokevirtual 23, 3) := by decide +kernel
theorem d_CO_put_12 : decode b_CO_put 12 = .ok (.if_icmp .lt 13, 3) := by decide +kernel
theorem d_CO_put_15 : decode b_CO_put 15 = .ok (.new 31, 3) := by decide +kernel
theorem d_CO_put_18 : decode b_CO_put 18 = .ok (.dup, 1) := by decide +kernel
theorem d_CO_put_19 : decode b_CO_put 19 = .ok (.ldc 33, 2) := by decide +kernel
theorem d_CO_put_21 : decode b_CO_put 21 = .ok (.invokespecial 35, 3) := by decide +kernel
theorem d_CO_put_24 : decode b_CO_put 24 = .ok (.athrow, 1) := by decide +kernel
theorem d_CO_put_25 : decode b_CO_put 25 = .ok (.iload_n 2, 1) := by decide +kernel
theorem d_CO_put_26 : decode b_CO_put 26 = .ok (.ifCond .lt 10, 3) := by decide +kernel
theorem d_CO_put_29 : decode b_CO_put 29 = .ok (.iload_n 2, 1) := by decide +kernel
theorem d_CO_put_30 : decode b_CO_put 30 = .ok (.sipush 255, 3) := by decide +kernel
theorem d_CO_put_33 : decode b_CO_put 33 = .ok (.if_icmp .le 13, 3) := by decide +kernel
theorem d_CO_put_36 : decode b_CO_put 36 = .ok (.new 38, 3) := by decide +kernel
theorem d_CO_put_39 : decode b_CO_put 39 = .ok (.dup, 1) := by decide +kernel
theorem d_CO_put_40 : decode b_CO_put 40 = .ok (.ldc 40, 2) := by decide +kernel
theorem d_CO_put_42 : decode b_CO_put 42 = .ok (.invokespecial 42, 3) := by decide +kernel
theorem d_CO_put_45 : decode b_CO_put 45 = .ok (.athrow, 1) := by decide +kernel
theorem d_CO_put_46 : decode b_CO_put 46 = .ok (.aload_n 0, 1) := by decide +kernel
theorem d_CO_put_47 : decode b_CO_put 47 = .ok (.getfield 10, 3) := by decide +kernel
theorem d_CO_put_50 : decode b_CO_put 50 = .ok (.iload_n 1, 1) := by decide +kernel
theorem d_CO_put_51 : decode b_CO_put 51 = .ok (.iload_n 2, 1) := by decide +kernel
theorem d_CO_put_52 : decode b_CO_put 52 = .ok (.invokevirtual 43, 3) := by decide +kernel
theorem d_CO_put_55 : decode b_CO_put 55 = .ok (.ireturn, 1) := by decide +kernel
abbrev b_CO_cut : ByteArray := prog_1_method_4_code
abbrev y_CO_cut : MethodName := ⟨"CharOutlines", "cut", "(I)I"⟩
set_option maxRecDepth 100000 in
theorem cal_CO_cut : CalV gd_tbl "CharOutlines" y_CO_cut b_CO_cut 2 (some .int) 1 := ⟨⟨List.mem_filter.mpr ⟨List.mem_of_getElem? (i := 396) rfl, rfl⟩, List.mem_filter.mpr ⟨List.mem_of_getElem? (i := 60) rfl, rfl⟩, ⟨by decide, by decide⟩, by decide +kernel⟩, List.mem_filter.mpr ⟨List.mem_of_getElem? (i := 394) rfl, rfl⟩, List.mem_filter.mpr ⟨List.mem_of_getElem? (i := 395) rfl, rfl⟩⟩
theorem d_CO_cut_0 : decode b_CO_cut 0 = .ok (.iload_n 1, 1) := by decide +kernel
theorem d_CO_cut_1 : decode b_CO_cut 1 = .ok (.ifCond .ge 13, 3) := by decide +kernel
theorem d_CO_cut_4 : decode b_CO_cut 4 = .ok (.new 38, 3) := by decide +kernel
theorem d_CO_cut_7 : decode b_CO_cut 7 = .ok (.dup, 1) := by decide +kernel
theorem d_CO_cut_8 : decode b_CO_cut 8 = .ok (.ldc 47, 2) := by decide +kernel
theorem d_CO_cut_10 : decode b_CO_cut 10 = .ok (.invokespecial 42, 3) := by decide +kernel
theorem d_CO_cut_13 : decode b_CO_cut 13 = .ok (.athrow, 1) := by decide +kernel
theorem d_CO_cut_14 : decode b_CO_cut 14 = .ok (.aload_n 0, 1) := by decide +kernel
theorem d_CO_cut_15 : decode b_CO_cut 15 = .ok (.getfield 10, 3) := by decide +kernel
theorem d_CO_cut_18 : decode b_CO_cut 18 = .ok (.iload_n 1, 1) := by decide +kernel
theorem d_CO_cut_19 : decode b_CO_cut 19 = .ok (.invokevirtual 49, 3) := by decide +kernel
theorem d_CO_cut_22 : decode b_CO_cut 22 = .ok (.ireturn, 1) := by decide +kernel
abbrev b_CO_take : ByteArray := prog_1_method_5_code
abbrev y_CO_take : MethodName := ⟨"CharOutlines", "take", "(I)I"⟩
set_option maxRecDepth 100000 in
theorem cal_CO_take : CalV gd_tbl "CharOutlines" y_CO_take b_CO_take 2 (some .int) 1 := ⟨⟨List.mem_filter.mpr ⟨List.mem_of_getElem? (i := 408) rfl, rfl⟩, List.mem_filter.mpr ⟨List.mem_of_getElem? (i := 60) rfl, rfl⟩, ⟨by decide, by decide⟩, by decide +kernel⟩, List.mem_filter.mpr ⟨List.mem_of_getElem? (i := 406) rfl, rfl⟩, List.mem_filter.mpr ⟨List.mem_of_getElem? (i := 407) rfl, rfl⟩⟩
theorem d_CO_take_0 : decode b_CO_take 0 = .ok (.iload_n 1, 1) := by decide +kernel
theorem d_CO_take_1 : decode b_CO_take 1 = .ok (.invokestatic 53, 3) := by decide +kernel
theorem d_CO_take_4 : decode b_CO_take 4 = .ok (.ifCond .ne 13, 3) := by decide +kernel
theorem d_CO_take_7 : decode b_CO_take 7 = .ok (.new 38, 3) := by decide +kernel
theorem d_CO_take_10 : decode b_CO_take 10 = .ok (.dup, 1) := by decide +kernel
theorem d_CO_take_11 : decode b_CO_take 11 = .ok (.ldc 57, 2) := by decide +kernel
theorem d_CO_take_13 : decode b_CO_take 13 = .ok (.invokespecial 42, 3) := by decide +kernel
theorem d_CO_take_16 : decode b_CO_take 16 = .ok (.athrow, 1) := by decide +kernel
theorem d_CO_take_17 : decode b_CO_take 17 = .ok (.aload_n 0, 1) := by decide +kernel
theorem d_CO_take_18 : decode b_CO_take 18 = .ok (.getfield 19, 3) := by decide +kernel
theorem d_CO_take_21 : decode b_CO_take 21 = .ok (.iload_n 1, 1) := by decide +kernel
theorem d_CO_take_22 : decode b_CO_take 22 = .ok (.invokevirtual 59, 3) := by decide +kernel
theorem d_CO_take_25 : decode b_CO_take 25 = .ok (.aload_n 0, 1) := by decide +kernel
theorem d_CO_take_26 : decode b_CO_take 26 = .ok (.getfield 10, 3) := by decide +kernel
theorem d_CO_take_29 : decode b_CO_take 29 = .ok (.invokevirtual 63, 3) := by decide +kernel
theorem d_CO_take_32 : decode b_CO_take 32 = .ok (.ireturn, 1) := by decide +kernel
abbrev b_CO_count : ByteArray := prog_1_method_9_code
abbrev y_CO_count : MethodName := ⟨"CharOutlines", "count", "(I)I"⟩
set_option maxRecDepth 100000 in
theorem cal_CO_count : CalV gd_tbl "CharOutlines" y_CO_count b_CO_count 2 (some .int) 1 := ⟨⟨List.mem_filter.mpr ⟨List.mem_of_getElem? (i := 742) rfl, rfl⟩, List.mem_filter.mpr ⟨List.mem_of_getElem? (i := 60) rfl, rfl⟩, ⟨by decide, by decide⟩, by decide +kernel⟩, List.mem_filter.mpr ⟨List.mem_of_getElem? (i := 740) rfl, rfl⟩, List.mem_filter.mpr ⟨List.mem_of_getElem? (i := 741) rfl, rfl⟩⟩
theorem d_CO_count_0 : decode b_CO_count 0 = .ok (.iload_n 1, 1) := by decide +kernel
theorem d_CO_count_1 : decode b_CO_count 1 = .ok (.invokestatic 53, 3) := by decide +kernel
theorem d_CO_count_4 : decode b_CO_count 4 = .ok (.ifCond .ne 13, 3) := by decide +kernel
theorem d_CO_count_7 : decode b_CO_count 7 = .ok (.new 38, 3) := by decide +kernel
theorem d_CO_count_10 : decode b_CO_count 10 = .ok (.dup, 1) := by decide +kernel
theorem d_CO_count_11 : decode b_CO_count 11 = .ok (.ldc 57, 2) := by decide +kernel
theorem d_CO_count_13 : decode b_CO_count 13 = .ok (.invokespecial 42, 3) := by decide +kernel
theorem d_CO_count_16 : decode b_CO_count 16 = .ok (.athrow, 1) := by decide +kernel
theorem d_CO_count_17 : decode b_CO_count 17 = .ok (.aload_n 0, 1) := by decide +kernel
theorem d_CO_count_18 : decode b_CO_count 18 = .ok (.getfield 19, 3) := by decide +kernel
theorem d_CO_count_21 : decode b_CO_count 21 = .ok (.iload_n 1, 1) := by decide +kernel
theorem d_CO_count_22 : decode b_CO_count 22 = .ok (.invokevirtual 59, 3) := by decide +kernel
theorem d_CO_count_25 : decode b_CO_count 25 = .ok (.invokevirtual 94, 3) := by decide +kernel
theorem d_CO_count_28 : decode b_CO_count 28 = .ok (.ireturn, 1) := by decide +kernel
abbrev b_CO_run : ByteArray := prog_1_method_6_code
abbrev y_CO_run : MethodName := ⟨"CharOutlines", "run", "(I)I"⟩
set_option maxRecDepth 100000 in
theorem cal_CO_run : CalV gd_tbl "CharOutlines" y_CO_run b_CO_run 2 (some .int) 1 := ⟨⟨List.mem_filter.mpr ⟨List.mem_of_getElem? (i := 449) rfl, rfl⟩, List.mem_filter.mpr ⟨List.mem_of_getElem? (i := 60) rfl, rfl⟩, ⟨by decide, by decide⟩, by decide +kernel⟩, List.mem_filter.mpr ⟨List.mem_of_getElem? (i := 447) rfl, rfl⟩, List.mem_filter.mpr ⟨List.mem_of_getElem? (i := 448) rfl, rfl⟩⟩
theorem d_CO_run_0 : decode b_CO_run 0 = .ok (.aload_n 0, 1) := by decide +kernel
theorem d_CO_run_1 : decode b_CO_run 1 = .ok (.getfield 19, 3) := by decide +kernel
theorem d_CO_run_4 : decode b_CO_run 4 = .ok (.iconst 0, 1) := by decide +kernel
theorem d_CO_run_5 : decode b_CO_run 5 = .ok (.invokevirtual 59, 3) := by decide +kernel
theorem d_CO_run_8 : decode b_CO_run 8 = .ok (.iload_n 1, 1) := by decide +kernel
theorem d_CO_run_9 : decode b_CO_run 9 = .ok (.invokevirtual 69, 3) := by decide +kernel
theorem d_CO_run_12 : decode b_CO_run 12 = .ok (.ifCond .ne 13, 3) := by decide +kernel
theorem d_CO_run_15 : decode b_CO_run 15 = .ok (.new 31, 3) := by decide +kernel
theorem d_CO_run_18 : decode b_CO_run 18 = .ok (.dup, 1) := by decide +kernel
theorem d_CO_run_19 : decode b_CO_run 19 = .ok (.ldc 72, 2) := by decide +kernel
theorem d_CO_run_21 : decode b_CO_run 21 = .ok (.invokespecial 35, 3) := by decide +kernel
theorem d_CO_run_24 : decode b_CO_run 24 = .ok (.athrow, 1) := by decide +kernel
theorem d_CO_run_25 : decode b_CO_run 25 = .ok (.aload_n 0, 1) := by decide +kernel
theorem d_CO_run_26 : decode b_CO_run 26 = .ok (.getfield 19, 3) := by decide +kernel
theorem d_CO_run_29 : decode b_CO_run 29 = .ok (.iload_n 1, 1) := by decide +kernel
theorem d_CO_run_30 : decode b_CO_run 30 = .ok (.invokevirtual 74, 3) := by decide +kernel
theorem d_CO_run_33 : decode b_CO_run 33 = .ok (.ireturn, 1) := by decide +kernel
abbrev b_CO_mark : ByteArray := prog_1_method_7_code
abbrev y_CO_mark : MethodName := ⟨"CharOutlines", "mark", "(II)I"⟩
set_option maxRecDepth 100000 in
theorem cal_CO_mark : CalV gd_tbl "CharOutlines" y_CO_mark b_CO_mark 3 (some .int) 2 := ⟨⟨List.mem_filter.mpr ⟨List.mem_of_getElem? (i := 721) rfl, rfl⟩, List.mem_filter.mpr ⟨List.mem_of_getElem? (i := 60) rfl, rfl⟩, ⟨by decide, by decide⟩, by decide +kernel⟩, List.mem_filter.mpr ⟨List.mem_of_getElem? (i := 719) rfl, rfl⟩, List.mem_filter.mpr ⟨List.mem_of_getElem? (i := 720) rfl, rfl⟩⟩
theorem d_CO_mark_0 : decode b_CO_mark 0 = .ok (.aload_n 0, 1) := by decide +kernel
theorem d_CO_mark_1 : decode b_CO_mark 1 = .ok (.getfield 19, 3) := by decide +kernel
theorem d_CO_mark_4 : decode b_CO_mark 4 = .ok (.invokevirtual 77, 3) := by decide +kernel
theorem d_CO_mark_7 : decode b_CO_mark 7 = .ok (.iload_n 1, 1) := by decide +kernel
theorem d_CO_mark_8 : decode b_CO_mark 8 = .ok (.iload_n 2, 1) := by decide +kernel
theorem d_CO_mark_9 : decode b_CO_mark 9 = .ok (.invokevirtual 81, 3) := by decide +kernel
theorem d_CO_mark_12 : decode b_CO_mark 12 = .ok (.ifCond .ne 13, 3) := by decide +kernel
theorem d_CO_mark_15 : decode b_CO_mark 15 = .ok (.new 31, 3) := by decide +kernel
theorem d_CO_mark_18 : decode b_CO_mark 18 = .ok (.dup, 1) := by decide +kernel
theorem d_CO_mark_19 : decode b_CO_mark 19 = .ok (.ldc 86, 2) := by decide +kernel
theorem d_CO_mark_21 : decode b_CO_mark 21 = .ok (.invokespecial 35, 3) := by decide +kernel
theorem d_CO_mark_24 : decode b_CO_mark 24 = .ok (.athrow, 1) := by decide +kernel
theorem d_CO_mark_25 : decode b_CO_mark 25 = .ok (.aload_n 0, 1) := by decide +kernel
theorem d_CO_mark_26 : decode b_CO_mark 26 = .ok (.getfield 19, 3) := by decide +kernel
theorem d_CO_mark_29 : decode b_CO_mark 29 = .ok (.invokevirtual 77, 3) := by decide +kernel
theorem d_CO_mark_32 : decode b_CO_mark 32 = .ok (.iload_n 1, 1) := by decide +kernel
theorem d_CO_mark_33 : decode b_CO_mark 33 = .ok (.iload_n 2, 1) := by decide +kernel
theorem d_CO_mark_34 : decode b_CO_mark 34 = .ok (.invokevirtual 88, 3) := by decide +kernel
theorem d_CO_mark_37 : decode b_CO_mark 37 = .ok (.ireturn, 1) := by decide +kernel
abbrev b_CO_last : ByteArray := prog_1_method_8_code
abbrev y_CO_last : MethodName := ⟨"CharOutlines", "last", "(I)I"⟩
set_option maxRecDepth 100000 in
theorem cal_CO_last : CalV gd_tbl "CharOutlines" y_CO_last b_CO_last 2 (some .int) 1 := ⟨⟨List.mem_filter.mpr ⟨List.mem_of_getElem? (i := 278) rfl, rfl⟩, List.mem_filter.mpr ⟨List.mem_of_getElem? (i := 60) rfl, rfl⟩, ⟨by decide, by decide⟩, by decide +kernel⟩, List.mem_filter.mpr ⟨List.mem_of_getElem? (i := 276) rfl, rfl⟩, List.mem_filter.mpr ⟨List.mem_of_getElem? (i := 277) rfl, rfl⟩⟩
theorem d_CO_last_0 : decode b_CO_last 0 = .ok (.aload_n 0, 1) := by decide +kernel
theorem d_CO_last_1 : decode b_CO_last 1 = .ok (.getfield 19, 3) := by decide +kernel
theorem d_CO_last_4 : decode b_CO_last 4 = .ok (.iload_n 1, 1) := by decide +kernel
theorem d_CO_last_5 : decode b_CO_last 5 = .ok (.invokevirtual 91, 3) := by decide +kernel
theorem d_CO_last_8 : decode b_CO_last 8 = .ok (.ireturn, 1) := by decide +kernel
set_option maxRecDepth 100000 in
theorem cl_CO_31 : (Jvm.Cond.classLink "CharOutlines" (31 : Nat) "java/lang/IndexOutOfBoundsException") ∈ gd_tbl := List.mem_filter.mpr ⟨List.mem_of_getElem? (i := 300) rfl, rfl⟩
set_option maxRecDepth 100000 in
theorem cl_CO_38 : (Jvm.Cond.classLink "CharOutlines" (38 : Nat) "java/lang/IllegalArgumentException") ∈ gd_tbl := List.mem_filter.mpr ⟨List.mem_of_getElem? (i := 366) rfl, rfl⟩
set_option maxRecDepth 100000 in
theorem ml_CO_23 : (Jvm.Cond.methodLink "CharOutlines" (23 : Nat) ({ cls := "CharOutlines$Bytes", name := "length", desc := "()I" } : Jvm.MethodName)) ∈ gd_tbl := List.mem_filter.mpr ⟨List.mem_of_getElem? (i := 243) rfl, rfl⟩
set_option maxRecDepth 100000 in
theorem ml_CO_27 : (Jvm.Cond.methodLink "CharOutlines" (27 : Nat) ({ cls := "CharOutlines$Bytes", name := "append", desc := "(I)V" } : Jvm.MethodName)) ∈ gd_tbl := List.mem_filter.mpr ⟨List.mem_of_getElem? (i := 247) rfl, rfl⟩
set_option maxRecDepth 100000 in
theorem ml_CO_35 : (Jvm.Cond.methodLink "CharOutlines" (35 : Nat) ({ cls := "java/lang/IndexOutOfBoundsException", name := "<init>", desc := "(Ljava/lang/String;)V" } : Jvm.MethodName)) ∈ gd_tbl := List.mem_filter.mpr ⟨List.mem_of_getElem? (i := 341) rfl, rfl⟩
set_option maxRecDepth 100000 in
theorem ml_CO_42 : (Jvm.Cond.methodLink "CharOutlines" (42 : Nat) ({ cls := "java/lang/IllegalArgumentException", name := "<init>", desc := "(Ljava/lang/String;)V" } : Jvm.MethodName)) ∈ gd_tbl := List.mem_filter.mpr ⟨List.mem_of_getElem? (i := 376) rfl, rfl⟩
set_option maxRecDepth 100000 in
theorem ml_CO_43 : (Jvm.Cond.methodLink "CharOutlines" (43 : Nat) ({ cls := "CharOutlines$Bytes", name := "replace", desc := "(II)I" } : Jvm.MethodName)) ∈ gd_tbl := List.mem_filter.mpr ⟨List.mem_of_getElem? (i := 382) rfl, rfl⟩
set_option maxRecDepth 100000 in
theorem ml_CO_49 : (Jvm.Cond.methodLink "CharOutlines" (49 : Nat) ({ cls := "CharOutlines$Bytes", name := "shorten", desc := "(I)I" } : Jvm.MethodName)) ∈ gd_tbl := List.mem_filter.mpr ⟨List.mem_of_getElem? (i := 398) rfl, rfl⟩
set_option maxRecDepth 100000 in
theorem ml_CO_53 : (Jvm.Cond.methodLink "CharOutlines" (53 : Nat) ({ cls := "CharOutlines", name := "isKind", desc := "(I)Z" } : Jvm.MethodName)) ∈ gd_tbl := List.mem_filter.mpr ⟨List.mem_of_getElem? (i := 409) rfl, rfl⟩
set_option maxRecDepth 100000 in
theorem ml_CO_59 : (Jvm.Cond.methodLink "CharOutlines" (59 : Nat) ({ cls := "CharOutlines$Machine", name := "shelf", desc := "(I)LCharOutlines$Shelf;" } : Jvm.MethodName)) ∈ gd_tbl := List.mem_filter.mpr ⟨List.mem_of_getElem? (i := 413) rfl, rfl⟩
set_option maxRecDepth 100000 in
theorem ml_CO_63 : (Jvm.Cond.methodLink "CharOutlines" (63 : Nat) ({ cls := "CharOutlines$Shelf", name := "fill", desc := "(LCharOutlines$Bytes;)I" } : Jvm.MethodName)) ∈ gd_tbl := List.mem_filter.mpr ⟨List.mem_of_getElem? (i := 421) rfl, rfl⟩
set_option maxRecDepth 100000 in
theorem ml_CO_69 : (Jvm.Cond.methodLink "CharOutlines" (69 : Nat) ({ cls := "CharOutlines$Shelf", name := "has", desc := "(I)Z" } : Jvm.MethodName)) ∈ gd_tbl := List.mem_filter.mpr ⟨List.mem_of_getElem? (i := 450) rfl, rfl⟩
set_option maxRecDepth 100000 in
theorem ml_CO_74 : (Jvm.Cond.methodLink "CharOutlines" (74 : Nat) ({ cls := "CharOutlines$Machine", name := "go", desc := "(I)I" } : Jvm.MethodName)) ∈ gd_tbl := List.mem_filter.mpr ⟨List.mem_of_getElem? (i := 455) rfl, rfl⟩
set_option maxRecDepth 100000 in
theorem ml_CO_77 : (Jvm.Cond.methodLink "CharOutlines" (77 : Nat) ({ cls := "CharOutlines$Machine", name := "outline", desc := "()LCharOutlines$Outline;" } : Jvm.MethodName)) ∈ gd_tbl := List.mem_filter.mpr ⟨List.mem_of_getElem? (i := 722) rfl, rfl⟩
set_option maxRecDepth 100000 in
theorem ml_CO_81 : (Jvm.Cond.methodLink "CharOutlines" (81 : Nat) ({ cls := "CharOutlines$Outline", name := "has", desc := "(II)Z" } : Jvm.MethodName)) ∈ gd_tbl := List.mem_filter.mpr ⟨List.mem_of_getElem? (i := 726) rfl, rfl⟩
set_option maxRecDepth 100000 in
theorem ml_CO_88 : (Jvm.Cond.methodLink "CharOutlines" (88 : Nat) ({ cls := "CharOutlines$Outline", name := "number", desc := "(II)I" } : Jvm.MethodName)) ∈ gd_tbl := List.mem_filter.mpr ⟨List.mem_of_getElem? (i := 731) rfl, rfl⟩
set_option maxRecDepth 100000 in
theorem ml_CO_91 : (Jvm.Cond.methodLink "CharOutlines" (91 : Nat) ({ cls := "CharOutlines$Machine", name := "told", desc := "(I)I" } : Jvm.MethodName)) ∈ gd_tbl := List.mem_filter.mpr ⟨List.mem_of_getElem? (i := 279) rfl, rfl⟩
set_option maxRecDepth 100000 in
theorem ml_CO_94 : (Jvm.Cond.methodLink "CharOutlines" (94 : Nat) ({ cls := "CharOutlines$Shelf", name := "strings", desc := "()I" } : Jvm.MethodName)) ∈ gd_tbl := List.mem_filter.mpr ⟨List.mem_of_getElem? (i := 743) rfl, rfl⟩
set_option maxHeartbeats 1000000 in
set_option maxRecDepth 100000 in
theorem c_CO_isKind (l : Launch) (D : va_G) (cB cI cJ : ClassId) (k : Int32) : Ro l D classes (TY cB cI cJ) gd_tbl nx_tbl y_CO_isKind b_CO_isKind 1 (some .boolean) ({ frames := 0, cells := 0, slots := 0, locals := 0 }) [.int k] [] (fun v => v = .int (isK k)) := by
  refine Ro.intro (by decide +kernel) nx_ok (Nat.le_of_ble_eq_true rfl) ?_
  intro p_ e_ s_ m_ args_ below_ meth_ c_ A_ ls hx hb hml hown hts hr hlk hnm hZ hP hD hl
  have hl : lv_has ls 1 [(0, .int k)] := hl
  refine lv_iload_n hx hb d_CO_isKind_0 rfl (lv_at hl 0 rfl) ?_
  refine lv_if_lt (tgt := 13) hx hb d_CO_isKind_1 (by decide) (fun c_1 => ?_) (fun c_1 => ?_)
  · refine lv_iconst (v := 0) hx hb d_CO_isKind_13 (by decide) ?_
    exact r_zret hx hb hr hlk (by decide) d_CO_isKind_14 (by simp [isK, c_1])
  · refine lv_iload_n hx hb d_CO_isKind_4 rfl (lv_at hl 0 rfl) ?_
    refine lv_iconst (v := 2) hx hb d_CO_isKind_5 (by decide) ?_
    refine lv_icmp_gt (tgt := 13) hx hb d_CO_isKind_6 (by decide) (fun c_6 => ?_) (fun c_6 => ?_)
    · refine lv_iconst (v := 0) hx hb d_CO_isKind_13 (by decide) ?_
      exact r_zret hx hb hr hlk (by decide) d_CO_isKind_14 (by simp [isK, c_1, c_6])
    · refine lv_iconst (v := 1) hx hb d_CO_isKind_9 (by decide) ?_
      refine lv_goto (tgt := 14) hx hb d_CO_isKind_10 (by decide) ?_
      exact r_zret hx hb hr hlk (by decide) d_CO_isKind_14 (by simp [isK, c_1, c_6])
set_option maxHeartbeats 1000000 in
set_option maxRecDepth 100000 in
theorem c_CO_feed (l : Launch) (D : va_G) (cB cI cJ : ClassId) (o h mm a n cap : Nat) (f : Nat → Int32) (x1 x2 x3 x4 x5 : Int32) (hn : n ≤ cap ∧ cap ≤ 16384) (hc : 64 ≤ cap) (hf : sb_Fit f) : Tr l D classes (TY cB cI cJ) gd_tbl nx_tbl y_CO_feed b_CO_feed 6 (some .int) ({ frames := 4, cells := gF cap, slots := gF cap, locals := 86 }) [.ref o, .int x1, .int x2, .int x3, .int x4, .int x5] [(o, .inr (7, [.ref h, .ref mm])), (h, .inr (0, [.ref a, .int (nI n)])), (a, .inl (cB, cap, .inl f))] (pI (fun r w k q => (16364 < n ∧ r = -1 ∧ w = [(o, .inr (7, [.ref h, .ref mm])), (h, .inr (0, [.ref a, .int (nI n)])), (a, .inl (cB, cap, .inl f))] ∧ k = 0 ∧ q = 0) ∨ (n ≤ 16364 ∧ r = nI (n + 20) ∧ ∃ (a' cap' : Nat) (f' : Nat → Int32), w = [(o, .inr (7, [.ref h, .ref mm])), (h, .inr (0, [.ref a', .int (nI (n + 20))])), (a', .inl (cB, cap', .inl f'))] ∧ n + 20 ≤ cap' ∧ cap ≤ cap' ∧ cap' ≤ 16384 ∧ sb_Fit f' ∧ (∀ i, i < n → f' i = f i) ∧ (∀ i, i < 20 → f' (n + i) &&& 255 = fed x1 x2 x3 x4 x5 i) ∧ k ≤ q ∧ q + gF cap' ≤ gF cap))) := by
  refine Tr.intro (by decide +kernel) nx_ok (Nat.le_of_ble_eq_true rfl) ?_
  intro p_ e_ s_ m_ args_ below_ meth_ c_ A_ ls hx hb hml hown hts hr hlk hnm hZ hP hD hS hl
  have hl : lv_has ls 6 [(0, .ref o), (1, .int x1), (2, .int x2), (3, .int x3), (4, .int x4), (5, .int x5)] := hl
  refine lv_aload_n hx hb d_CO_feed_0 rfl (lv_at hl 0 rfl) ?_
  refine va_get (D := D) (ci := 7) (v := .ref h) (C := R_CO) (T := F_CO) (N := 2) hx hb hts i_CO hown hZ.1 hP 0 rfl rfl 0 (by decide) (hts _ fl_CO_10) (fun _ h9 => h9) rfl d_CO_feed_1 ?_
  refine roV (As := []) (rest := []) ⟨hx, hb, hml, hown, hts⟩ gd_good (c_By_length l D cB cI cJ h a n cap f) cal_By_length ml_CO_23 ⟨Nat.le_of_ble_eq_true rfl, Nat.le_of_ble_eq_true rfl⟩ hZ hP hD (isC := [1, 2]) ⟨rfl, rfl⟩ 1 (ci := 0) rfl rfl rfl rfl hl.1 rfl (Nat.le_of_ble_eq_true rfl) d_CO_feed_4 ⟨by dsimp only; omega, by dsimp only; omega⟩ (fun v hv => ?_)
  subst hv
  refine lv_sipush (v := 16364) hx hb d_CO_feed_7 (by decide) ?_
  refine lv_icmp_le (tgt := 15) hx hb d_CO_feed_10 (by decide) (fun c_10 => ?_) (fun c_10 => ?_)
  · have n_10 : (n) ≤ (16364) := (nI_leI (a := n) (b := 16364) (by omega) (by omega)).mp c_10
    refine lv_aload_n hx hb d_CO_feed_15 rfl (lv_at hl 0 rfl) ?_
    refine va_get (D := D) (ci := 7) (v := .ref h) (C := R_CO) (T := F_CO) (N := 2) hx hb hts i_CO hown hZ.1 hP 0 rfl rfl 0 (by decide) (hts _ fl_CO_10) (fun _ h9 => h9) rfl d_CO_feed_16 ?_
    refine lv_iload_n hx hb d_CO_feed_19 rfl (lv_at hl 1 rfl) ?_
    have hC : Cut [(o, .inr (7, [.ref h, .ref mm])), (h, .inr (0, [.ref a, .int (nI n)])), (a, .inl (cB, cap, .inl f))] [(h, .inr (0, [.ref a, .int (nI n)])), (a, .inl (cB, cap, .inl f))] [(o, .inr (7, [.ref h, .ref mm]))] [1, 2] [0] := ⟨rfl, rfl, rfl, rfl, by decide⟩
    refine goV (trV (As := [.int x1]) (rest := []) ⟨hx, hb, hml, hown, hts⟩ gd_good (c_By_append l D cB cI cJ h a n cap f x1 (by omega) (by omega) (by omega) hf) cal_By_append ml_CO_27 ⟨Nat.le_of_ble_eq_true rfl, Nat.le_of_ble_eq_true rfl⟩ hZ hP hD hC 1 (ci := 0) rfl rfl rfl rfl hl.1 rfl (Nat.le_of_ble_eq_true rfl) d_CO_feed_20 ⟨by dsimp only; omega, by dsimp only; omega⟩) hZ hP hD hS hC (fun w1 kk_20 qq_20 H locs hq hP hD hS => ?_)
    obtain ⟨a'20, cap'20, f'20, rfl, ha1_20, ha2_20, ha3_20, ha4_20, ha5_20, ha6_20, ha7_20⟩ := hq
    have hP : va_P D classes [(o, .inr (7, [.ref h, .ref mm])), (h, .inr (0, [.ref a'20, .int (nI (n + 4))])), (a'20, .inl (cB, cap'20, .inl (app4 f'20 n x1)))] H := hP
    have hD : va_D A_ [(o, .inr (7, [.ref h, .ref mm])), (h, .inr (0, [.ref a'20, .int (nI (n + 4))])), (a'20, .inl (cB, cap'20, .inl (app4 f'20 n x1)))] := hD
    refine lv_aload_n hx hb d_CO_feed_23 rfl (lv_at hl 0 rfl) ?_
    refine va_get (D := D) (ci := 7) (v := .ref h) (C := R_CO) (T := F_CO) (N := 2) hx hb hts i_CO hown hZ.1 hP 0 rfl rfl 0 (by decide) (hts _ fl_CO_10) (fun _ h9 => h9) rfl d_CO_feed_24 ?_
    refine lv_iload_n hx hb d_CO_feed_27 rfl (lv_at hl 2 rfl) ?_
    have hC : Cut [(o, .inr (7, [.ref h, .ref mm])), (h, .inr (0, [.ref a'20, .int (nI (n + 4))])), (a'20, .inl (cB, cap'20, .inl (app4 f'20 n x1)))] [(h, .inr (0, [.ref a'20, .int (nI (n + 4))])), (a'20, .inl (cB, cap'20, .inl (app4 f'20 n x1)))] [(o, .inr (7, [.ref h, .ref mm]))] [1, 2] [0] := ⟨rfl, rfl, rfl, rfl, by decide⟩
    refine goV (trV (As := [.int x2]) (rest := []) ⟨hx, hb, hml, hown, hts⟩ gd_good (c_By_append l D cB cI cJ h a'20 (n + 4) cap'20 (app4 f'20 n x1) x2 (by omega) (by omega) (by omega) (app4_fit ha4_20)) cal_By_append ml_CO_27 ⟨Nat.le_of_ble_eq_true rfl, Nat.le_of_ble_eq_true rfl⟩ hZ hP hD hC 1 (ci := 0) rfl rfl rfl rfl hl.1 rfl (Nat.le_of_ble_eq_true rfl) d_CO_feed_28 ⟨by dsimp only; omega, by dsimp only; omega⟩) hZ hP hD hS hC (fun w1 kk_28 qq_28 H locs hq hP hD hS => ?_)
    obtain ⟨a'28, cap'28, f'28, rfl, ha1_28, ha2_28, ha3_28, ha4_28, ha5_28, ha6_28, ha7_28⟩ := hq
    have hP : va_P D classes [(o, .inr (7, [.ref h, .ref mm])), (h, .inr (0, [.ref a'28, .int (nI (n + 4 + 4))])), (a'28, .inl (cB, cap'28, .inl (app4 f'28 (n + 4) x2)))] H := hP
    have hD : va_D A_ [(o, .inr (7, [.ref h, .ref mm])), (h, .inr (0, [.ref a'28, .int (nI (n + 4 + 4))])), (a'28, .inl (cB, cap'28, .inl (app4 f'28 (n + 4) x2)))] := hD
    refine lv_aload_n hx hb d_CO_feed_31 rfl (lv_at hl 0 rfl) ?_
    refine va_get (D := D) (ci := 7) (v := .ref h) (C := R_CO) (T := F_CO) (N := 2) hx hb hts i_CO hown hZ.1 hP 0 rfl rfl 0 (by decide) (hts _ fl_CO_10) (fun _ h9 => h9) rfl d_CO_feed_32 ?_
    refine lv_iload_n hx hb d_CO_feed_35 rfl (lv_at hl 3 rfl) ?_
    have hC : Cut [(o, .inr (7, [.ref h, .ref mm])), (h, .inr (0, [.ref a'28, .int (nI (n + 4 + 4))])), (a'28, .inl (cB, cap'28, .inl (app4 f'28 (n + 4) x2)))] [(h, .inr (0, [.ref a'28, .int (nI (n + 4 + 4))])), (a'28, .inl (cB, cap'28, .inl (app4 f'28 (n + 4) x2)))] [(o, .inr (7, [.ref h, .ref mm]))] [1, 2] [0] := ⟨rfl, rfl, rfl, rfl, by decide⟩
    refine goV (trV (As := [.int x3]) (rest := []) ⟨hx, hb, hml, hown, hts⟩ gd_good (c_By_append l D cB cI cJ h a'28 (n + 4 + 4) cap'28 (app4 f'28 (n + 4) x2) x3 (by omega) (by omega) (by omega) (app4_fit ha4_28)) cal_By_append ml_CO_27 ⟨Nat.le_of_ble_eq_true rfl, Nat.le_of_ble_eq_true rfl⟩ hZ hP hD hC 1 (ci := 0) rfl rfl rfl rfl hl.1 rfl (Nat.le_of_ble_eq_true rfl) d_CO_feed_36 ⟨by dsimp only; omega, by dsimp only; omega⟩) hZ hP hD hS hC (fun w1 kk_36 qq_36 H locs hq hP hD hS => ?_)
    obtain ⟨a'36, cap'36, f'36, rfl, ha1_36, ha2_36, ha3_36, ha4_36, ha5_36, ha6_36, ha7_36⟩ := hq
    have hP : va_P D classes [(o, .inr (7, [.ref h, .ref mm])), (h, .inr (0, [.ref a'36, .int (nI (n + 4 + 4 + 4))])), (a'36, .inl (cB, cap'36, .inl (app4 f'36 (n + 4 + 4) x3)))] H := hP
    have hD : va_D A_ [(o, .inr (7, [.ref h, .ref mm])), (h, .inr (0, [.ref a'36, .int (nI (n + 4 + 4 + 4))])), (a'36, .inl (cB, cap'36, .inl (app4 f'36 (n + 4 + 4) x3)))] := hD
    refine lv_aload_n hx hb d_CO_feed_39 rfl (lv_at hl 0 rfl) ?_
    refine va_get (D := D) (ci := 7) (v := .ref h) (C := R_CO) (T := F_CO) (N := 2) hx hb hts i_CO hown hZ.1 hP 0 rfl rfl 0 (by decide) (hts _ fl_CO_10) (fun _ h9 => h9) rfl d_CO_feed_40 ?_
    refine lv_iload hx hb d_CO_feed_43 (lv_at hl 4 rfl) ?_
    have hC : Cut [(o, .inr (7, [.ref h, .ref mm])), (h, .inr (0, [.ref a'36, .int (nI (n + 4 + 4 + 4))])), (a'36, .inl (cB, cap'36, .inl (app4 f'36 (n + 4 + 4) x3)))] [(h, .inr (0, [.ref a'36, .int (nI (n + 4 + 4 + 4))])), (a'36, .inl (cB, cap'36, .inl (app4 f'36 (n + 4 + 4) x3)))] [(o, .inr (7, [.ref h, .ref mm]))] [1, 2] [0] := ⟨rfl, rfl, rfl, rfl, by decide⟩
    refine goV (trV (As := [.int x4]) (rest := []) ⟨hx, hb, hml, hown, hts⟩ gd_good (c_By_append l D cB cI cJ h a'36 (n + 4 + 4 + 4) cap'36 (app4 f'36 (n + 4 + 4) x3) x4 (by omega) (by omega) (by omega) (app4_fit ha4_36)) cal_By_append ml_CO_27 ⟨Nat.le_of_ble_eq_true rfl, Nat.le_of_ble_eq_true rfl⟩ hZ hP hD hC 1 (ci := 0) rfl rfl rfl rfl hl.1 rfl (Nat.le_of_ble_eq_true rfl) d_CO_feed_45 ⟨by dsimp only; omega, by dsimp only; omega⟩) hZ hP hD hS hC (fun w1 kk_45 qq_45 H locs hq hP hD hS => ?_)
    obtain ⟨a'45, cap'45, f'45, rfl, ha1_45, ha2_45, ha3_45, ha4_45, ha5_45, ha6_45, ha7_45⟩ := hq
    have hP : va_P D classes [(o, .inr (7, [.ref h, .ref mm])), (h, .inr (0, [.ref a'45, .int (nI (n + 4 + 4 + 4 + 4))])), (a'45, .inl (cB, cap'45, .inl (app4 f'45 (n + 4 + 4 + 4) x4)))] H := hP
    have hD : va_D A_ [(o, .inr (7, [.ref h, .ref mm])), (h, .inr (0, [.ref a'45, .int (nI (n + 4 + 4 + 4 + 4))])), (a'45, .inl (cB, cap'45, .inl (app4 f'45 (n + 4 + 4 + 4) x4)))] := hD
    refine lv_aload_n hx hb d_CO_feed_48 rfl (lv_at hl 0 rfl) ?_
    refine va_get (D := D) (ci := 7) (v := .ref h) (C := R_CO) (T := F_CO) (N := 2) hx hb hts i_CO hown hZ.1 hP 0 rfl rfl 0 (by decide) (hts _ fl_CO_10) (fun _ h9 => h9) rfl d_CO_feed_49 ?_
    refine lv_iload hx hb d_CO_feed_52 (lv_at hl 5 rfl) ?_
    have hC : Cut [(o, .inr (7, [.ref h, .ref mm])), (h, .inr (0, [.ref a'45, .int (nI (n + 4 + 4 + 4 + 4))])), (a'45, .inl (cB, cap'45, .inl (app4 f'45 (n + 4 + 4 + 4) x4)))] [(h, .inr (0, [.ref a'45, .int (nI (n + 4 + 4 + 4 + 4))])), (a'45, .inl (cB, cap'45, .inl (app4 f'45 (n + 4 + 4 + 4) x4)))] [(o, .inr (7, [.ref h, .ref mm]))] [1, 2] [0] := ⟨rfl, rfl, rfl, rfl, by decide⟩
    refine goV (trV (As := [.int x5]) (rest := []) ⟨hx, hb, hml, hown, hts⟩ gd_good (c_By_append l D cB cI cJ h a'45 (n + 4 + 4 + 4 + 4) cap'45 (app4 f'45 (n + 4 + 4 + 4) x4) x5 (by omega) (by omega) (by omega) (app4_fit ha4_45)) cal_By_append ml_CO_27 ⟨Nat.le_of_ble_eq_true rfl, Nat.le_of_ble_eq_true rfl⟩ hZ hP hD hC 1 (ci := 0) rfl rfl rfl rfl hl.1 rfl (Nat.le_of_ble_eq_true rfl) d_CO_feed_54 ⟨by dsimp only; omega, by dsimp only; omega⟩) hZ hP hD hS hC (fun w1 kk_54 qq_54 H locs hq hP hD hS => ?_)
    obtain ⟨a'54, cap'54, f'54, rfl, ha1_54, ha2_54, ha3_54, ha4_54, ha5_54, ha6_54, ha7_54⟩ := hq
    have hP : va_P D classes [(o, .inr (7, [.ref h, .ref mm])), (h, .inr (0, [.ref a'54, .int (nI (n + 4 + 4 + 4 + 4 + 4))])), (a'54, .inl (cB, cap'54, .inl (app4 f'54 (n + 4 + 4 + 4 + 4) x5)))] H := hP
    have hD : va_D A_ [(o, .inr (7, [.ref h, .ref mm])), (h, .inr (0, [.ref a'54, .int (nI (n + 4 + 4 + 4 + 4 + 4))])), (a'54, .inl (cB, cap'54, .inl (app4 f'54 (n + 4 + 4 + 4 + 4) x5)))] := hD
    refine lv_aload_n hx hb d_CO_feed_57 rfl (lv_at hl 0 rfl) ?_
    refine va_get (D := D) (ci := 7) (v := .ref h) (C := R_CO) (T := F_CO) (N := 2) hx hb hts i_CO hown hZ.1 hP 0 rfl rfl 0 (by decide) (hts _ fl_CO_10) (fun _ h9 => h9) rfl d_CO_feed_58 ?_
    refine roV (As := []) (rest := []) ⟨hx, hb, hml, hown, hts⟩ gd_good (c_By_length l D cB cI cJ h a'54 (n + 4 + 4 + 4 + 4 + 4) cap'54 (app4 f'54 (n + 4 + 4 + 4 + 4) x5)) cal_By_length ml_CO_23 ⟨Nat.le_of_ble_eq_true rfl, Nat.le_of_ble_eq_true rfl⟩ hZ hP hD (isC := [1, 2]) ⟨rfl, rfl⟩ 1 (ci := 0) rfl rfl rfl rfl hl.1 rfl (Nat.le_of_ble_eq_true rfl) d_CO_feed_61 ⟨by dsimp only; omega, by dsimp only; omega⟩ (fun v hv => ?_)
    subst hv
    exact t_iret hx hb hr hlk d_CO_feed_64 (hP.subm (ws' := [(o, .inr (7, [.ref h, .ref mm])), (h, .inr (0, [.ref a'54, .int (nI (n + 4 + 4 + 4 + 4 + 4))])), (a'54, .inl (cB, cap'54, .inl (app4 f'54 (n + 4 + 4 + 4 + 4) x5)))]) [0, 1, 2] rfl) (hD.sub (ws' := [(o, .inr (7, [.ref h, .ref mm])), (h, .inr (0, [.ref a'54, .int (nI (n + 4 + 4 + 4 + 4 + 4))])), (a'54, .inl (cB, cap'54, .inl (app4 f'54 (n + 4 + 4 + 4 + 4) x5)))]) [0, 1, 2] rfl rfl) hS ⟨_, rfl, Or.inr ⟨by omega, rfl, _, _, _, rfl, by omega, by omega, by omega, app4_fit ha4_54, (fed_ok ha5_20 ha5_28 ha5_36 ha5_45 ha5_54).1, (fed_ok ha5_20 ha5_28 ha5_36 ha5_45 ha5_54).2, by omega, by omega⟩⟩
  · have n_10 : ¬ (n) ≤ (16364) := fun z => c_10 ((nI_leI (a := n) (b := 16364) (by omega) (by omega)).mpr z)
    refine lv_iconst (v := (-1)) hx hb d_CO_feed_13 (by decide) ?_
    exact t_iret hx hb hr hlk d_CO_feed_14 hP hD hS ⟨_, rfl, Or.inl ⟨by omega, rfl, rfl, rfl, rfl⟩⟩
set_option maxHeartbeats 1000000 in
set_option maxRecDepth 100000 in
theorem c_CO_put (l : Launch) (D : va_G) (cB cI cJ : ClassId) (hfl : l.flags = pinnedFlags ++ [noTraceFlag]) (ad : Nat → Nat) (o h mm a n cap : Nat) (f : Nat → Int32) (i b : Int32) (hn : n ≤ cap ∧ cap ≤ 16384) : TrX l D classes (TY cB cI cJ) gd_tbl nx_tbl str_tbl ad y_CO_put b_CO_put 3 (some .int) ({ frames := 6, cells := 1, slots := 6, locals := 82 }) [.ref o, .int i, .int b] [(o, .inr (7, [.ref h, .ref mm])), (h, .inr (0, [.ref a, .int (nI n)])), (a, .inl (cB, cap, .inl f))] (pI0 (fun r w => ∃ j : Nat, i = nI j ∧ j < n ∧ okI n i ∧ okB b ∧ r = atB n f i ∧ w = [(o, .inr (7, [.ref h, .ref mm])), (h, .inr (0, [.ref a, .int (nI n)])), (a, .inl (cB, cap, .inl (upd f j (vp_nar .byte b.toInt8.toInt32))))])) (fun X => (X = "java/lang/IndexOutOfBoundsException" ∧ ¬ okI n i) ∨ (X = "java/lang/IllegalArgumentException" ∧ okI n i ∧ ¬ okB b)) := by
  refine TrX.intro (by decide +kernel) nx_ok (Nat.le_of_ble_eq_true rfl) ?_
  intro p_ e_ s_ m_ args_ below_ meth_ c_ A_ ls hx hb hml hown hts hr hlk hnm hZ hP hD hS hl hXU hno
  have hl : lv_has ls 3 [(0, .ref o), (1, .int i), (2, .int b)] := hl
  refine lv_iload_n hx hb d_CO_put_0 rfl (lv_at hl 1 rfl) ?_
  refine lv_if_lt (tgt := 15) hx hb d_CO_put_1 (by decide) (fun c_1 => ?_) (fun c_1 => ?_)
  · exact x_throw hfl hx hb (by rw [hml]; exact hl.1.symm) hlk hown (by decide +kernel) (by decide +kernel) (xat_IO hts hZ.2.1 hXU ml_CO_35) (hts _ cl_CO_31) (hts _ xin_IO) (hXU.2.2.1 _ (List.mem_of_getElem? (i := 0) rfl)) hno (Nat.le_of_ble_eq_true rfl) (Nat.le_of_ble_eq_true rfl) (Nat.le_of_ble_eq_true rfl) (Nat.le_of_ble_eq_true rfl) (Or.inl ⟨rfl, fun z => by exact z.1 c_1⟩) d_CO_put_15 d_CO_put_18 d_CO_put_19 d_CO_put_21 d_CO_put_24
  · refine lv_iload_n hx hb d_CO_put_4 rfl (lv_at hl 1 rfl) ?_
    refine lv_aload_n hx hb d_CO_put_5 rfl (lv_at hl 0 rfl) ?_
    refine va_get (D := D) (ci := 7) (v := .ref h) (C := R_CO) (T := F_CO) (N := 2) hx hb hts i_CO hown hZ.1 hP 0 rfl rfl 0 (by decide) (hts _ fl_CO_10) (fun _ h9 => h9) rfl d_CO_put_6 ?_
    refine roV (As := []) (rest := [.int i]) ⟨hx, hb, hml, hown, hts⟩ gd_good (c_By_length l D cB cI cJ h a n cap f) cal_By_length ml_CO_23 ⟨Nat.le_of_ble_eq_true rfl, Nat.le_of_ble_eq_true rfl⟩ hZ hP hD (isC := [1, 2]) ⟨rfl, rfl⟩ 1 (ci := 0) rfl rfl rfl rfl hl.1 rfl (Nat.le_of_ble_eq_true rfl) d_CO_put_9 ⟨Nat.le_of_ble_eq_true rfl, Nat.le_of_ble_eq_true rfl⟩ (fun v hv => ?_)
    subst hv
    refine lv_icmp_lt (tgt := 25) hx hb d_CO_put_12 (by decide) (fun c_12 => ?_) (fun c_12 => ?_)
    · refine lv_iload_n hx hb d_CO_put_25 rfl (lv_at hl 2 rfl) ?_
      refine lv_if_lt (tgt := 36) hx hb d_CO_put_26 (by decide) (fun c_26 => ?_) (fun c_26 => ?_)
      · exact x_throw hfl hx hb (by rw [hml]; exact hl.1.symm) hlk hown (by decide +kernel) (by decide +kernel) (xat_IA hts hZ.2.1 hXU ml_CO_42) (hts _ cl_CO_38) (hts _ xin_IA) (hXU.2.2.1 _ (List.mem_of_getElem? (i := 1) rfl)) hno (Nat.le_of_ble_eq_true rfl) (Nat.le_of_ble_eq_true rfl) (Nat.le_of_ble_eq_true rfl) (Nat.le_of_ble_eq_true rfl) (Or.inr ⟨rfl, ⟨c_1, c_12⟩, fun z => by exact z.1 c_26⟩) d_CO_put_36 d_CO_put_39 d_CO_put_40 d_CO_put_42 d_CO_put_45
      · refine lv_iload_n hx hb d_CO_put_29 rfl (lv_at hl 2 rfl) ?_
        refine lv_sipush (v := 255) hx hb d_CO_put_30 (by decide) ?_
        refine lv_icmp_le (tgt := 46) hx hb d_CO_put_33 (by decide) (fun c_33 => ?_) (fun c_33 => ?_)
        · obtain ⟨j, hj, ej⟩ := in_ok c_1 c_12 (by omega)
          subst ej
          refine lv_aload_n hx hb d_CO_put_46 rfl (lv_at hl 0 rfl) ?_
          refine va_get (D := D) (ci := 7) (v := .ref h) (C := R_CO) (T := F_CO) (N := 2) hx hb hts i_CO hown hZ.1 hP 0 rfl rfl 0 (by decide) (hts _ fl_CO_10) (fun _ h9 => h9) rfl d_CO_put_47 ?_
          refine lv_iload_n hx hb d_CO_put_50 rfl (lv_at hl 1 rfl) ?_
          refine lv_iload_n hx hb d_CO_put_51 rfl (lv_at hl 2 rfl) ?_
          have hC : Cut [(o, .inr (7, [.ref h, .ref mm])), (h, .inr (0, [.ref a, .int (nI n)])), (a, .inl (cB, cap, .inl f))] [(h, .inr (0, [.ref a, .int (nI n)])), (a, .inl (cB, cap, .inl f))] [(o, .inr (7, [.ref h, .ref mm]))] [1, 2] [0] := ⟨rfl, rfl, rfl, rfl, by decide⟩
          refine goI0 (trV (As := [.int (nI j), .int b]) (rest := []) ⟨hx, hb, hml, hown, hts⟩ gd_good (c_By_replace l D cB cI cJ h a n cap f j b hj hn) cal_By_replace ml_CO_43 ⟨Nat.le_of_ble_eq_true rfl, Nat.le_of_ble_eq_true rfl⟩ hZ hP hD hC 1 (ci := 0) rfl rfl rfl rfl hl.1 rfl (Nat.le_of_ble_eq_true rfl) d_CO_put_52 ⟨Nat.le_of_ble_eq_true rfl, Nat.le_of_ble_eq_true rfl⟩) hZ hP hD hS hC (fun r_52 w1 H locs hq hP hD hS => ?_)
          obtain ⟨rfl, rfl⟩ := hq
          have hP : va_P D classes [(o, .inr (7, [.ref h, .ref mm])), (h, .inr (0, [.ref a, .int (nI n)])), (a, .inl (cB, cap, .inl (upd f j (vp_nar .byte b.toInt8.toInt32))))] H := hP
          have hD : va_D A_ [(o, .inr (7, [.ref h, .ref mm])), (h, .inr (0, [.ref a, .int (nI n)])), (a, .inl (cB, cap, .inl (upd f j (vp_nar .byte b.toInt8.toInt32))))] := hD
          exact x_ret (t_iret hx hb hr hlk d_CO_put_55 (hP.subm (ws' := [(o, .inr (7, [.ref h, .ref mm])), (h, .inr (0, [.ref a, .int (nI n)])), (a, .inl (cB, cap, .inl (upd f j (vp_nar .byte b.toInt8.toInt32))))]) [0, 1, 2] rfl) (hD.sub (ws' := [(o, .inr (7, [.ref h, .ref mm])), (h, .inr (0, [.ref a, .int (nI n)])), (a, .inl (cB, cap, .inl (upd f j (vp_nar .byte b.toInt8.toInt32))))]) [0, 1, 2] rfl rfl) hS ⟨_, rfl, rfl, rfl, j, rfl, hj, ⟨c_1, c_12⟩, ⟨c_26, c_33⟩, rfl, rfl⟩)
        · exact x_throw hfl hx hb (by rw [hml]; exact hl.1.symm) hlk hown (by decide +kernel) (by decide +kernel) (xat_IA hts hZ.2.1 hXU ml_CO_42) (hts _ cl_CO_38) (hts _ xin_IA) (hXU.2.2.1 _ (List.mem_of_getElem? (i := 1) rfl)) hno (Nat.le_of_ble_eq_true rfl) (Nat.le_of_ble_eq_true rfl) (Nat.le_of_ble_eq_true rfl) (Nat.le_of_ble_eq_true rfl) (Or.inr ⟨rfl, ⟨c_1, c_12⟩, fun z => by exact c_33 z.2⟩) d_CO_put_36 d_CO_put_39 d_CO_put_40 d_CO_put_42 d_CO_put_45
    · exact x_throw hfl hx hb (by rw [hml]; exact hl.1.symm) hlk hown (by decide +kernel) (by decide +kernel) (xat_IO hts hZ.2.1 hXU ml_CO_35) (hts _ cl_CO_31) (hts _ xin_IO) (hXU.2.2.1 _ (List.mem_of_getElem? (i := 0) rfl)) hno (Nat.le_of_ble_eq_true rfl) (Nat.le_of_ble_eq_true rfl) (Nat.le_of_ble_eq_true rfl) (Nat.le_of_ble_eq_true rfl) (Or.inl ⟨rfl, fun z => by exact c_12 z.2⟩) d_CO_put_15 d_CO_put_18 d_CO_put_19 d_CO_put_21 d_CO_put_24
set_option maxHeartbeats 1000000 in
set_option maxRecDepth 100000 in
theorem c_CO_cut (l : Launch) (D : va_G) (cB cI cJ : ClassId) (hfl : l.flags = pinnedFlags ++ [noTraceFlag]) (ad : Nat → Nat) (o h mm a n cap : Nat) (f : Nat → Int32) (y : Int32) (hn : n ≤ cap ∧ cap ≤ 16384) : TrX l D classes (TY cB cI cJ) gd_tbl nx_tbl str_tbl ad y_CO_cut b_CO_cut 2 (some .int) ({ frames := 6, cells := 1, slots := 6, locals := 82 }) [.ref o, .int y] [(o, .inr (7, [.ref h, .ref mm])), (h, .inr (0, [.ref a, .int (nI n)])), (a, .inl (cB, cap, .inl f))] (pI0 (fun r w => ∃ j n' : Nat, y = nI j ∧ j < 2 ^ 31 ∧ n' = min j n ∧ r = nI (n - n') ∧ w = [(o, .inr (7, [.ref h, .ref mm])), (h, .inr (0, [.ref a, .int (nI n')])), (a, .inl (cB, cap, .inl f))])) (fun X => X = "java/lang/IllegalArgumentException" ∧ y < 0) := by
  refine TrX.intro (by decide +kernel) nx_ok (Nat.le_of_ble_eq_true rfl) ?_
  intro p_ e_ s_ m_ args_ below_ meth_ c_ A_ ls hx hb hml hown hts hr hlk hnm hZ hP hD hS hl hXU hno
  have hl : lv_has ls 2 [(0, .ref o), (1, .int y)] := hl
  refine lv_iload_n hx hb d_CO_cut_0 rfl (lv_at hl 1 rfl) ?_
  refine lv_if_ge (tgt := 14) hx hb d_CO_cut_1 (by decide) (fun c_1 => ?_) (fun c_1 => ?_)
  · obtain ⟨j, hj, ej⟩ := nI_of (Int32.not_lt.mpr c_1)
    subst ej
    refine lv_aload_n hx hb d_CO_cut_14 rfl (lv_at hl 0 rfl) ?_
    refine va_get (D := D) (ci := 7) (v := .ref h) (C := R_CO) (T := F_CO) (N := 2) hx hb hts i_CO hown hZ.1 hP 0 rfl rfl 0 (by decide) (hts _ fl_CO_10) (fun _ h9 => h9) rfl d_CO_cut_15 ?_
    refine lv_iload_n hx hb d_CO_cut_18 rfl (lv_at hl 1 rfl) ?_
    have hC : Cut [(o, .inr (7, [.ref h, .ref mm])), (h, .inr (0, [.ref a, .int (nI n)])), (a, .inl (cB, cap, .inl f))] [(h, .inr (0, [.ref a, .int (nI n)])), (a, .inl (cB, cap, .inl f))] [(o, .inr (7, [.ref h, .ref mm]))] [1, 2] [0] := ⟨rfl, rfl, rfl, rfl, by decide⟩
    refine goI0 (trV (As := [.int (nI j)]) (rest := []) ⟨hx, hb, hml, hown, hts⟩ gd_good (c_By_shorten l D cB cI cJ h a n cap f j hj hn) cal_By_shorten ml_CO_49 ⟨Nat.le_of_ble_eq_true rfl, Nat.le_of_ble_eq_true rfl⟩ hZ hP hD hC 1 (ci := 0) rfl rfl rfl rfl hl.1 rfl (Nat.le_of_ble_eq_true rfl) d_CO_cut_19 ⟨Nat.le_of_ble_eq_true rfl, Nat.le_of_ble_eq_true rfl⟩) hZ hP hD hS hC (fun r_19 w1 H locs hq hP hD hS => ?_)
    obtain ⟨n_19, hn_19, rfl, rfl⟩ := hq
    have hP : va_P D classes [(o, .inr (7, [.ref h, .ref mm])), (h, .inr (0, [.ref a, .int (nI n_19)])), (a, .inl (cB, cap, .inl f))] H := hP
    have hD : va_D A_ [(o, .inr (7, [.ref h, .ref mm])), (h, .inr (0, [.ref a, .int (nI n_19)])), (a, .inl (cB, cap, .inl f))] := hD
    exact x_ret (t_iret hx hb hr hlk d_CO_cut_22 (hP.subm (ws' := [(o, .inr (7, [.ref h, .ref mm])), (h, .inr (0, [.ref a, .int (nI n_19)])), (a, .inl (cB, cap, .inl f))]) [0, 1, 2] rfl) (hD.sub (ws' := [(o, .inr (7, [.ref h, .ref mm])), (h, .inr (0, [.ref a, .int (nI n_19)])), (a, .inl (cB, cap, .inl f))]) [0, 1, 2] rfl rfl) hS ⟨_, rfl, rfl, rfl, j, _, rfl, hj, hn_19, rfl, rfl⟩)
  · exact x_throw hfl hx hb (by rw [hml]; exact hl.1.symm) hlk hown (by decide +kernel) (by decide +kernel) (xat_IA hts hZ.2.1 hXU ml_CO_42) (hts _ cl_CO_38) (hts _ xin_IA) (hXU.2.2.1 _ (List.mem_of_getElem? (i := 2) rfl)) hno (Nat.le_of_ble_eq_true rfl) (Nat.le_of_ble_eq_true rfl) (Nat.le_of_ble_eq_true rfl) (Nat.le_of_ble_eq_true rfl) ⟨rfl, Int32.not_le.mp c_1⟩ d_CO_cut_4 d_CO_cut_7 d_CO_cut_8 d_CO_cut_10 d_CO_cut_13
set_option maxHeartbeats 1000000 in
set_option maxRecDepth 100000 in
theorem c_CO_take_0 (l : Launch) (D : va_G) (cB cI cJ : ClassId) (hfl : l.flags = pinnedFlags ++ [noTraceFlag]) (ad : Nat → Nat) (o h a n cap : Nat) (f : Nat → Int32) (mm s v re u : Nat) (zr zs zh zp zt zw zm : Int32) (e0 e1 e2 ki pl en d : Nat) (dp : Int32) (hj aj mj lj cj : Nat) (fj : Nat → Int32) (hn : n ≤ cap ∧ cap ≤ 16384) (hf : sb_Fit f) (hnj : lj ≤ cj ∧ cj ≤ 16384) (hcj : 64 ≤ cj) (hfj : sb_Fit fj) : TrX l D classes (TY cB cI cJ) gd_tbl nx_tbl str_tbl ad y_CO_take b_CO_take 2 (some .int) ({ frames := 5, cells := gF cj, slots := gF cj, locals := 117 }) [.ref o, .int 0] [(o, .inr (7, [.ref h, .ref mm])), (h, .inr (0, [.ref a, .int (nI n)])), (a, .inl (cB, cap, .inl f)), (mm, .inr (6, [.ref s, .ref v, .ref re, .ref u, .int zr, .int zs, .int zh, .int zp, .int zt, .int zw, .int zm])), (s, .inr (2, [.ref e0, .ref e1, .ref e2, .ref ki, .ref pl, .ref en, .int (nI d), .int dp])), (e0, .inr (1, [.ref hj, .int (nI mj)])), (hj, .inr (0, [.ref aj, .int (nI lj)])), (aj, .inl (cB, cj, .inl fj))] (pI (fun r w k q => (¬ shOk n (bt n f) ∧ r = -2 ∧ w = [(o, .inr (7, [.ref h, .ref mm])), (h, .inr (0, [.ref a, .int (nI n)])), (a, .inl (cB, cap, .inl f)), (mm, .inr (6, [.ref s, .ref v, .ref re, .ref u, .int zr, .int zs, .int zh, .int zp, .int zt, .int zw, .int zm])), (s, .inr (2, [.ref e0, .ref e1, .ref e2, .ref ki, .ref pl, .ref en, .int (nI d), .int dp])), (e0, .inr (1, [.ref hj, .int (nI mj)])), (hj, .inr (0, [.ref aj, .int (nI lj)])), (aj, .inl (cB, cj, .inl fj))] ∧ k = 0 ∧ q = 0) ∨ (shOk n (bt n f) ∧ r = nI (mS (bt n f)) ∧ ∃ (a' cap' : Nat) (f' : Nat → Int32), w = [(o, .inr (7, [.ref h, .ref mm])), (h, .inr (0, [.ref a, .int (nI n)])), (a, .inl (cB, cap, .inl f)), (mm, .inr (6, [.ref s, .ref v, .ref re, .ref u, .int zr, .int zs, .int zh, .int zp, .int zt, .int zw, .int zm])), (s, .inr (2, [.ref e0, .ref e1, .ref e2, .ref ki, .ref pl, .ref en, .int (nI d), .int dp])), (e0, .inr (1, [.ref hj, .int (nI (mS (bt n f)))])), (hj, .inr (0, [.ref a', .int (nI n)])), (a', .inl (cB, cap', .inl f'))] ∧ n ≤ cap' ∧ cj ≤ cap' ∧ cap' ≤ 16384 ∧ sb_Fit f' ∧ (∀ i, i < n → f' i = f i) ∧ k ≤ q ∧ q + gF cap' ≤ gF cj))) (fun X => False) := by
  refine TrX.intro (by decide +kernel) nx_ok (Nat.le_of_ble_eq_true rfl) ?_
  intro p_ e_ s_ m_ args_ below_ meth_ c_ A_ ls hx hb hml hown hts hr hlk hnm hZ hP hD hS hl hXU hno
  have hl : lv_has ls 2 [(0, .ref o), (1, .int 0)] := hl
  refine lv_iload_n hx hb d_CO_take_0 rfl (lv_at hl 1 rfl) ?_
  refine roS (As := [.int 0]) (rest := []) ⟨hx, hb, hml, hown, hts⟩ gd_good (c_CO_isKind l D cB cI cJ 0) cal_CO_isKind ml_CO_53 ⟨Nat.le_of_ble_eq_true rfl, Nat.le_of_ble_eq_true rfl⟩ hZ hP hD (isC := []) ⟨rfl, rfl⟩ rfl hl.1 rfl (Nat.le_of_ble_eq_true rfl) d_CO_take_1 ⟨by dsimp only; omega, by dsimp only; omega⟩ (fun v hv => ?_)
  subst hv
  refine lv_if_ne (tgt := 17) hx hb d_CO_take_4 (by decide) (fun c_4 => ?_) (fun c_4 => absurd c_4 (by decide))
  refine lv_aload_n hx hb d_CO_take_17 rfl (lv_at hl 0 rfl) ?_
  refine va_get (D := D) (ci := 7) (v := .ref mm) (C := R_CO) (T := F_CO) (N := 2) hx hb hts i_CO hown hZ.1 hP 0 rfl rfl 1 (by decide) (hts _ fl_CO_19) (fun _ h9 => h9) rfl d_CO_take_18 ?_
  refine lv_iload_n hx hb d_CO_take_21 rfl (lv_at hl 1 rfl) ?_
  refine roV (As := [.int 0]) (rest := []) ⟨hx, hb, hml, hown, hts⟩ gd_good (c_Ma_shelf l D cB cI cJ mm s v re u zr zs zh zp zt zw zm e0 e1 e2 ki pl en d dp 0) cal_Ma_shelf ml_CO_59 ⟨Nat.le_of_ble_eq_true rfl, Nat.le_of_ble_eq_true rfl⟩ hZ hP hD (isC := [3, 4]) ⟨rfl, rfl⟩ 3 (ci := 6) rfl rfl rfl rfl hl.1 rfl (Nat.le_of_ble_eq_true rfl) d_CO_take_22 ⟨by dsimp only; omega, by dsimp only; omega⟩ (fun v hv => ?_)
  have hv : v = .ref e0 := hv
  subst hv
  refine lv_aload_n hx hb d_CO_take_25 rfl (lv_at hl 0 rfl) ?_
  refine va_get (D := D) (ci := 7) (v := .ref h) (C := R_CO) (T := F_CO) (N := 2) hx hb hts i_CO hown hZ.1 hP 0 rfl rfl 0 (by decide) (hts _ fl_CO_10) (fun _ h9 => h9) rfl d_CO_take_26 ?_
  have hC : Cut [(o, .inr (7, [.ref h, .ref mm])), (h, .inr (0, [.ref a, .int (nI n)])), (a, .inl (cB, cap, .inl f)), (mm, .inr (6, [.ref s, .ref v, .ref re, .ref u, .int zr, .int zs, .int zh, .int zp, .int zt, .int zw, .int zm])), (s, .inr (2, [.ref e0, .ref e1, .ref e2, .ref ki, .ref pl, .ref en, .int (nI d), .int dp])), (e0, .inr (1, [.ref hj, .int (nI mj)])), (hj, .inr (0, [.ref aj, .int (nI lj)])), (aj, .inl (cB, cj, .inl fj))] [(e0, .inr (1, [.ref hj, .int (nI mj)])), (hj, .inr (0, [.ref aj, .int (nI lj)])), (aj, .inl (cB, cj, .inl fj)), (h, .inr (0, [.ref a, .int (nI n)])), (a, .inl (cB, cap, .inl f))] [(o, .inr (7, [.ref h, .ref mm])), (mm, .inr (6, [.ref s, .ref v, .ref re, .ref u, .int zr, .int zs, .int zh, .int zp, .int zt, .int zw, .int zm])), (s, .inr (2, [.ref e0, .ref e1, .ref e2, .ref ki, .ref pl, .ref en, .int (nI d), .int dp]))] [5, 6, 7, 1, 2] [0, 3, 4] := ⟨rfl, rfl, rfl, rfl, by decide⟩
  refine goI (trV (As := [.ref h]) (rest := []) ⟨hx, hb, hml, hown, hts⟩ gd_good (c_Sh_fill l D cB cI cJ e0 hj aj mj lj cj fj h a n cap f hnj hcj hfj hn hf) cal_Sh_fill ml_CO_63 ⟨Nat.le_of_ble_eq_true rfl, Nat.le_of_ble_eq_true rfl⟩ hZ hP hD hC 5 (ci := 1) rfl rfl rfl rfl hl.1 rfl (Nat.le_of_ble_eq_true rfl) d_CO_take_29 ⟨by dsimp only; omega, by dsimp only; omega⟩) hZ hP hD hS hC (fun r_29 w1 kk_29 qq_29 H locs hq hP hD hS => ?_)
  rcases hq with hq | hq
  · obtain ⟨hns, rfl, rfl, rfl, rfl⟩ := hq
    have hP : va_P D classes [(o, .inr (7, [.ref h, .ref mm])), (mm, .inr (6, [.ref s, .ref v, .ref re, .ref u, .int zr, .int zs, .int zh, .int zp, .int zt, .int zw, .int zm])), (s, .inr (2, [.ref e0, .ref e1, .ref e2, .ref ki, .ref pl, .ref en, .int (nI d), .int dp])), (e0, .inr (1, [.ref hj, .int (nI mj)])), (hj, .inr (0, [.ref aj, .int (nI lj)])), (aj, .inl (cB, cj, .inl fj)), (h, .inr (0, [.ref a, .int (nI n)])), (a, .inl (cB, cap, .inl f))] H := hP
    have hD : va_D A_ [(o, .inr (7, [.ref h, .ref mm])), (mm, .inr (6, [.ref s, .ref v, .ref re, .ref u, .int zr, .int zs, .int zh, .int zp, .int zt, .int zw, .int zm])), (s, .inr (2, [.ref e0, .ref e1, .ref e2, .ref ki, .ref pl, .ref en, .int (nI d), .int dp])), (e0, .inr (1, [.ref hj, .int (nI mj)])), (hj, .inr (0, [.ref aj, .int (nI lj)])), (aj, .inl (cB, cj, .inl fj)), (h, .inr (0, [.ref a, .int (nI n)])), (a, .inl (cB, cap, .inl f))] := hD
    exact x_ret (t_iret hx hb hr hlk d_CO_take_32 (hP.subm (ws' := [(o, .inr (7, [.ref h, .ref mm])), (h, .inr (0, [.ref a, .int (nI n)])), (a, .inl (cB, cap, .inl f)), (mm, .inr (6, [.ref s, .ref v, .ref re, .ref u, .int zr, .int zs, .int zh, .int zp, .int zt, .int zw, .int zm])), (s, .inr (2, [.ref e0, .ref e1, .ref e2, .ref ki, .ref pl, .ref en, .int (nI d), .int dp])), (e0, .inr (1, [.ref hj, .int (nI mj)])), (hj, .inr (0, [.ref aj, .int (nI lj)])), (aj, .inl (cB, cj, .inl fj))]) [0, 6, 7, 1, 2, 3, 4, 5] rfl) (hD.sub (ws' := [(o, .inr (7, [.ref h, .ref mm])), (h, .inr (0, [.ref a, .int (nI n)])), (a, .inl (cB, cap, .inl f)), (mm, .inr (6, [.ref s, .ref v, .ref re, .ref u, .int zr, .int zs, .int zh, .int zp, .int zt, .int zw, .int zm])), (s, .inr (2, [.ref e0, .ref e1, .ref e2, .ref ki, .ref pl, .ref en, .int (nI d), .int dp])), (e0, .inr (1, [.ref hj, .int (nI mj)])), (hj, .inr (0, [.ref aj, .int (nI lj)])), (aj, .inl (cB, cj, .inl fj))]) [0, 6, 7, 1, 2, 3, 4, 5] rfl rfl) hS ⟨_, rfl, Or.inl ⟨hns, rfl, rfl, rfl, rfl⟩⟩)
  · obtain ⟨hsh, rfl, a'29, cap'29, f'29, rfl, hb1, hb2, hb3, hb4, hb5, hb6, hb7⟩ := hq
    have hP : va_P D classes [(o, .inr (7, [.ref h, .ref mm])), (mm, .inr (6, [.ref s, .ref v, .ref re, .ref u, .int zr, .int zs, .int zh, .int zp, .int zt, .int zw, .int zm])), (s, .inr (2, [.ref e0, .ref e1, .ref e2, .ref ki, .ref pl, .ref en, .int (nI d), .int dp])), (e0, .inr (1, [.ref hj, .int (nI (mS (bt n f)))])), (hj, .inr (0, [.ref a'29, .int (nI n)])), (a'29, .inl (cB, cap'29, .inl f'29)), (h, .inr (0, [.ref a, .int (nI n)])), (a, .inl (cB, cap, .inl f))] H := hP
    have hD : va_D A_ [(o, .inr (7, [.ref h, .ref mm])), (mm, .inr (6, [.ref s, .ref v, .ref re, .ref u, .int zr, .int zs, .int zh, .int zp, .int zt, .int zw, .int zm])), (s, .inr (2, [.ref e0, .ref e1, .ref e2, .ref ki, .ref pl, .ref en, .int (nI d), .int dp])), (e0, .inr (1, [.ref hj, .int (nI (mS (bt n f)))])), (hj, .inr (0, [.ref a'29, .int (nI n)])), (a'29, .inl (cB, cap'29, .inl f'29)), (h, .inr (0, [.ref a, .int (nI n)])), (a, .inl (cB, cap, .inl f))] := hD
    exact x_ret (t_iret hx hb hr hlk d_CO_take_32 (hP.subm (ws' := [(o, .inr (7, [.ref h, .ref mm])), (h, .inr (0, [.ref a, .int (nI n)])), (a, .inl (cB, cap, .inl f)), (mm, .inr (6, [.ref s, .ref v, .ref re, .ref u, .int zr, .int zs, .int zh, .int zp, .int zt, .int zw, .int zm])), (s, .inr (2, [.ref e0, .ref e1, .ref e2, .ref ki, .ref pl, .ref en, .int (nI d), .int dp])), (e0, .inr (1, [.ref hj, .int (nI (mS (bt n f)))])), (hj, .inr (0, [.ref a'29, .int (nI n)])), (a'29, .inl (cB, cap'29, .inl f'29))]) [0, 6, 7, 1, 2, 3, 4, 5] rfl) (hD.sub (ws' := [(o, .inr (7, [.ref h, .ref mm])), (h, .inr (0, [.ref a, .int (nI n)])), (a, .inl (cB, cap, .inl f)), (mm, .inr (6, [.ref s, .ref v, .ref re, .ref u, .int zr, .int zs, .int zh, .int zp, .int zt, .int zw, .int zm])), (s, .inr (2, [.ref e0, .ref e1, .ref e2, .ref ki, .ref pl, .ref en, .int (nI d), .int dp])), (e0, .inr (1, [.ref hj, .int (nI (mS (bt n f)))])), (hj, .inr (0, [.ref a'29, .int (nI n)])), (a'29, .inl (cB, cap'29, .inl f'29))]) [0, 6, 7, 1, 2, 3, 4, 5] rfl rfl) hS ⟨_, rfl, Or.inr ⟨hsh, rfl, _, _, _, rfl, hb1, hb2, hb3, hb4, hb5, by omega, by omega⟩⟩)
set_option maxHeartbeats 1000000 in
set_option maxRecDepth 100000 in
theorem c_CO_take_1 (l : Launch) (D : va_G) (cB cI cJ : ClassId) (hfl : l.flags = pinnedFlags ++ [noTraceFlag]) (ad : Nat → Nat) (o h a n cap : Nat) (f : Nat → Int32) (mm s v re u : Nat) (zr zs zh zp zt zw zm : Int32) (e0 e1 e2 ki pl en d : Nat) (dp : Int32) (hj aj mj lj cj : Nat) (fj : Nat → Int32) (hn : n ≤ cap ∧ cap ≤ 16384) (hf : sb_Fit f) (hnj : lj ≤ cj ∧ cj ≤ 16384) (hcj : 64 ≤ cj) (hfj : sb_Fit fj) : TrX l D classes (TY cB cI cJ) gd_tbl nx_tbl str_tbl ad y_CO_take b_CO_take 2 (some .int) ({ frames := 5, cells := gF cj, slots := gF cj, locals := 117 }) [.ref o, .int 1] [(o, .inr (7, [.ref h, .ref mm])), (h, .inr (0, [.ref a, .int (nI n)])), (a, .inl (cB, cap, .inl f)), (mm, .inr (6, [.ref s, .ref v, .ref re, .ref u, .int zr, .int zs, .int zh, .int zp, .int zt, .int zw, .int zm])), (s, .inr (2, [.ref e0, .ref e1, .ref e2, .ref ki, .ref pl, .ref en, .int (nI d), .int dp])), (e1, .inr (1, [.ref hj, .int (nI mj)])), (hj, .inr (0, [.ref aj, .int (nI lj)])), (aj, .inl (cB, cj, .inl fj))] (pI (fun r w k q => (¬ shOk n (bt n f) ∧ r = -2 ∧ w = [(o, .inr (7, [.ref h, .ref mm])), (h, .inr (0, [.ref a, .int (nI n)])), (a, .inl (cB, cap, .inl f)), (mm, .inr (6, [.ref s, .ref v, .ref re, .ref u, .int zr, .int zs, .int zh, .int zp, .int zt, .int zw, .int zm])), (s, .inr (2, [.ref e0, .ref e1, .ref e2, .ref ki, .ref pl, .ref en, .int (nI d), .int dp])), (e1, .inr (1, [.ref hj, .int (nI mj)])), (hj, .inr (0, [.ref aj, .int (nI lj)])), (aj, .inl (cB, cj, .inl fj))] ∧ k = 0 ∧ q = 0) ∨ (shOk n (bt n f) ∧ r = nI (mS (bt n f)) ∧ ∃ (a' cap' : Nat) (f' : Nat → Int32), w = [(o, .inr (7, [.ref h, .ref mm])), (h, .inr (0, [.ref a, .int (nI n)])), (a, .inl (cB, cap, .inl f)), (mm, .inr (6, [.ref s, .ref v, .ref re, .ref u, .int zr, .int zs, .int zh, .int zp, .int zt, .int zw, .int zm])), (s, .inr (2, [.ref e0, .ref e1, .ref e2, .ref ki, .ref pl, .ref en, .int (nI d), .int dp])), (e1, .inr (1, [.ref hj, .int (nI (mS (bt n f)))])), (hj, .inr (0, [.ref a', .int (nI n)])), (a', .inl (cB, cap', .inl f'))] ∧ n ≤ cap' ∧ cj ≤ cap' ∧ cap' ≤ 16384 ∧ sb_Fit f' ∧ (∀ i, i < n → f' i = f i) ∧ k ≤ q ∧ q + gF cap' ≤ gF cj))) (fun X => False) := by
  refine TrX.intro (by decide +kernel) nx_ok (Nat.le_of_ble_eq_true rfl) ?_
  intro p_ e_ s_ m_ args_ below_ meth_ c_ A_ ls hx hb hml hown hts hr hlk hnm hZ hP hD hS hl hXU hno
  have hl : lv_has ls 2 [(0, .ref o), (1, .int 1)] := hl
  refine lv_iload_n hx hb d_CO_take_0 rfl (lv_at hl 1 rfl) ?_
  refine roS (As := [.int 1]) (rest := []) ⟨hx, hb, hml, hown, hts⟩ gd_good (c_CO_isKind l D cB cI cJ 1) cal_CO_isKind ml_CO_53 ⟨Nat.le_of_ble_eq_true rfl, Nat.le_of_ble_eq_true rfl⟩ hZ hP hD (isC := []) ⟨rfl, rfl⟩ rfl hl.1 rfl (Nat.le_of_ble_eq_true rfl) d_CO_take_1 ⟨by dsimp only; omega, by dsimp only; omega⟩ (fun v hv => ?_)
  subst hv
  refine lv_if_ne (tgt := 17) hx hb d_CO_take_4 (by decide) (fun c_4 => ?_) (fun c_4 => absurd c_4 (by decide))
  refine lv_aload_n hx hb d_CO_take_17 rfl (lv_at hl 0 rfl) ?_
  refine va_get (D := D) (ci := 7) (v := .ref mm) (C := R_CO) (T := F_CO) (N := 2) hx hb hts i_CO hown hZ.1 hP 0 rfl rfl 1 (by decide) (hts _ fl_CO_19) (fun _ h9 => h9) rfl d_CO_take_18 ?_
  refine lv_iload_n hx hb d_CO_take_21 rfl (lv_at hl 1 rfl) ?_
  refine roV (As := [.int 1]) (rest := []) ⟨hx, hb, hml, hown, hts⟩ gd_good (c_Ma_shelf l D cB cI cJ mm s v re u zr zs zh zp zt zw zm e0 e1 e2 ki pl en d dp 1) cal_Ma_shelf ml_CO_59 ⟨Nat.le_of_ble_eq_true rfl, Nat.le_of_ble_eq_true rfl⟩ hZ hP hD (isC := [3, 4]) ⟨rfl, rfl⟩ 3 (ci := 6) rfl rfl rfl rfl hl.1 rfl (Nat.le_of_ble_eq_true rfl) d_CO_take_22 ⟨by dsimp only; omega, by dsimp only; omega⟩ (fun v hv => ?_)
  have hv : v = .ref e1 := hv
  subst hv
  refine lv_aload_n hx hb d_CO_take_25 rfl (lv_at hl 0 rfl) ?_
  refine va_get (D := D) (ci := 7) (v := .ref h) (C := R_CO) (T := F_CO) (N := 2) hx hb hts i_CO hown hZ.1 hP 0 rfl rfl 0 (by decide) (hts _ fl_CO_10) (fun _ h9 => h9) rfl d_CO_take_26 ?_
  have hC : Cut [(o, .inr (7, [.ref h, .ref mm])), (h, .inr (0, [.ref a, .int (nI n)])), (a, .inl (cB, cap, .inl f)), (mm, .inr (6, [.ref s, .ref v, .ref re, .ref u, .int zr, .int zs, .int zh, .int zp, .int zt, .int zw, .int zm])), (s, .inr (2, [.ref e0, .ref e1, .ref e2, .ref ki, .ref pl, .ref en, .int (nI d), .int dp])), (e1, .inr (1, [.ref hj, .int (nI mj)])), (hj, .inr (0, [.ref aj, .int (nI lj)])), (aj, .inl (cB, cj, .inl fj))] [(e1, .inr (1, [.ref hj, .int (nI mj)])), (hj, .inr (0, [.ref aj, .int (nI lj)])), (aj, .inl (cB, cj, .inl fj)), (h, .inr (0, [.ref a, .int (nI n)])), (a, .inl (cB, cap, .inl f))] [(o, .inr (7, [.ref h, .ref mm])), (mm, .inr (6, [.ref s, .ref v, .ref re, .ref u, .int zr, .int zs, .int zh, .int zp, .int zt, .int zw, .int zm])), (s, .inr (2, [.ref e0, .ref e1, .ref e2, .ref ki, .ref pl, .ref en, .int (nI d), .int dp]))] [5, 6, 7, 1, 2] [0, 3, 4] := ⟨rfl, rfl, rfl, rfl, by decide⟩
  refine goI (trV (As := [.ref h]) (rest := []) ⟨hx, hb, hml, hown, hts⟩ gd_good (c_Sh_fill l D cB cI cJ e1 hj aj mj lj cj fj h a n cap f hnj hcj hfj hn hf) cal_Sh_fill ml_CO_63 ⟨Nat.le_of_ble_eq_true rfl, Nat.le_of_ble_eq_true rfl⟩ hZ hP hD hC 5 (ci := 1) rfl rfl rfl rfl hl.1 rfl (Nat.le_of_ble_eq_true rfl) d_CO_take_29 ⟨by dsimp only; omega, by dsimp only; omega⟩) hZ hP hD hS hC (fun r_29 w1 kk_29 qq_29 H locs hq hP hD hS => ?_)
  rcases hq with hq | hq
  · obtain ⟨hns, rfl, rfl, rfl, rfl⟩ := hq
    have hP : va_P D classes [(o, .inr (7, [.ref h, .ref mm])), (mm, .inr (6, [.ref s, .ref v, .ref re, .ref u, .int zr, .int zs, .int zh, .int zp, .int zt, .int zw, .int zm])), (s, .inr (2, [.ref e0, .ref e1, .ref e2, .ref ki, .ref pl, .ref en, .int (nI d), .int dp])), (e1, .inr (1, [.ref hj, .int (nI mj)])), (hj, .inr (0, [.ref aj, .int (nI lj)])), (aj, .inl (cB, cj, .inl fj)), (h, .inr (0, [.ref a, .int (nI n)])), (a, .inl (cB, cap, .inl f))] H := hP
    have hD : va_D A_ [(o, .inr (7, [.ref h, .ref mm])), (mm, .inr (6, [.ref s, .ref v, .ref re, .ref u, .int zr, .int zs, .int zh, .int zp, .int zt, .int zw, .int zm])), (s, .inr (2, [.ref e0, .ref e1, .ref e2, .ref ki, .ref pl, .ref en, .int (nI d), .int dp])), (e1, .inr (1, [.ref hj, .int (nI mj)])), (hj, .inr (0, [.ref aj, .int (nI lj)])), (aj, .inl (cB, cj, .inl fj)), (h, .inr (0, [.ref a, .int (nI n)])), (a, .inl (cB, cap, .inl f))] := hD
    exact x_ret (t_iret hx hb hr hlk d_CO_take_32 (hP.subm (ws' := [(o, .inr (7, [.ref h, .ref mm])), (h, .inr (0, [.ref a, .int (nI n)])), (a, .inl (cB, cap, .inl f)), (mm, .inr (6, [.ref s, .ref v, .ref re, .ref u, .int zr, .int zs, .int zh, .int zp, .int zt, .int zw, .int zm])), (s, .inr (2, [.ref e0, .ref e1, .ref e2, .ref ki, .ref pl, .ref en, .int (nI d), .int dp])), (e1, .inr (1, [.ref hj, .int (nI mj)])), (hj, .inr (0, [.ref aj, .int (nI lj)])), (aj, .inl (cB, cj, .inl fj))]) [0, 6, 7, 1, 2, 3, 4, 5] rfl) (hD.sub (ws' := [(o, .inr (7, [.ref h, .ref mm])), (h, .inr (0, [.ref a, .int (nI n)])), (a, .inl (cB, cap, .inl f)), (mm, .inr (6, [.ref s, .ref v, .ref re, .ref u, .int zr, .int zs, .int zh, .int zp, .int zt, .int zw, .int zm])), (s, .inr (2, [.ref e0, .ref e1, .ref e2, .ref ki, .ref pl, .ref en, .int (nI d), .int dp])), (e1, .inr (1, [.ref hj, .int (nI mj)])), (hj, .inr (0, [.ref aj, .int (nI lj)])), (aj, .inl (cB, cj, .inl fj))]) [0, 6, 7, 1, 2, 3, 4, 5] rfl rfl) hS ⟨_, rfl, Or.inl ⟨hns, rfl, rfl, rfl, rfl⟩⟩)
  · obtain ⟨hsh, rfl, a'29, cap'29, f'29, rfl, hb1, hb2, hb3, hb4, hb5, hb6, hb7⟩ := hq
    have hP : va_P D classes [(o, .inr (7, [.ref h, .ref mm])), (mm, .inr (6, [.ref s, .ref v, .ref re, .ref u, .int zr, .int zs, .int zh, .int zp, .int zt, .int zw, .int zm])), (s, .inr (2, [.ref e0, .ref e1, .ref e2, .ref ki, .ref pl, .ref en, .int (nI d), .int dp])), (e1, .inr (1, [.ref hj, .int (nI (mS (bt n f)))])), (hj, .inr (0, [.ref a'29, .int (nI n)])), (a'29, .inl (cB, cap'29, .inl f'29)), (h, .inr (0, [.ref a, .int (nI n)])), (a, .inl (cB, cap, .inl f))] H := hP
    have hD : va_D A_ [(o, .inr (7, [.ref h, .ref mm])), (mm, .inr (6, [.ref s, .ref v, .ref re, .ref u, .int zr, .int zs, .int zh, .int zp, .int zt, .int zw, .int zm])), (s, .inr (2, [.ref e0, .ref e1, .ref e2, .ref ki, .ref pl, .ref en, .int (nI d), .int dp])), (e1, .inr (1, [.ref hj, .int (nI (mS (bt n f)))])), (hj, .inr (0, [.ref a'29, .int (nI n)])), (a'29, .inl (cB, cap'29, .inl f'29)), (h, .inr (0, [.ref a, .int (nI n)])), (a, .inl (cB, cap, .inl f))] := hD
    exact x_ret (t_iret hx hb hr hlk d_CO_take_32 (hP.subm (ws' := [(o, .inr (7, [.ref h, .ref mm])), (h, .inr (0, [.ref a, .int (nI n)])), (a, .inl (cB, cap, .inl f)), (mm, .inr (6, [.ref s, .ref v, .ref re, .ref u, .int zr, .int zs, .int zh, .int zp, .int zt, .int zw, .int zm])), (s, .inr (2, [.ref e0, .ref e1, .ref e2, .ref ki, .ref pl, .ref en, .int (nI d), .int dp])), (e1, .inr (1, [.ref hj, .int (nI (mS (bt n f)))])), (hj, .inr (0, [.ref a'29, .int (nI n)])), (a'29, .inl (cB, cap'29, .inl f'29))]) [0, 6, 7, 1, 2, 3, 4, 5] rfl) (hD.sub (ws' := [(o, .inr (7, [.ref h, .ref mm])), (h, .inr (0, [.ref a, .int (nI n)])), (a, .inl (cB, cap, .inl f)), (mm, .inr (6, [.ref s, .ref v, .ref re, .ref u, .int zr, .int zs, .int zh, .int zp, .int zt, .int zw, .int zm])), (s, .inr (2, [.ref e0, .ref e1, .ref e2, .ref ki, .ref pl, .ref en, .int (nI d), .int dp])), (e1, .inr (1, [.ref hj, .int (nI (mS (bt n f)))])), (hj, .inr (0, [.ref a'29, .int (nI n)])), (a'29, .inl (cB, cap'29, .inl f'29))]) [0, 6, 7, 1, 2, 3, 4, 5] rfl rfl) hS ⟨_, rfl, Or.inr ⟨hsh, rfl, _, _, _, rfl, hb1, hb2, hb3, hb4, hb5, by omega, by omega⟩⟩)
set_option maxHeartbeats 1000000 in
set_option maxRecDepth 100000 in
theorem c_CO_take_2 (l : Launch) (D : va_G) (cB cI cJ : ClassId) (hfl : l.flags = pinnedFlags ++ [noTraceFlag]) (ad : Nat → Nat) (o h a n cap : Nat) (f : Nat → Int32) (mm s v re u : Nat) (zr zs zh zp zt zw zm : Int32) (e0 e1 e2 ki pl en d : Nat) (dp : Int32) (hj aj mj lj cj : Nat) (fj : Nat → Int32) (hn : n ≤ cap ∧ cap ≤ 16384) (hf : sb_Fit f) (hnj : lj ≤ cj ∧ cj ≤ 16384) (hcj : 64 ≤ cj) (hfj : sb_Fit fj) : TrX l D classes (TY cB cI cJ) gd_tbl nx_tbl str_tbl ad y_CO_take b_CO_take 2 (some .int) ({ frames := 5, cells := gF cj, slots := gF cj, locals := 117 }) [.ref o, .int 2] [(o, .inr (7, [.ref h, .ref mm])), (h, .inr (0, [.ref a, .int (nI n)])), (a, .inl (cB, cap, .inl f)), (mm, .inr (6, [.ref s, .ref v, .ref re, .ref u, .int zr, .int zs, .int zh, .int zp, .int zt, .int zw, .int zm])), (s, .inr (2, [.ref e0, .ref e1, .ref e2, .ref ki, .ref pl, .ref en, .int (nI d), .int dp])), (e2, .inr (1, [.ref hj, .int (nI mj)])), (hj, .inr (0, [.ref aj, .int (nI lj)])), (aj, .inl (cB, cj, .inl fj))] (pI (fun r w k q => (¬ shOk n (bt n f) ∧ r = -2 ∧ w = [(o, .inr (7, [.ref h, .ref mm])), (h, .inr (0, [.ref a, .int (nI n)])), (a, .inl (cB, cap, .inl f)), (mm, .inr (6, [.ref s, .ref v, .ref re, .ref u, .int zr, .int zs, .int zh, .int zp, .int zt, .int zw, .int zm])), (s, .inr (2, [.ref e0, .ref e1, .ref e2, .ref ki, .ref pl, .ref en, .int (nI d), .int dp])), (e2, .inr (1, [.ref hj, .int (nI mj)])), (hj, .inr (0, [.ref aj, .int (nI lj)])), (aj, .inl (cB, cj, .inl fj))] ∧ k = 0 ∧ q = 0) ∨ (shOk n (bt n f) ∧ r = nI (mS (bt n f)) ∧ ∃ (a' cap' : Nat) (f' : Nat → Int32), w = [(o, .inr (7, [.ref h, .ref mm])), (h, .inr (0, [.ref a, .int (nI n)])), (a, .inl (cB, cap, .inl f)), (mm, .inr (6, [.ref s, .ref v, .ref re, .ref u, .int zr, .int zs, .int zh, .int zp, .int zt, .int zw, .int zm])), (s, .inr (2, [.ref e0, .ref e1, .ref e2, .ref ki, .ref pl, .ref en, .int (nI d), .int dp])), (e2, .inr (1, [.ref hj, .int (nI (mS (bt n f)))])), (hj, .inr (0, [.ref a', .int (nI n)])), (a', .inl (cB, cap', .inl f'))] ∧ n ≤ cap' ∧ cj ≤ cap' ∧ cap' ≤ 16384 ∧ sb_Fit f' ∧ (∀ i, i < n → f' i = f i) ∧ k ≤ q ∧ q + gF cap' ≤ gF cj))) (fun X => False) := by
  refine TrX.intro (by decide +kernel) nx_ok (Nat.le_of_ble_eq_true rfl) ?_
  intro p_ e_ s_ m_ args_ below_ meth_ c_ A_ ls hx hb hml hown hts hr hlk hnm hZ hP hD hS hl hXU hno
  have hl : lv_has ls 2 [(0, .ref o), (1, .int 2)] := hl
  refine lv_iload_n hx hb d_CO_take_0 rfl (lv_at hl 1 rfl) ?_
  refine roS (As := [.int 2]) (rest := []) ⟨hx, hb, hml, hown, hts⟩ gd_good (c_CO_isKind l D cB cI cJ 2) cal_CO_isKind ml_CO_53 ⟨Nat.le_of_ble_eq_true rfl, Nat.le_of_ble_eq_true rfl⟩ hZ hP hD (isC := []) ⟨rfl, rfl⟩ rfl hl.1 rfl (Nat.le_of_ble_eq_true rfl) d_CO_take_1 ⟨by dsimp only; omega, by dsimp only; omega⟩ (fun v hv => ?_)
  subst hv
  refine lv_if_ne (tgt := 17) hx hb d_CO_take_4 (by decide) (fun c_4 => ?_) (fun c_4 => absurd c_4 (by decide))
  refine lv_aload_n hx hb d_CO_take_17 rfl (lv_at hl 0 rfl) ?_
  refine va_get (D := D) (ci := 7) (v := .ref mm) (C := R_CO) (T := F_CO) (N := 2) hx hb hts i_CO hown hZ.1 hP 0 rfl rfl 1 (by decide) (hts _ fl_CO_19) (fun _ h9 => h9) rfl d_CO_take_18 ?_
  refine lv_iload_n hx hb d_CO_take_21 rfl (lv_at hl 1 rfl) ?_
  refine roV (As := [.int 2]) (rest := []) ⟨hx, hb, hml, hown, hts⟩ gd_good (c_Ma_shelf l D cB cI cJ mm s v re u zr zs zh zp zt zw zm e0 e1 e2 ki pl en d dp 2) cal_Ma_shelf ml_CO_59 ⟨Nat.le_of_ble_eq_true rfl, Nat.le_of_ble_eq_true rfl⟩ hZ hP hD (isC := [3, 4]) ⟨rfl, rfl⟩ 3 (ci := 6) rfl rfl rfl rfl hl.1 rfl (Nat.le_of_ble_eq_true rfl) d_CO_take_22 ⟨by dsimp only; omega, by dsimp only; omega⟩ (fun v hv => ?_)
  have hv : v = .ref e2 := hv
  subst hv
  refine lv_aload_n hx hb d_CO_take_25 rfl (lv_at hl 0 rfl) ?_
  refine va_get (D := D) (ci := 7) (v := .ref h) (C := R_CO) (T := F_CO) (N := 2) hx hb hts i_CO hown hZ.1 hP 0 rfl rfl 0 (by decide) (hts _ fl_CO_10) (fun _ h9 => h9) rfl d_CO_take_26 ?_
  have hC : Cut [(o, .inr (7, [.ref h, .ref mm])), (h, .inr (0, [.ref a, .int (nI n)])), (a, .inl (cB, cap, .inl f)), (mm, .inr (6, [.ref s, .ref v, .ref re, .ref u, .int zr, .int zs, .int zh, .int zp, .int zt, .int zw, .int zm])), (s, .inr (2, [.ref e0, .ref e1, .ref e2, .ref ki, .ref pl, .ref en, .int (nI d), .int dp])), (e2, .inr (1, [.ref hj, .int (nI mj)])), (hj, .inr (0, [.ref aj, .int (nI lj)])), (aj, .inl (cB, cj, .inl fj))] [(e2, .inr (1, [.ref hj, .int (nI mj)])), (hj, .inr (0, [.ref aj, .int (nI lj)])), (aj, .inl (cB, cj, .inl fj)), (h, .inr (0, [.ref a, .int (nI n)])), (a, .inl (cB, cap, .inl f))] [(o, .inr (7, [.ref h, .ref mm])), (mm, .inr (6, [.ref s, .ref v, .ref re, .ref u, .int zr, .int zs, .int zh, .int zp, .int zt, .int zw, .int zm])), (s, .inr (2, [.ref e0, .ref e1, .ref e2, .ref ki, .ref pl, .ref en, .int (nI d), .int dp]))] [5, 6, 7, 1, 2] [0, 3, 4] := ⟨rfl, rfl, rfl, rfl, by decide⟩
  refine goI (trV (As := [.ref h]) (rest := []) ⟨hx, hb, hml, hown, hts⟩ gd_good (c_Sh_fill l D cB cI cJ e2 hj aj mj lj cj fj h a n cap f hnj hcj hfj hn hf) cal_Sh_fill ml_CO_63 ⟨Nat.le_of_ble_eq_true rfl, Nat.le_of_ble_eq_true rfl⟩ hZ hP hD hC 5 (ci := 1) rfl rfl rfl rfl hl.1 rfl (Nat.le_of_ble_eq_true rfl) d_CO_take_29 ⟨by dsimp only; omega, by dsimp only; omega⟩) hZ hP hD hS hC (fun r_29 w1 kk_29 qq_29 H locs hq hP hD hS => ?_)
  rcases hq with hq | hq
  · obtain ⟨hns, rfl, rfl, rfl, rfl⟩ := hq
    have hP : va_P D classes [(o, .inr (7, [.ref h, .ref mm])), (mm, .inr (6, [.ref s, .ref v, .ref re, .ref u, .int zr, .int zs, .int zh, .int zp, .int zt, .int zw, .int zm])), (s, .inr (2, [.ref e0, .ref e1, .ref e2, .ref ki, .ref pl, .ref en, .int (nI d), .int dp])), (e2, .inr (1, [.ref hj, .int (nI mj)])), (hj, .inr (0, [.ref aj, .int (nI lj)])), (aj, .inl (cB, cj, .inl fj)), (h, .inr (0, [.ref a, .int (nI n)])), (a, .inl (cB, cap, .inl f))] H := hP
    have hD : va_D A_ [(o, .inr (7, [.ref h, .ref mm])), (mm, .inr (6, [.ref s, .ref v, .ref re, .ref u, .int zr, .int zs, .int zh, .int zp, .int zt, .int zw, .int zm])), (s, .inr (2, [.ref e0, .ref e1, .ref e2, .ref ki, .ref pl, .ref en, .int (nI d), .int dp])), (e2, .inr (1, [.ref hj, .int (nI mj)])), (hj, .inr (0, [.ref aj, .int (nI lj)])), (aj, .inl (cB, cj, .inl fj)), (h, .inr (0, [.ref a, .int (nI n)])), (a, .inl (cB, cap, .inl f))] := hD
    exact x_ret (t_iret hx hb hr hlk d_CO_take_32 (hP.subm (ws' := [(o, .inr (7, [.ref h, .ref mm])), (h, .inr (0, [.ref a, .int (nI n)])), (a, .inl (cB, cap, .inl f)), (mm, .inr (6, [.ref s, .ref v, .ref re, .ref u, .int zr, .int zs, .int zh, .int zp, .int zt, .int zw, .int zm])), (s, .inr (2, [.ref e0, .ref e1, .ref e2, .ref ki, .ref pl, .ref en, .int (nI d), .int dp])), (e2, .inr (1, [.ref hj, .int (nI mj)])), (hj, .inr (0, [.ref aj, .int (nI lj)])), (aj, .inl (cB, cj, .inl fj))]) [0, 6, 7, 1, 2, 3, 4, 5] rfl) (hD.sub (ws' := [(o, .inr (7, [.ref h, .ref mm])), (h, .inr (0, [.ref a, .int (nI n)])), (a, .inl (cB, cap, .inl f)), (mm, .inr (6, [.ref s, .ref v, .ref re, .ref u, .int zr, .int zs, .int zh, .int zp, .int zt, .int zw, .int zm])), (s, .inr (2, [.ref e0, .ref e1, .ref e2, .ref ki, .ref pl, .ref en, .int (nI d), .int dp])), (e2, .inr (1, [.ref hj, .int (nI mj)])), (hj, .inr (0, [.ref aj, .int (nI lj)])), (aj, .inl (cB, cj, .inl fj))]) [0, 6, 7, 1, 2, 3, 4, 5] rfl rfl) hS ⟨_, rfl, Or.inl ⟨hns, rfl, rfl, rfl, rfl⟩⟩)
  · obtain ⟨hsh, rfl, a'29, cap'29, f'29, rfl, hb1, hb2, hb3, hb4, hb5, hb6, hb7⟩ := hq
    have hP : va_P D classes [(o, .inr (7, [.ref h, .ref mm])), (mm, .inr (6, [.ref s, .ref v, .ref re, .ref u, .int zr, .int zs, .int zh, .int zp, .int zt, .int zw, .int zm])), (s, .inr (2, [.ref e0, .ref e1, .ref e2, .ref ki, .ref pl, .ref en, .int (nI d), .int dp])), (e2, .inr (1, [.ref hj, .int (nI (mS (bt n f)))])), (hj, .inr (0, [.ref a'29, .int (nI n)])), (a'29, .inl (cB, cap'29, .inl f'29)), (h, .inr (0, [.ref a, .int (nI n)])), (a, .inl (cB, cap, .inl f))] H := hP
    have hD : va_D A_ [(o, .inr (7, [.ref h, .ref mm])), (mm, .inr (6, [.ref s, .ref v, .ref re, .ref u, .int zr, .int zs, .int zh, .int zp, .int zt, .int zw, .int zm])), (s, .inr (2, [.ref e0, .ref e1, .ref e2, .ref ki, .ref pl, .ref en, .int (nI d), .int dp])), (e2, .inr (1, [.ref hj, .int (nI (mS (bt n f)))])), (hj, .inr (0, [.ref a'29, .int (nI n)])), (a'29, .inl (cB, cap'29, .inl f'29)), (h, .inr (0, [.ref a, .int (nI n)])), (a, .inl (cB, cap, .inl f))] := hD
    exact x_ret (t_iret hx hb hr hlk d_CO_take_32 (hP.subm (ws' := [(o, .inr (7, [.ref h, .ref mm])), (h, .inr (0, [.ref a, .int (nI n)])), (a, .inl (cB, cap, .inl f)), (mm, .inr (6, [.ref s, .ref v, .ref re, .ref u, .int zr, .int zs, .int zh, .int zp, .int zt, .int zw, .int zm])), (s, .inr (2, [.ref e0, .ref e1, .ref e2, .ref ki, .ref pl, .ref en, .int (nI d), .int dp])), (e2, .inr (1, [.ref hj, .int (nI (mS (bt n f)))])), (hj, .inr (0, [.ref a'29, .int (nI n)])), (a'29, .inl (cB, cap'29, .inl f'29))]) [0, 6, 7, 1, 2, 3, 4, 5] rfl) (hD.sub (ws' := [(o, .inr (7, [.ref h, .ref mm])), (h, .inr (0, [.ref a, .int (nI n)])), (a, .inl (cB, cap, .inl f)), (mm, .inr (6, [.ref s, .ref v, .ref re, .ref u, .int zr, .int zs, .int zh, .int zp, .int zt, .int zw, .int zm])), (s, .inr (2, [.ref e0, .ref e1, .ref e2, .ref ki, .ref pl, .ref en, .int (nI d), .int dp])), (e2, .inr (1, [.ref hj, .int (nI (mS (bt n f)))])), (hj, .inr (0, [.ref a'29, .int (nI n)])), (a'29, .inl (cB, cap'29, .inl f'29))]) [0, 6, 7, 1, 2, 3, 4, 5] rfl rfl) hS ⟨_, rfl, Or.inr ⟨hsh, rfl, _, _, _, rfl, hb1, hb2, hb3, hb4, hb5, by omega, by omega⟩⟩)
set_option maxHeartbeats 1000000 in
set_option maxRecDepth 100000 in
theorem c_CO_count_0 (l : Launch) (D : va_G) (cB cI cJ : ClassId) (hfl : l.flags = pinnedFlags ++ [noTraceFlag]) (ad : Nat → Nat) (o h : Nat) (mm s v re u : Nat) (zr zs zh zp zt zw zm : Int32) (e0 e1 e2 ki pl en d : Nat) (dp : Int32) (hj mj : Nat) : TrX l D classes (TY cB cI cJ) gd_tbl nx_tbl str_tbl ad y_CO_count b_CO_count 2 (some .int) ({ frames := 2, cells := 1, slots := 6, locals := 42 }) [.ref o, .int 0] [(o, .inr (7, [.ref h, .ref mm])), (mm, .inr (6, [.ref s, .ref v, .ref re, .ref u, .int zr, .int zs, .int zh, .int zp, .int zt, .int zw, .int zm])), (s, .inr (2, [.ref e0, .ref e1, .ref e2, .ref ki, .ref pl, .ref en, .int (nI d), .int dp])), (e0, .inr (1, [.ref hj, .int (nI mj)]))] (pI0 (fun r w => r = nI mj ∧ w = [(o, .inr (7, [.ref h, .ref mm])), (mm, .inr (6, [.ref s, .ref v, .ref re, .ref u, .int zr, .int zs, .int zh, .int zp, .int zt, .int zw, .int zm])), (s, .inr (2, [.ref e0, .ref e1, .ref e2, .ref ki, .ref pl, .ref en, .int (nI d), .int dp])), (e0, .inr (1, [.ref hj, .int (nI mj)]))])) (fun X => False) := by
  refine TrX.intro (by decide +kernel) nx_ok (Nat.le_of_ble_eq_true rfl) ?_
  intro p_ e_ s_ m_ args_ below_ meth_ c_ A_ ls hx hb hml hown hts hr hlk hnm hZ hP hD hS hl hXU hno
  have hl : lv_has ls 2 [(0, .ref o), (1, .int 0)] := hl
  refine lv_iload_n hx hb d_CO_count_0 rfl (lv_at hl 1 rfl) ?_
  refine roS (As := [.int 0]) (rest := []) ⟨hx, hb, hml, hown, hts⟩ gd_good (c_CO_isKind l D cB cI cJ 0) cal_CO_isKind ml_CO_53 ⟨Nat.le_of_ble_eq_true rfl, Nat.le_of_ble_eq_true rfl⟩ hZ hP hD (isC := []) ⟨rfl, rfl⟩ rfl hl.1 rfl (Nat.le_of_ble_eq_true rfl) d_CO_count_1 ⟨Nat.le_of_ble_eq_true rfl, Nat.le_of_ble_eq_true rfl⟩ (fun v hv => ?_)
  subst hv
  refine lv_if_ne (tgt := 17) hx hb d_CO_count_4 (by decide) (fun c_4 => ?_) (fun c_4 => absurd c_4 (by decide))
  refine lv_aload_n hx hb d_CO_count_17 rfl (lv_at hl 0 rfl) ?_
  refine va_get (D := D) (ci := 7) (v := .ref mm) (C := R_CO) (T := F_CO) (N := 2) hx hb hts i_CO hown hZ.1 hP 0 rfl rfl 1 (by decide) (hts _ fl_CO_19) (fun _ h9 => h9) rfl d_CO_count_18 ?_
  refine lv_iload_n hx hb d_CO_count_21 rfl (lv_at hl 1 rfl) ?_
  refine roV (As := [.int 0]) (rest := []) ⟨hx, hb, hml, hown, hts⟩ gd_good (c_Ma_shelf l D cB cI cJ mm s v re u zr zs zh zp zt zw zm e0 e1 e2 ki pl en d dp 0) cal_Ma_shelf ml_CO_59 ⟨Nat.le_of_ble_eq_true rfl, Nat.le_of_ble_eq_true rfl⟩ hZ hP hD (isC := [1, 2]) ⟨rfl, rfl⟩ 1 (ci := 6) rfl rfl rfl rfl hl.1 rfl (Nat.le_of_ble_eq_true rfl) d_CO_count_22 ⟨Nat.le_of_ble_eq_true rfl, Nat.le_of_ble_eq_true rfl⟩ (fun v hv => ?_)
  have hv : v = .ref e0 := hv
  subst hv
  refine roV (As := []) (rest := []) ⟨hx, hb, hml, hown, hts⟩ gd_good (c_Sh_strings l D cB cI cJ e0 hj mj) cal_Sh_strings ml_CO_94 ⟨Nat.le_of_ble_eq_true rfl, Nat.le_of_ble_eq_true rfl⟩ hZ hP hD (isC := [3]) ⟨rfl, rfl⟩ 3 (ci := 1) rfl rfl rfl rfl hl.1 rfl (Nat.le_of_ble_eq_true rfl) d_CO_count_25 ⟨Nat.le_of_ble_eq_true rfl, Nat.le_of_ble_eq_true rfl⟩ (fun v hv => ?_)
  subst hv
  exact x_ret (t_iret hx hb hr hlk d_CO_count_28 hP hD hS ⟨_, rfl, rfl, rfl, rfl, rfl⟩)
set_option maxHeartbeats 1000000 in
set_option maxRecDepth 100000 in
theorem c_CO_count_1 (l : Launch) (D : va_G) (cB cI cJ : ClassId) (hfl : l.flags = pinnedFlags ++ [noTraceFlag]) (ad : Nat → Nat) (o h : Nat) (mm s v re u : Nat) (zr zs zh zp zt zw zm : Int32) (e0 e1 e2 ki pl en d : Nat) (dp : Int32) (hj mj : Nat) : TrX l D classes (TY cB cI cJ) gd_tbl nx_tbl str_tbl ad y_CO_count b_CO_count 2 (some .int) ({ frames := 2, cells := 1, slots := 6, locals := 42 }) [.ref o, .int 1] [(o, .inr (7, [.ref h, .ref mm])), (mm, .inr (6, [.ref s, .ref v, .ref re, .ref u, .int zr, .int zs, .int zh, .int zp, .int zt, .int zw, .int zm])), (s, .inr (2, [.ref e0, .ref e1, .ref e2, .ref ki, .ref pl, .ref en, .int (nI d), .int dp])), (e1, .inr (1, [.ref hj, .int (nI mj)]))] (pI0 (fun r w => r = nI mj ∧ w = [(o, .inr (7, [.ref h, .ref mm])), (mm, .inr (6, [.ref s, .ref v, .ref re, .ref u, .int zr, .int zs, .int zh, .int zp, .int zt, .int zw, .int zm])), (s, .inr (2, [.ref e0, .ref e1, .ref e2, .ref ki, .ref pl, .ref en, .int (nI d), .int dp])), (e1, .inr (1, [.ref hj, .int (nI mj)]))])) (fun X => False) := by
  refine TrX.intro (by decide +kernel) nx_ok (Nat.le_of_ble_eq_true rfl) ?_
  intro p_ e_ s_ m_ args_ below_ meth_ c_ A_ ls hx hb hml hown hts hr hlk hnm hZ hP hD hS hl hXU hno
  have hl : lv_has ls 2 [(0, .ref o), (1, .int 1)] := hl
  refine lv_iload_n hx hb d_CO_count_0 rfl (lv_at hl 1 rfl) ?_
  refine roS (As := [.int 1]) (rest := []) ⟨hx, hb, hml, hown, hts⟩ gd_good (c_CO_isKind l D cB cI cJ 1) cal_CO_isKind ml_CO_53 ⟨Nat.le_of_ble_eq_true rfl, Nat.le_of_ble_eq_true rfl⟩ hZ hP hD (isC := []) ⟨rfl, rfl⟩ rfl hl.1 rfl (Nat.le_of_ble_eq_true rfl) d_CO_count_1 ⟨Nat.le_of_ble_eq_true rfl, Nat.le_of_ble_eq_true rfl⟩ (fun v hv => ?_)
  subst hv
  refine lv_if_ne (tgt := 17) hx hb d_CO_count_4 (by decide) (fun c_4 => ?_) (fun c_4 => absurd c_4 (by decide))
  refine lv_aload_n hx hb d_CO_count_17 rfl (lv_at hl 0 rfl) ?_
  refine va_get (D := D) (ci := 7) (v := .ref mm) (C := R_CO) (T := F_CO) (N := 2) hx hb hts i_CO hown hZ.1 hP 0 rfl rfl 1 (by decide) (hts _ fl_CO_19) (fun _ h9 => h9) rfl d_CO_count_18 ?_
  refine lv_iload_n hx hb d_CO_count_21 rfl (lv_at hl 1 rfl) ?_
  refine roV (As := [.int 1]) (rest := []) ⟨hx, hb, hml, hown, hts⟩ gd_good (c_Ma_shelf l D cB cI cJ mm s v re u zr zs zh zp zt zw zm e0 e1 e2 ki pl en d dp 1) cal_Ma_shelf ml_CO_59 ⟨Nat.le_of_ble_eq_true rfl, Nat.le_of_ble_eq_true rfl⟩ hZ hP hD (isC := [1, 2]) ⟨rfl, rfl⟩ 1 (ci := 6) rfl rfl rfl rfl hl.1 rfl (Nat.le_of_ble_eq_true rfl) d_CO_count_22 ⟨Nat.le_of_ble_eq_true rfl, Nat.le_of_ble_eq_true rfl⟩ (fun v hv => ?_)
  have hv : v = .ref e1 := hv
  subst hv
  refine roV (As := []) (rest := []) ⟨hx, hb, hml, hown, hts⟩ gd_good (c_Sh_strings l D cB cI cJ e1 hj mj) cal_Sh_strings ml_CO_94 ⟨Nat.le_of_ble_eq_true rfl, Nat.le_of_ble_eq_true rfl⟩ hZ hP hD (isC := [3]) ⟨rfl, rfl⟩ 3 (ci := 1) rfl rfl rfl rfl hl.1 rfl (Nat.le_of_ble_eq_true rfl) d_CO_count_25 ⟨Nat.le_of_ble_eq_true rfl, Nat.le_of_ble_eq_true rfl⟩ (fun v hv => ?_)
  subst hv
  exact x_ret (t_iret hx hb hr hlk d_CO_count_28 hP hD hS ⟨_, rfl, rfl, rfl, rfl, rfl⟩)
set_option maxHeartbeats 1000000 in
set_option maxRecDepth 100000 in
theorem c_CO_count_2 (l : Launch) (D : va_G) (cB cI cJ : ClassId) (hfl : l.flags = pinnedFlags ++ [noTraceFlag]) (ad : Nat → Nat) (o h : Nat) (mm s v re u : Nat) (zr zs zh zp zt zw zm : Int32) (e0 e1 e2 ki pl en d : Nat) (dp : Int32) (hj mj : Nat) : TrX l D classes (TY cB cI cJ) gd_tbl nx_tbl str_tbl ad y_CO_count b_CO_count 2 (some .int) ({ frames := 2, cells := 1, slots := 6, locals := 42 }) [.ref o, .int 2] [(o, .inr (7, [.ref h, .ref mm])), (mm, .inr (6, [.ref s, .ref v, .ref re, .ref u, .int zr, .int zs, .int zh, .int zp, .int zt, .int zw, .int zm])), (s, .inr (2, [.ref e0, .ref e1, .ref e2, .ref ki, .ref pl, .ref en, .int (nI d), .int dp])), (e2, .inr (1, [.ref hj, .int (nI mj)]))] (pI0 (fun r w => r = nI mj ∧ w = [(o, .inr (7, [.ref h, .ref mm])), (mm, .inr (6, [.ref s, .ref v, .ref re, .ref u, .int zr, .int zs, .int zh, .int zp, .int zt, .int zw, .int zm])), (s, .inr (2, [.ref e0, .ref e1, .ref e2, .ref ki, .ref pl, .ref en, .int (nI d), .int dp])), (e2, .inr (1, [.ref hj, .int (nI mj)]))])) (fun X => False) := by
  refine TrX.intro (by decide +kernel) nx_ok (Nat.le_of_ble_eq_true rfl) ?_
  intro p_ e_ s_ m_ args_ below_ meth_ c_ A_ ls hx hb hml hown hts hr hlk hnm hZ hP hD hS hl hXU hno
  have hl : lv_has ls 2 [(0, .ref o), (1, .int 2)] := hl
  refine lv_iload_n hx hb d_CO_count_0 rfl (lv_at hl 1 rfl) ?_
  refine roS (As := [.int 2]) (rest := []) ⟨hx, hb, hml, hown, hts⟩ gd_good (c_CO_isKind l D cB cI cJ 2) cal_CO_isKind ml_CO_53 ⟨Nat.le_of_ble_eq_true rfl, Nat.le_of_ble_eq_true rfl⟩ hZ hP hD (isC := []) ⟨rfl, rfl⟩ rfl hl.1 rfl (Nat.le_of_ble_eq_true rfl) d_CO_count_1 ⟨Nat.le_of_ble_eq_true rfl, Nat.le_of_ble_eq_true rfl⟩ (fun v hv => ?_)
  subst hv
  refine lv_if_ne (tgt := 17) hx hb d_CO_count_4 (by decide) (fun c_4 => ?_) (fun c_4 => absurd c_4 (by decide))
  refine lv_aload_n hx hb d_CO_count_17 rfl (lv_at hl 0 rfl) ?_
  refine va_get (D := D) (ci := 7) (v := .ref mm) (C := R_CO) (T := F_CO) (N := 2) hx hb hts i_CO hown hZ.1 hP 0 rfl rfl 1 (by decide) (hts _ fl_CO_19) (fun _ h9 => h9) rfl d_CO_count_18 ?_
  refine lv_iload_n hx hb d_CO_count_21 rfl (lv_at hl 1 rfl) ?_
  refine roV (As := [.int 2]) (rest := []) ⟨hx, hb, hml, hown, hts⟩ gd_good (c_Ma_shelf l D cB cI cJ mm s v re u zr zs zh zp zt zw zm e0 e1 e2 ki pl en d dp 2) cal_Ma_shelf ml_CO_59 ⟨Nat.le_of_ble_eq_true rfl, Nat.le_of_ble_eq_true rfl⟩ hZ hP hD (isC := [1, 2]) ⟨rfl, rfl⟩ 1 (ci := 6) rfl rfl rfl rfl hl.1 rfl (Nat.le_of_ble_eq_true rfl) d_CO_count_22 ⟨Nat.le_of_ble_eq_true rfl, Nat.le_of_ble_eq_true rfl⟩ (fun v hv => ?_)
  have hv : v = .ref e2 := hv
  subst hv
  refine roV (As := []) (rest := []) ⟨hx, hb, hml, hown, hts⟩ gd_good (c_Sh_strings l D cB cI cJ e2 hj mj) cal_Sh_strings ml_CO_94 ⟨Nat.le_of_ble_eq_true rfl, Nat.le_of_ble_eq_true rfl⟩ hZ hP hD (isC := [3]) ⟨rfl, rfl⟩ 3 (ci := 1) rfl rfl rfl rfl hl.1 rfl (Nat.le_of_ble_eq_true rfl) d_CO_count_25 ⟨Nat.le_of_ble_eq_true rfl, Nat.le_of_ble_eq_true rfl⟩ (fun v hv => ?_)
  subst hv
  exact x_ret (t_iret hx hb hr hlk d_CO_count_28 hP hD hS ⟨_, rfl, rfl, rfl, rfl, rfl⟩)
set_option maxHeartbeats 1000000 in
set_option maxRecDepth 100000 in
theorem c_CO_take_bad (l : Launch) (D : va_G) (cB cI cJ : ClassId) (hfl : l.flags = pinnedFlags ++ [noTraceFlag]) (ad : Nat → Nat) (o h mm : Nat) (k : Int32) (hk : isK k = 0) : TrX l D classes (TY cB cI cJ) gd_tbl nx_tbl str_tbl ad y_CO_take b_CO_take 2 (some .int) ({ frames := 6, cells := 1, slots := 6, locals := 82 }) [.ref o, .int k] [(o, .inr (7, [.ref h, .ref mm]))] (pI0 (fun r w => False)) (fun X => X = "java/lang/IllegalArgumentException") := by
  refine TrX.intro (by decide +kernel) nx_ok (Nat.le_of_ble_eq_true rfl) ?_
  intro p_ e_ s_ m_ args_ below_ meth_ c_ A_ ls hx hb hml hown hts hr hlk hnm hZ hP hD hS hl hXU hno
  have hl : lv_has ls 2 [(0, .ref o), (1, .int k)] := hl
  refine lv_iload_n hx hb d_CO_take_0 rfl (lv_at hl 1 rfl) ?_
  refine roS (As := [.int k]) (rest := []) ⟨hx, hb, hml, hown, hts⟩ gd_good (c_CO_isKind l D cB cI cJ k) cal_CO_isKind ml_CO_53 ⟨Nat.le_of_ble_eq_true rfl, Nat.le_of_ble_eq_true rfl⟩ hZ hP hD (isC := []) ⟨rfl, rfl⟩ rfl hl.1 rfl (Nat.le_of_ble_eq_true rfl) d_CO_take_1 ⟨Nat.le_of_ble_eq_true rfl, Nat.le_of_ble_eq_true rfl⟩ (fun v hv => ?_)
  subst hv
  refine lv_if_ne (tgt := 17) hx hb d_CO_take_4 (by decide) (fun c_4 => absurd c_4 (fun z => z hk)) (fun c_4 => ?_)
  exact x_throw hfl hx hb (by rw [hml]; exact hl.1.symm) hlk hown (by decide +kernel) (by decide +kernel) (xat_IA hts hZ.2.1 hXU ml_CO_42) (hts _ cl_CO_38) (hts _ xin_IA) (hXU.2.2.1 _ (List.mem_of_getElem? (i := 3) rfl)) hno (Nat.le_of_ble_eq_true rfl) (Nat.le_of_ble_eq_true rfl) (Nat.le_of_ble_eq_true rfl) (Nat.le_of_ble_eq_true rfl) rfl d_CO_take_7 d_CO_take_10 d_CO_take_11 d_CO_take_13 d_CO_take_16
set_option maxHeartbeats 1000000 in
set_option maxRecDepth 100000 in
theorem c_CO_count_bad (l : Launch) (D : va_G) (cB cI cJ : ClassId) (hfl : l.flags = pinnedFlags ++ [noTraceFlag]) (ad : Nat → Nat) (o h mm : Nat) (k : Int32) (hk : isK k = 0) : TrX l D classes (TY cB cI cJ) gd_tbl nx_tbl str_tbl ad y_CO_count b_CO_count 2 (some .int) ({ frames := 6, cells := 1, slots := 6, locals := 82 }) [.ref o, .int k] [(o, .inr (7, [.ref h, .ref mm]))] (pI0 (fun r w => False)) (fun X => X = "java/lang/IllegalArgumentException") := by
  refine TrX.intro (by decide +kernel) nx_ok (Nat.le_of_ble_eq_true rfl) ?_
  intro p_ e_ s_ m_ args_ below_ meth_ c_ A_ ls hx hb hml hown hts hr hlk hnm hZ hP hD hS hl hXU hno
  have hl : lv_has ls 2 [(0, .ref o), (1, .int k)] := hl
  refine lv_iload_n hx hb d_CO_count_0 rfl (lv_at hl 1 rfl) ?_
  refine roS (As := [.int k]) (rest := []) ⟨hx, hb, hml, hown, hts⟩ gd_good (c_CO_isKind l D cB cI cJ k) cal_CO_isKind ml_CO_53 ⟨Nat.le_of_ble_eq_true rfl, Nat.le_of_ble_eq_true rfl⟩ hZ hP hD (isC := []) ⟨rfl, rfl⟩ rfl hl.1 rfl (Nat.le_of_ble_eq_true rfl) d_CO_count_1 ⟨Nat.le_of_ble_eq_true rfl, Nat.le_of_ble_eq_true rfl⟩ (fun v hv => ?_)
  subst hv
  refine lv_if_ne (tgt := 17) hx hb d_CO_count_4 (by decide) (fun c_4 => absurd c_4 (fun z => z hk)) (fun c_4 => ?_)
  exact x_throw hfl hx hb (by rw [hml]; exact hl.1.symm) hlk hown (by decide +kernel) (by decide +kernel) (xat_IA hts hZ.2.1 hXU ml_CO_42) (hts _ cl_CO_38) (hts _ xin_IA) (hXU.2.2.1 _ (List.mem_of_getElem? (i := 3) rfl)) hno (Nat.le_of_ble_eq_true rfl) (Nat.le_of_ble_eq_true rfl) (Nat.le_of_ble_eq_true rfl) (Nat.le_of_ble_eq_true rfl) rfl d_CO_count_7 d_CO_count_10 d_CO_count_11 d_CO_count_13 d_CO_count_16
set_option maxHeartbeats 1000000 in
set_option maxRecDepth 100000 in
theorem c_CO_run (l : Launch) (D : va_G) (cB cI cJ : ClassId) (hfl : l.flags = pinnedFlags ++ [noTraceFlag]) (ad : Nat → Nat) (o h : Nat) (mm s v re u va vb ki pl en e0 h0 a0 m0 l0 c0 e1 h1 a1 m1 l1 c1 e2 h2 a2 m2 l2 c2 rp : Nat) (zr : Int32) (zs : Int32) (zh : Int32) (zp : Int32) (zt : Int32) (zw : Int32) (zm : Int32) (n : Nat) (fa : Nat → Int32) (fb : Nat → Int32) (f0 : Nat → Int32) (f1 : Nat → Int32) (f2 : Nat → Int32) (d : Nat) (dp : Int32) (fk : Nat → Int32) (fl : Nat → Int32) (fz : Nat → Int32) (ra : Nat) (m : Nat) (oc : Nat) (x : Int32) (y : Int32) (fo : Nat → Int32) (fp : Nat → Int32) (kp : Int32) (hiVa : n ≤ 48) (hiSy : d ≤ 10) (hhSy : (l0 ≤ c0 ∧ c0 ≤ 16384) ∧ (l1 ≤ c1 ∧ c1 ≤ 16384) ∧ (l2 ≤ c2 ∧ c2 ≤ 16384)) (hiOu : m ≤ 4000 ∧ 7 * m ≤ oc ∧ 336 ≤ oc ∧ oc ≤ 28000) : TrX l D classes (TY cB cI cJ) gd_tbl nx_tbl str_tbl ad y_CO_run b_CO_run 2 (some .int) ({ frames := 7, cells := gO oc + 1, slots := gO oc + 6, locals := 174 }) [.ref o, .int kp] [(o, .inr (7, [.ref h, .ref mm])), (mm, .inr (6, [.ref s, .ref v, .ref re, .ref u, .int zr, .int zs, .int zh, .int zp, .int zt, .int zw, .int zm])), (v, .inr (3, [.ref va, .ref vb, .int (nI n)])), (va, .inl (cI, 48, .inl fa)), (vb, .inl (cI, 48, .inl fb)), (s, .inr (2, [.ref e0, .ref e1, .ref e2, .ref ki, .ref pl, .ref en, .int (nI d), .int dp])), (ki, .inl (cI, 10, .inl fk)), (pl, .inl (cI, 10, .inl fl)), (en, .inl (cI, 10, .inl fz)), (e0, .inr (1, [.ref h0, .int (nI m0)])), (h0, .inr (0, [.ref a0, .int (nI l0)])), (a0, .inl (cB, c0, .inl f0)), (e1, .inr (1, [.ref h1, .int (nI m1)])), (h1, .inr (0, [.ref a1, .int (nI l1)])), (a1, .inl (cB, c1, .inl f1)), (e2, .inr (1, [.ref h2, .int (nI m2)])), (h2, .inr (0, [.ref a2, .int (nI l2)])), (a2, .inl (cB, c2, .inl f2)), (u, .inr (4, [.ref ra, .int (nI m), .int x, .int y])), (ra, .inl (cI, oc, .inl fo)), (re, .inr (5, [.ref rp])), (rp, .inl (cI, 32, .inl fp))] (pI (fun r w k q => ∃ (zr' : Int32) (zs' : Int32) (zh' : Int32) (zp' : Int32) (zt' : Int32) (zw' : Int32) (zm' : Int32) (n' : Nat) (fa' : Nat → Int32) (fb' : Nat → Int32) (d' : Nat) (dp' : Int32) (fk' : Nat → Int32) (fl' : Nat → Int32) (fz' : Nat → Int32) (ra' : Nat) (m' : Nat) (oc' : Nat) (x' : Int32) (y' : Int32) (fo' : Nat → Int32) (fp' : Nat → Int32), w = [(o, .inr (7, [.ref h, .ref mm])), (mm, .inr (6, [.ref s, .ref v, .ref re, .ref u, .int zr', .int zs', .int zh', .int zp', .int zt', .int zw', .int zm'])), (v, .inr (3, [.ref va, .ref vb, .int (nI n')])), (va, .inl (cI, 48, .inl fa')), (vb, .inl (cI, 48, .inl fb')), (s, .inr (2, [.ref e0, .ref e1, .ref e2, .ref ki, .ref pl, .ref en, .int (nI d'), .int dp'])), (ki, .inl (cI, 10, .inl fk')), (pl, .inl (cI, 10, .inl fl')), (en, .inl (cI, 10, .inl fz')), (e0, .inr (1, [.ref h0, .int (nI m0)])), (h0, .inr (0, [.ref a0, .int (nI l0)])), (a0, .inl (cB, c0, .inl f0)), (e1, .inr (1, [.ref h1, .int (nI m1)])), (h1, .inr (0, [.ref a1, .int (nI l1)])), (a1, .inl (cB, c1, .inl f1)), (e2, .inr (1, [.ref h2, .int (nI m2)])), (h2, .inr (0, [.ref a2, .int (nI l2)])), (a2, .inl (cB, c2, .inl f2)), (u, .inr (4, [.ref ra', .int (nI m'), .int x', .int y'])), (ra', .inl (cI, oc', .inl fo')), (re, .inr (5, [.ref rp])), (rp, .inl (cI, 32, .inl fp'))] ∧ (n' ≤ 48) ∧ (d' ≤ 10) ∧ (m' ≤ 4000 ∧ 7 * m' ≤ oc' ∧ 336 ≤ oc' ∧ oc' ≤ 28000) ∧ (¬ hasS m0 kp = 0 ∧ shoP ((iniP ((m0, l0, f0), (m1, l1, f1), (m2, l2, f2)) kp).bind (runP ((m0, l0, f0), (m1, l1, f1), (m2, l2, f2)) 20001 0)) = (m', trunc (m' * 7) fo')) ∧ k ≤ q ∧ q + gO oc' ≤ gO oc)) (fun X => X = "java/lang/IndexOutOfBoundsException" ∧ hasS m0 kp = 0) := by
  refine TrX.intro (by decide +kernel) nx_ok (Nat.le_of_ble_eq_true rfl) ?_
  intro p_ e_ s_ m_ args_ below_ meth_ c_ A_ ls hx hb hml hown hts hr hlk hnm hZ hP hD hS hl hXU hno
  have hl : lv_has ls 2 [(0, .ref o), (1, .int kp)] := hl
  refine lv_aload_n hx hb d_CO_run_0 rfl (lv_at hl 0 rfl) ?_
  refine va_get (D := D) (ci := 7) (v := .ref mm) (C := R_CO) (T := F_CO) (N := 2) hx hb hts i_CO hown hZ.1 hP 0 rfl rfl 1 (by decide) (hts _ fl_CO_19) (fun _ h9 => h9) rfl d_CO_run_1 ?_
  refine lv_iconst (v := 0) hx hb d_CO_run_4 (by decide) ?_
  refine roV (As := [.int 0]) (rest := []) ⟨hx, hb, hml, hown, hts⟩ gd_good (c_Ma_shelf l D cB cI cJ mm s v re u zr zs zh zp zt zw zm e0 e1 e2 ki pl en d dp 0) cal_Ma_shelf ml_CO_59 ⟨Nat.le_of_ble_eq_true rfl, Nat.le_of_ble_eq_true rfl⟩ hZ hP hD (isC := [1, 5]) ⟨rfl, rfl⟩ 1 (ci := 6) rfl rfl rfl rfl hl.1 rfl (Nat.le_of_ble_eq_true rfl) d_CO_run_5 ⟨by dsimp only; omega, by dsimp only; omega⟩ (fun v hv => ?_)
  have hv : v = .ref e0 := hv
  subst hv
  refine lv_iload_n hx hb d_CO_run_8 rfl (lv_at hl 1 rfl) ?_
  refine roV (As := [.int kp]) (rest := []) ⟨hx, hb, hml, hown, hts⟩ gd_good (c_Sh_has l D cB cI cJ e0 h0 m0 kp) cal_Sh_has ml_CO_69 ⟨Nat.le_of_ble_eq_true rfl, Nat.le_of_ble_eq_true rfl⟩ hZ hP hD (isC := [9]) ⟨rfl, rfl⟩ 9 (ci := 1) rfl rfl rfl rfl hl.1 rfl (Nat.le_of_ble_eq_true rfl) d_CO_run_9 ⟨by dsimp only; omega, by dsimp only; omega⟩ (fun v hv => ?_)
  subst hv
  refine lv_if_ne (tgt := 25) hx hb d_CO_run_12 (by decide) (fun c_12 => ?_) (fun c_12 => ?_)
  · refine lv_aload_n hx hb d_CO_run_25 rfl (lv_at hl 0 rfl) ?_
    refine va_get (D := D) (ci := 7) (v := .ref mm) (C := R_CO) (T := F_CO) (N := 2) hx hb hts i_CO hown hZ.1 hP 0 rfl rfl 1 (by decide) (hts _ fl_CO_19) (fun _ h9 => h9) rfl d_CO_run_26 ?_
    refine lv_iload_n hx hb d_CO_run_29 rfl (lv_at hl 1 rfl) ?_
    have hC : Cut [(o, .inr (7, [.ref h, .ref mm])), (mm, .inr (6, [.ref s, .ref v, .ref re, .ref u, .int zr, .int zs, .int zh, .int zp, .int zt, .int zw, .int zm])), (v, .inr (3, [.ref va, .ref vb, .int (nI n)])), (va, .inl (cI, 48, .inl fa)), (vb, .inl (cI, 48, .inl fb)), (s, .inr (2, [.ref e0, .ref e1, .ref e2, .ref ki, .ref pl, .ref en, .int (nI d), .int dp])), (ki, .inl (cI, 10, .inl fk)), (pl, .inl (cI, 10, .inl fl)), (en, .inl (cI, 10, .inl fz)), (e0, .inr (1, [.ref h0, .int (nI m0)])), (h0, .inr (0, [.ref a0, .int (nI l0)])), (a0, .inl (cB, c0, .inl f0)), (e1, .inr (1, [.ref h1, .int (nI m1)])), (h1, .inr (0, [.ref a1, .int (nI l1)])), (a1, .inl (cB, c1, .inl f1)), (e2, .inr (1, [.ref h2, .int (nI m2)])), (h2, .inr (0, [.ref a2, .int (nI l2)])), (a2, .inl (cB, c2, .inl f2)), (u, .inr (4, [.ref ra, .int (nI m), .int x, .int y])), (ra, .inl (cI, oc, .inl fo)), (re, .inr (5, [.ref rp])), (rp, .inl (cI, 32, .inl fp))] [(mm, .inr (6, [.ref s, .ref v, .ref re, .ref u, .int zr, .int zs, .int zh, .int zp, .int zt, .int zw, .int zm])), (v, .inr (3, [.ref va, .ref vb, .int (nI n)])), (va, .inl (cI, 48, .inl fa)), (vb, .inl (cI, 48, .inl fb)), (s, .inr (2, [.ref e0, .ref e1, .ref e2, .ref ki, .ref pl, .ref en, .int (nI d), .int dp])), (ki, .inl (cI, 10, .inl fk)), (pl, .inl (cI, 10, .inl fl)), (en, .inl (cI, 10, .inl fz)), (e0, .inr (1, [.ref h0, .int (nI m0)])), (h0, .inr (0, [.ref a0, .int (nI l0)])), (a0, .inl (cB, c0, .inl f0)), (e1, .inr (1, [.ref h1, .int (nI m1)])), (h1, .inr (0, [.ref a1, .int (nI l1)])), (a1, .inl (cB, c1, .inl f1)), (e2, .inr (1, [.ref h2, .int (nI m2)])), (h2, .inr (0, [.ref a2, .int (nI l2)])), (a2, .inl (cB, c2, .inl f2)), (u, .inr (4, [.ref ra, .int (nI m), .int x, .int y])), (ra, .inl (cI, oc, .inl fo)), (re, .inr (5, [.ref rp])), (rp, .inl (cI, 32, .inl fp))] [(o, .inr (7, [.ref h, .ref mm]))] [1, 2, 3, 4, 5, 6, 7, 8, 9, 10, 11, 12, 13, 14, 15, 16, 17, 18, 19, 20, 21] [0] := ⟨rfl, rfl, rfl, rfl, by decide⟩
    refine goI (trV (As := [.int kp]) (rest := []) ⟨hx, hb, hml, hown, hts⟩ gd_good (c_Ma_go l D cB cI cJ mm s v re u va vb ki pl en e0 h0 a0 m0 l0 c0 e1 h1 a1 m1 l1 c1 e2 h2 a2 m2 l2 c2 rp zr zs zh zp zt zw zm n fa fb f0 f1 f2 d dp fk fl fz ra m oc x y fo fp kp (by omega) (by omega) (by omega) (by omega) c_12) cal_Ma_go ml_CO_74 ⟨Nat.le_of_ble_eq_true rfl, Nat.le_of_ble_eq_true rfl⟩ hZ hP hD hC 1 (ci := 6) rfl rfl rfl rfl hl.1 rfl (Nat.le_of_ble_eq_true rfl) d_CO_run_30 ⟨by dsimp only; omega, by dsimp only; omega⟩) hZ hP hD hS hC (fun r_30 w1 kk_30 qq_30 H locs hq hP hD hS => ?_)
    obtain ⟨zr_30, zs_30, zh_30, zp_30, zt_30, zw_30, zm_30, n_30, fa_30, fb_30, d_30, dp_30, fk_30, fl_30, fz_30, ra_30, m_30, oc_30, x_30, y_30, fo_30, fp_30, rfl, hv0_30, hv1_30, hv2_30, hx_30, hk_30, hg_30⟩ := hq
    have hP : va_P D classes [(o, .inr (7, [.ref h, .ref mm])), (mm, .inr (6, [.ref s, .ref v, .ref re, .ref u, .int zr_30, .int zs_30, .int zh_30, .int zp_30, .int zt_30, .int zw_30, .int zm_30])), (v, .inr (3, [.ref va, .ref vb, .int (nI n_30)])), (va, .inl (cI, 48, .inl fa_30)), (vb, .inl (cI, 48, .inl fb_30)), (s, .inr (2, [.ref e0, .ref e1, .ref e2, .ref ki, .ref pl, .ref en, .int (nI d_30), .int dp_30])), (ki, .inl (cI, 10, .inl fk_30)), (pl, .inl (cI, 10, .inl fl_30)), (en, .inl (cI, 10, .inl fz_30)), (e0, .inr (1, [.ref h0, .int (nI m0)])), (h0, .inr (0, [.ref a0, .int (nI l0)])), (a0, .inl (cB, c0, .inl f0)), (e1, .inr (1, [.ref h1, .int (nI m1)])), (h1, .inr (0, [.ref a1, .int (nI l1)])), (a1, .inl (cB, c1, .inl f1)), (e2, .inr (1, [.ref h2, .int (nI m2)])), (h2, .inr (0, [.ref a2, .int (nI l2)])), (a2, .inl (cB, c2, .inl f2)), (u, .inr (4, [.ref ra_30, .int (nI m_30), .int x_30, .int y_30])), (ra_30, .inl (cI, oc_30, .inl fo_30)), (re, .inr (5, [.ref rp])), (rp, .inl (cI, 32, .inl fp_30))] H := hP
    have hD : va_D A_ [(o, .inr (7, [.ref h, .ref mm])), (mm, .inr (6, [.ref s, .ref v, .ref re, .ref u, .int zr_30, .int zs_30, .int zh_30, .int zp_30, .int zt_30, .int zw_30, .int zm_30])), (v, .inr (3, [.ref va, .ref vb, .int (nI n_30)])), (va, .inl (cI, 48, .inl fa_30)), (vb, .inl (cI, 48, .inl fb_30)), (s, .inr (2, [.ref e0, .ref e1, .ref e2, .ref ki, .ref pl, .ref en, .int (nI d_30), .int dp_30])), (ki, .inl (cI, 10, .inl fk_30)), (pl, .inl (cI, 10, .inl fl_30)), (en, .inl (cI, 10, .inl fz_30)), (e0, .inr (1, [.ref h0, .int (nI m0)])), (h0, .inr (0, [.ref a0, .int (nI l0)])), (a0, .inl (cB, c0, .inl f0)), (e1, .inr (1, [.ref h1, .int (nI m1)])), (h1, .inr (0, [.ref a1, .int (nI l1)])), (a1, .inl (cB, c1, .inl f1)), (e2, .inr (1, [.ref h2, .int (nI m2)])), (h2, .inr (0, [.ref a2, .int (nI l2)])), (a2, .inl (cB, c2, .inl f2)), (u, .inr (4, [.ref ra_30, .int (nI m_30), .int x_30, .int y_30])), (ra_30, .inl (cI, oc_30, .inl fo_30)), (re, .inr (5, [.ref rp])), (rp, .inl (cI, 32, .inl fp_30))] := hD
    exact x_ret (t_iret hx hb hr hlk d_CO_run_33 (hP.subm (ws' := [(o, .inr (7, [.ref h, .ref mm])), (mm, .inr (6, [.ref s, .ref v, .ref re, .ref u, .int zr_30, .int zs_30, .int zh_30, .int zp_30, .int zt_30, .int zw_30, .int zm_30])), (v, .inr (3, [.ref va, .ref vb, .int (nI n_30)])), (va, .inl (cI, 48, .inl fa_30)), (vb, .inl (cI, 48, .inl fb_30)), (s, .inr (2, [.ref e0, .ref e1, .ref e2, .ref ki, .ref pl, .ref en, .int (nI d_30), .int dp_30])), (ki, .inl (cI, 10, .inl fk_30)), (pl, .inl (cI, 10, .inl fl_30)), (en, .inl (cI, 10, .inl fz_30)), (e0, .inr (1, [.ref h0, .int (nI m0)])), (h0, .inr (0, [.ref a0, .int (nI l0)])), (a0, .inl (cB, c0, .inl f0)), (e1, .inr (1, [.ref h1, .int (nI m1)])), (h1, .inr (0, [.ref a1, .int (nI l1)])), (a1, .inl (cB, c1, .inl f1)), (e2, .inr (1, [.ref h2, .int (nI m2)])), (h2, .inr (0, [.ref a2, .int (nI l2)])), (a2, .inl (cB, c2, .inl f2)), (u, .inr (4, [.ref ra_30, .int (nI m_30), .int x_30, .int y_30])), (ra_30, .inl (cI, oc_30, .inl fo_30)), (re, .inr (5, [.ref rp])), (rp, .inl (cI, 32, .inl fp_30))]) [0, 1, 2, 3, 4, 5, 6, 7, 8, 9, 10, 11, 12, 13, 14, 15, 16, 17, 18, 19, 20, 21] rfl) (hD.sub (ws' := [(o, .inr (7, [.ref h, .ref mm])), (mm, .inr (6, [.ref s, .ref v, .ref re, .ref u, .int zr_30, .int zs_30, .int zh_30, .int zp_30, .int zt_30, .int zw_30, .int zm_30])), (v, .inr (3, [.ref va, .ref vb, .int (nI n_30)])), (va, .inl (cI, 48, .inl fa_30)), (vb, .inl (cI, 48, .inl fb_30)), (s, .inr (2, [.ref e0, .ref e1, .ref e2, .ref ki, .ref pl, .ref en, .int (nI d_30), .int dp_30])), (ki, .inl (cI, 10, .inl fk_30)), (pl, .inl (cI, 10, .inl fl_30)), (en, .inl (cI, 10, .inl fz_30)), (e0, .inr (1, [.ref h0, .int (nI m0)])), (h0, .inr (0, [.ref a0, .int (nI l0)])), (a0, .inl (cB, c0, .inl f0)), (e1, .inr (1, [.ref h1, .int (nI m1)])), (h1, .inr (0, [.ref a1, .int (nI l1)])), (a1, .inl (cB, c1, .inl f1)), (e2, .inr (1, [.ref h2, .int (nI m2)])), (h2, .inr (0, [.ref a2, .int (nI l2)])), (a2, .inl (cB, c2, .inl f2)), (u, .inr (4, [.ref ra_30, .int (nI m_30), .int x_30, .int y_30])), (ra_30, .inl (cI, oc_30, .inl fo_30)), (re, .inr (5, [.ref rp])), (rp, .inl (cI, 32, .inl fp_30))]) [0, 1, 2, 3, 4, 5, 6, 7, 8, 9, 10, 11, 12, 13, 14, 15, 16, 17, 18, 19, 20, 21] rfl rfl) hS ⟨_, rfl, _, _, _, _, _, _, _, _, _, _, _, _, _, _, _, _, _, _, _, _, _, _, rfl, (by omega), (by omega), (by omega), ⟨c_12, hx_30⟩, (by omega), (by omega)⟩)
  · exact x_throw hfl hx hb (by rw [hml]; exact hl.1.symm) hlk hown (by decide +kernel) (by decide +kernel) (xat_IO hts hZ.2.1 hXU ml_CO_35) (hts _ cl_CO_31) (hts _ xin_IO) (hXU.2.2.1 _ (List.mem_of_getElem? (i := 4) rfl)) hno (Nat.le_of_ble_eq_true rfl) (Nat.le_of_ble_eq_true rfl) (Nat.le_of_ble_eq_true rfl) (Nat.le_of_ble_eq_true rfl) ⟨rfl, c_12⟩ d_CO_run_15 d_CO_run_18 d_CO_run_19 d_CO_run_21 d_CO_run_24
set_option maxHeartbeats 1000000 in
set_option maxRecDepth 100000 in
theorem c_CO_mark (l : Launch) (D : va_G) (cB cI cJ : ClassId) (hfl : l.flags = pinnedFlags ++ [noTraceFlag]) (ad : Nat → Nat) (o h : Nat) (mm s v re u ra oc : Nat) (zr : Int32) (zs : Int32) (zh : Int32) (zp : Int32) (zt : Int32) (zw : Int32) (zm : Int32) (m : Nat) (x : Int32) (y : Int32) (fo : Nat → Int32) (i : Int32) (wh : Int32) (hiOu : m ≤ 4000 ∧ 7 * m ≤ oc ∧ 336 ≤ oc ∧ oc ≤ 28000) : TrX l D classes (TY cB cI cJ) gd_tbl nx_tbl str_tbl ad y_CO_mark b_CO_mark 3 (some .int) ({ frames := 6, cells := 1, slots := 6, locals := 82 }) [.ref o, .int i, .int wh] [(o, .inr (7, [.ref h, .ref mm])), (mm, .inr (6, [.ref s, .ref v, .ref re, .ref u, .int zr, .int zs, .int zh, .int zp, .int zt, .int zw, .int zm])), (u, .inr (4, [.ref ra, .int (nI m), .int x, .int y])), (ra, .inl (cI, oc, .inl fo))] (pI0 (fun r w => w = [(o, .inr (7, [.ref h, .ref mm])), (mm, .inr (6, [.ref s, .ref v, .ref re, .ref u, .int zr, .int zs, .int zh, .int zp, .int zt, .int zw, .int zm])), (u, .inr (4, [.ref ra, .int (nI m), .int x, .int y])), (ra, .inl (cI, oc, .inl fo))] ∧ (∃ a b : Nat, i = nI a ∧ a < m ∧ wh = nI b ∧ b < 7 ∧ r = fo (a * 7 + b)))) (fun X => X = "java/lang/IndexOutOfBoundsException" ∧ hasO m i wh = 0) := by
  refine TrX.intro (by decide +kernel) nx_ok (Nat.le_of_ble_eq_true rfl) ?_
  intro p_ e_ s_ m_ args_ below_ meth_ c_ A_ ls hx hb hml hown hts hr hlk hnm hZ hP hD hS hl hXU hno
  have hl : lv_has ls 3 [(0, .ref o), (1, .int i), (2, .int wh)] := hl
  refine lv_aload_n hx hb d_CO_mark_0 rfl (lv_at hl 0 rfl) ?_
  refine va_get (D := D) (ci := 7) (v := .ref mm) (C := R_CO) (T := F_CO) (N := 2) hx hb hts i_CO hown hZ.1 hP 0 rfl rfl 1 (by decide) (hts _ fl_CO_19) (fun _ h9 => h9) rfl d_CO_mark_1 ?_
  refine roV (As := []) (rest := []) ⟨hx, hb, hml, hown, hts⟩ gd_good (c_Ma_outline l D cB cI cJ mm s v re u zr zs zh zp zt zw zm) cal_Ma_outline ml_CO_77 ⟨Nat.le_of_ble_eq_true rfl, Nat.le_of_ble_eq_true rfl⟩ hZ hP hD (isC := [1]) ⟨rfl, rfl⟩ 1 (ci := 6) rfl rfl rfl rfl hl.1 rfl (Nat.le_of_ble_eq_true rfl) d_CO_mark_4 ⟨Nat.le_of_ble_eq_true rfl, Nat.le_of_ble_eq_true rfl⟩ (fun v hv => ?_)
  subst hv
  refine lv_iload_n hx hb d_CO_mark_7 rfl (lv_at hl 1 rfl) ?_
  refine lv_iload_n hx hb d_CO_mark_8 rfl (lv_at hl 2 rfl) ?_
  refine roV (As := [.int i, .int wh]) (rest := []) ⟨hx, hb, hml, hown, hts⟩ gd_good (c_Ou_has l D cB cI cJ u ra m x y i wh) cal_Ou_has ml_CO_81 ⟨Nat.le_of_ble_eq_true rfl, Nat.le_of_ble_eq_true rfl⟩ hZ hP hD (isC := [2]) ⟨rfl, rfl⟩ 2 (ci := 4) rfl rfl rfl rfl hl.1 rfl (Nat.le_of_ble_eq_true rfl) d_CO_mark_9 ⟨Nat.le_of_ble_eq_true rfl, Nat.le_of_ble_eq_true rfl⟩ (fun v hv => ?_)
  subst hv
  refine lv_if_ne (tgt := 25) hx hb d_CO_mark_12 (by decide) (fun c_12 => ?_) (fun c_12 => ?_)
  · obtain ⟨ia, wb, ei, hia, ew, hwb⟩ := hasO_in c_12 (by omega)
    subst ei
    subst ew
    refine lv_aload_n hx hb d_CO_mark_25 rfl (lv_at hl 0 rfl) ?_
    refine va_get (D := D) (ci := 7) (v := .ref mm) (C := R_CO) (T := F_CO) (N := 2) hx hb hts i_CO hown hZ.1 hP 0 rfl rfl 1 (by decide) (hts _ fl_CO_19) (fun _ h9 => h9) rfl d_CO_mark_26 ?_
    refine roV (As := []) (rest := []) ⟨hx, hb, hml, hown, hts⟩ gd_good (c_Ma_outline l D cB cI cJ mm s v re u zr zs zh zp zt zw zm) cal_Ma_outline ml_CO_77 ⟨Nat.le_of_ble_eq_true rfl, Nat.le_of_ble_eq_true rfl⟩ hZ hP hD (isC := [1]) ⟨rfl, rfl⟩ 1 (ci := 6) rfl rfl rfl rfl hl.1 rfl (Nat.le_of_ble_eq_true rfl) d_CO_mark_29 ⟨Nat.le_of_ble_eq_true rfl, Nat.le_of_ble_eq_true rfl⟩ (fun v hv => ?_)
    subst hv
    refine lv_iload_n hx hb d_CO_mark_32 rfl (lv_at hl 1 rfl) ?_
    refine lv_iload_n hx hb d_CO_mark_33 rfl (lv_at hl 2 rfl) ?_
    refine roV (As := [.int (nI ia), .int (nI wb)]) (rest := []) ⟨hx, hb, hml, hown, hts⟩ gd_good (c_Ou_number l D cB cI cJ u ra m oc x y fo ia wb (by omega) (by omega) (by omega)) cal_Ou_number ml_CO_88 ⟨Nat.le_of_ble_eq_true rfl, Nat.le_of_ble_eq_true rfl⟩ hZ hP hD (isC := [2, 3]) ⟨rfl, rfl⟩ 2 (ci := 4) rfl rfl rfl rfl hl.1 rfl (Nat.le_of_ble_eq_true rfl) d_CO_mark_34 ⟨Nat.le_of_ble_eq_true rfl, Nat.le_of_ble_eq_true rfl⟩ (fun v hv => ?_)
    subst hv
    exact x_ret (t_iret hx hb hr hlk d_CO_mark_37 (hP.subm (ws' := [(o, .inr (7, [.ref h, .ref mm])), (mm, .inr (6, [.ref s, .ref v, .ref re, .ref u, .int zr, .int zs, .int zh, .int zp, .int zt, .int zw, .int zm])), (u, .inr (4, [.ref ra, .int (nI m), .int x, .int y])), (ra, .inl (cI, oc, .inl fo))]) [0, 1, 2, 3] rfl) (hD.sub (ws' := [(o, .inr (7, [.ref h, .ref mm])), (mm, .inr (6, [.ref s, .ref v, .ref re, .ref u, .int zr, .int zs, .int zh, .int zp, .int zt, .int zw, .int zm])), (u, .inr (4, [.ref ra, .int (nI m), .int x, .int y])), (ra, .inl (cI, oc, .inl fo))]) [0, 1, 2, 3] rfl rfl) hS ⟨_, rfl, rfl, rfl, rfl, ⟨ia, wb, rfl, hia, rfl, hwb, rfl⟩⟩)
  · exact x_throw hfl hx hb (by rw [hml]; exact hl.1.symm) hlk hown (by decide +kernel) (by decide +kernel) (xat_IO hts hZ.2.1 hXU ml_CO_35) (hts _ cl_CO_31) (hts _ xin_IO) (hXU.2.2.1 _ (List.mem_of_getElem? (i := 5) rfl)) hno (Nat.le_of_ble_eq_true rfl) (Nat.le_of_ble_eq_true rfl) (Nat.le_of_ble_eq_true rfl) (Nat.le_of_ble_eq_true rfl) ⟨rfl, c_12⟩ d_CO_mark_15 d_CO_mark_18 d_CO_mark_19 d_CO_mark_21 d_CO_mark_24
set_option maxHeartbeats 1000000 in
set_option maxRecDepth 100000 in
theorem c_CO_last (l : Launch) (D : va_G) (cB cI cJ : ClassId) (o h : Nat) (mm s v re u : Nat) (zr zs zh zp zt zw zm : Int32) (va vb n : Nat) (e0 e1 e2 ki pl en d : Nat) (dp : Int32) (k : Int32) : Ro l D classes (TY cB cI cJ) gd_tbl nx_tbl y_CO_last b_CO_last 2 (some .int) ({ frames := 2, cells := 0, slots := 0, locals := 41 }) [.ref o, .int k] [(o, .inr (7, [.ref h, .ref mm])), (mm, .inr (6, [.ref s, .ref v, .ref re, .ref u, .int zr, .int zs, .int zh, .int zp, .int zt, .int zw, .int zm])), (v, .inr (3, [.ref va, .ref vb, .int (nI n)])), (s, .inr (2, [.ref e0, .ref e1, .ref e2, .ref ki, .ref pl, .ref en, .int (nI d), .int dp]))] (fun v => ∃ r : Int32, v = .int r) := by
  refine Ro.intro (by decide +kernel) nx_ok (Nat.le_of_ble_eq_true rfl) ?_
  intro p_ e_ s_ m_ args_ below_ meth_ c_ A_ ls hx hb hml hown hts hr hlk hnm hZ hP hD hl
  have hl : lv_has ls 2 [(0, .ref o), (1, .int k)] := hl
  refine lv_aload_n hx hb d_CO_last_0 rfl (lv_at hl 0 rfl) ?_
  refine va_get (D := D) (ci := 7) (v := .ref mm) (C := R_CO) (T := F_CO) (N := 2) hx hb hts i_CO hown hZ.1 hP 0 rfl rfl 1 (by decide) (hts _ fl_CO_19) (fun _ h9 => h9) rfl d_CO_last_1 ?_
  refine lv_iload_n hx hb d_CO_last_4 rfl (lv_at hl 1 rfl) ?_
  refine roV (As := [.int k]) (rest := []) ⟨hx, hb, hml, hown, hts⟩ gd_good (c_Ma_told l D cB cI cJ mm s v re u zr zs zh zp zt zw zm va vb n e0 e1 e2 ki pl en d dp k) cal_Ma_told ml_CO_91 ⟨Nat.le_of_ble_eq_true rfl, Nat.le_of_ble_eq_true rfl⟩ hZ hP hD (isC := [1, 2, 3]) ⟨rfl, rfl⟩ 1 (ci := 6) rfl rfl rfl rfl hl.1 rfl (Nat.le_of_ble_eq_true rfl) d_CO_last_5 ⟨Nat.le_of_ble_eq_true rfl, Nat.le_of_ble_eq_true rfl⟩ (fun v hv => ?_)
  obtain ⟨o_5, rfl⟩ := hv
  exact r_iret hx hb hr hlk d_CO_last_8 ⟨_, rfl⟩
