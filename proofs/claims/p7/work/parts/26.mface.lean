abbrev b_Mo_thrown : ByteArray := prog_12_method_2_code
abbrev y_Mo_thrown : MethodName := ⟨"CharOutlinesModel", "thrown", "()I"⟩
set_option maxRecDepth 100000 in
theorem cal_Mo_thrown : CalV gd_tbl "CharOutlinesModel" y_Mo_thrown b_Mo_thrown 1 (some .int) 0 := ⟨⟨List.mem_filter.mpr ⟨List.mem_of_getElem? (i := 842) rfl, rfl⟩, List.mem_filter.mpr ⟨List.mem_of_getElem? (i := 68) rfl, rfl⟩, ⟨by decide, by decide⟩, by decide +kernel⟩, List.mem_filter.mpr ⟨List.mem_of_getElem? (i := 840) rfl, rfl⟩, List.mem_filter.mpr ⟨List.mem_of_getElem? (i := 841) rfl, rfl⟩⟩
theorem d_Mo_thrown_0 : decode b_Mo_thrown 0 = .ok (.aload_n 0, 1) := by decide +kernel
theorem d_Mo_thrown_1 : decode b_Mo_thrown 1 = .ok (.getfield 44, 3) := by decide +kernel
theorem d_Mo_thrown_4 : decode b_Mo_thrown 4 = .ok (.ireturn, 1) := by decide +kernel
abbrev b_Mo_refused : ByteArray := prog_12_method_3_code
abbrev y_Mo_refused : MethodName := ⟨"CharOutlinesModel", "refused", "(I)Z"⟩
set_option maxRecDepth 100000 in
theorem cal_Mo_refused : CalV gd_tbl "CharOutlinesModel" y_Mo_refused b_Mo_refused 2 (some .boolean) 1 := ⟨⟨List.mem_filter.mpr ⟨List.mem_of_getElem? (i := 854) rfl, rfl⟩, List.mem_filter.mpr ⟨List.mem_of_getElem? (i := 68) rfl, rfl⟩, ⟨by decide, by decide⟩, by decide +kernel⟩, List.mem_filter.mpr ⟨List.mem_of_getElem? (i := 853) rfl, rfl⟩, List.mem_filter.mpr ⟨List.mem_of_getElem? (i := 18) rfl, rfl⟩⟩
theorem d_Mo_refused_0 : decode b_Mo_refused 0 = .ok (.aload_n 0, 1) := by decide +kernel
theorem d_Mo_refused_1 : decode b_Mo_refused 1 = .ok (.iload_n 1, 1) := by decide +kernel
theorem d_Mo_refused_2 : decode b_Mo_refused 2 = .ok (.putfield 44, 3) := by decide +kernel
theorem d_Mo_refused_5 : decode b_Mo_refused 5 = .ok (.iload_n 1, 1) := by decide +kernel
theorem d_Mo_refused_6 : decode b_Mo_refused 6 = .ok (.ifCond .le 7, 3) := by decide +kernel
theorem d_Mo_refused_9 : decode b_Mo_refused 9 = .ok (.iconst 1, 1) := by decide +kernel
theorem d_Mo_refused_10 : decode b_Mo_refused 10 = .ok (.goto 4, 3) := by decide +kernel
theorem d_Mo_refused_13 : decode b_Mo_refused 13 = .ok (.iconst 0, 1) := by decide +kernel
theorem d_Mo_refused_14 : decode b_Mo_refused 14 = .ok (.ireturn, 1) := by decide +kernel
abbrev b_Mo_feed : ByteArray := prog_12_method_4_code
abbrev y_Mo_feed : MethodName := ⟨"CharOutlinesModel", "feed", "(IIIII)I"⟩
set_option maxRecDepth 100000 in
theorem cal_Mo_feed : CalV gd_tbl "CharOutlinesModel" y_Mo_feed b_Mo_feed 8 (some .int) 5 := ⟨⟨List.mem_filter.mpr ⟨List.mem_of_getElem? (i := 846) rfl, rfl⟩, List.mem_filter.mpr ⟨List.mem_of_getElem? (i := 68) rfl, rfl⟩, ⟨by decide, by decide⟩, by decide +kernel⟩, List.mem_filter.mpr ⟨List.mem_of_getElem? (i := 844) rfl, rfl⟩, List.mem_filter.mpr ⟨List.mem_of_getElem? (i := 845) rfl, rfl⟩⟩
theorem d_Mo_feed_0 : decode b_Mo_feed 0 = .ok (.aload_n 0, 1) := by decide +kernel
theorem d_Mo_feed_1 : decode b_Mo_feed 1 = .ok (.iconst 0, 1) := by decide +kernel
theorem d_Mo_feed_2 : decode b_Mo_feed 2 = .ok (.putfield 44, 3) := by decide +kernel
theorem d_Mo_feed_5 : decode b_Mo_feed 5 = .ok (.aload_n 0, 1) := by decide +kernel
theorem d_Mo_feed_6 : decode b_Mo_feed 6 = .ok (.getfield 48, 3) := by decide +kernel
theorem d_Mo_feed_9 : decode b_Mo_feed 9 = .ok (.bipush 20, 2) := by decide +kernel
theorem d_Mo_feed_11 : decode b_Mo_feed 11 = .ok (.iadd, 1) := by decide +kernel
theorem d_Mo_feed_12 : decode b_Mo_feed 12 = .ok (.sipush 16384, 3) := by decide +kernel
theorem d_Mo_feed_15 : decode b_Mo_feed 15 = .ok (.if_icmp .le 5, 3) := by decide +kernel
theorem d_Mo_feed_18 : decode b_Mo_feed 18 = .ok (.iconst (-1), 1) := by decide +kernel
theorem d_Mo_feed_19 : decode b_Mo_feed 19 = .ok (.ireturn, 1) := by decide +kernel
theorem d_Mo_feed_20 : decode b_Mo_feed 20 = .ok (.iconst 0, 1) := by decide +kernel
theorem d_Mo_feed_21 : decode b_Mo_feed 21 = .ok (.istore 6, 2) := by decide +kernel
theorem d_Mo_feed_23 : decode b_Mo_feed 23 = .ok (.iload 6, 2) := by decide +kernel
theorem d_Mo_feed_25 : decode b_Mo_feed 25 = .ok (.bipush 20, 2) := by decide +kernel
theorem d_Mo_feed_27 : decode b_Mo_feed 27 = .ok (.if_icmp .ge 93, 3) := by decide +kernel
theorem d_Mo_feed_30 : decode b_Mo_feed 30 = .ok (.iload 6, 2) := by decide +kernel
theorem d_Mo_feed_32 : decode b_Mo_feed 32 = .ok (.iconst 4, 1) := by decide +kernel
theorem d_Mo_feed_33 : decode b_Mo_feed 33 = .ok (.if_icmp .ge 7, 3) := by decide +kernel
theorem d_Mo_feed_36 : decode b_Mo_feed 36 = .ok (.iload_n 1, 1) := by decide +kernel
theorem d_Mo_feed_37 : decode b_Mo_feed 37 = .ok (.goto 39, 3) := by decide +kernel
theorem d_Mo_feed_40 : decode b_Mo_feed 40 = .ok (.iload 6, 2) := by decide +kernel
theorem d_Mo_feed_42 : decode b_Mo_feed 42 = .ok (.bipush 8, 2) := by decide +kernel
theorem d_Mo_feed_44 : decode b_Mo_feed 44 = .ok (.if_icmp .ge 7, 3) := by decide +kernel
theorem d_Mo_feed_47 : decode b_Mo_feed 47 = .ok (.iload_n 2, 1) := by decide +kernel
theorem d_Mo_feed_48 : decode b_Mo_feed 48 = .ok (.goto 28, 3) := by decide +kernel
theorem d_Mo_feed_51 : decode b_Mo_feed 51 = .ok (.iload 6, 2) := by decide +kernel
theorem d_Mo_feed_53 : decode b_Mo_feed 53 = .ok (.bipush 12, 2) := by decide +kernel
theorem d_Mo_feed_55 : decode b_Mo_feed 55 = .ok (.if_icmp .ge 7, 3) := by decide +kernel
theorem d_Mo_feed_58 : decode b_Mo_feed 58 = .ok (.iload_n 3, 1) := by decide +kernel
theorem d_Mo_feed_59 : decode b_Mo_feed 59 = .ok (.goto 17, 3) := by decide +kernel
theorem d_Mo_feed_62 : decode b_Mo_feed 62 = .ok (.iload 6, 2) := by decide +kernel
theorem d_Mo_feed_64 : decode b_Mo_feed 64 = .ok (.bipush 16, 2) := by decide +kernel
theorem d_Mo_feed_66 : decode b_Mo_feed 66 = .ok (.if_icmp .ge 8, 3) := by decide +kernel
theorem d_Mo_feed_69 : decode b_Mo_feed 69 = .ok (.iload 4, 2) := by decide +kernel
theorem d_Mo_feed_71 : decode b_Mo_feed 71 = .ok (.goto 5, 3) := by decide +kernel
theorem d_Mo_feed_74 : decode b_Mo_feed 74 = .ok (.iload 5, 2) := by decide +kernel
theorem d_Mo_feed_76 : decode b_Mo_feed 76 = .ok (.istore 7, 2) := by decide +kernel
theorem d_Mo_feed_78 : decode b_Mo_feed 78 = .ok (.aload_n 0, 1) := by decide +kernel
theorem d_Mo_feed_79 : decode b_Mo_feed 79 = .ok (.getfield 7, 3) := by decide +kernel
theorem d_Mo_feed_82 : decode b_Mo_feed 82 = .ok (.aload_n 0, 1) := by decide +kernel
theorem d_Mo_feed_83 : decode b_Mo_feed 83 = .ok (.getfield 48, 3) := by decide +kernel
theorem d_Mo_feed_86 : decode b_Mo_feed 86 = .ok (.iload 7, 2) := by decide +kernel
theorem d_Mo_feed_88 : decode b_Mo_feed 88 = .ok (.bipush 24, 2) := by decide +kernel
theorem d_Mo_feed_90 : decode b_Mo_feed 90 = .ok (.bipush 8, 2) := by decide +kernel
theorem d_Mo_feed_92 : decode b_Mo_feed 92 = .ok (.iload 6, 2) := by decide +kernel
theorem d_Mo_feed_94 : decode b_Mo_feed 94 = .ok (.iconst 4, 1) := by decide +kernel
theorem d_Mo_feed_95 : decode b_Mo_feed 95 = .ok (.irem, 1) := by decide +kernel
theorem d_Mo_feed_96 : decode b_Mo_feed 96 = .ok (.imul, 1) := by decide +kernel
theorem d_Mo_feed_97 : decode b_Mo_feed 97 = .ok (.isub, 1) := by decide +kernel
theorem d_Mo_feed_98 : decode b_Mo_feed 98 = .ok (.ishr, 1) := by decide +kernel
theorem d_Mo_feed_99 : decode b_Mo_feed 99 = .ok (.sipush 255, 3) := by decide +kernel
theorem d_Mo_feed_102 : decode b_Mo_feed 102 = .ok (.iand, 1) := by decide +kernel
theorem d_Mo_feed_103 : decode b_Mo_feed 103 = .ok (.iastore, 1) := by decide +kernel
theorem d_Mo_feed_104 : decode b_Mo_feed 104 = .ok (.aload_n 0, 1) := by decide +kernel
theorem d_Mo_feed_105 : decode b_Mo_feed 105 = .ok (.dup, 1) := by decide +kernel
theorem d_Mo_feed_106 : decode b_Mo_feed 106 = .ok (.getfield 48, 3) := by decide +kernel
theorem d_Mo_feed_109 : decode b_Mo_feed 109 = .ok (.iconst 1, 1) := by decide +kernel
theorem d_Mo_feed_110 : decode b_Mo_feed 110 = .ok (.iadd, 1) := by decide +kernel
theorem d_Mo_feed_111 : decode b_Mo_feed 111 = .ok (.putfield 48, 3) := by decide +kernel
theorem d_Mo_feed_114 : decode b_Mo_feed 114 = .ok (.iinc 6 1, 3) := by decide +kernel
theorem d_Mo_feed_117 : decode b_Mo_feed 117 = .ok (.goto (-94), 3) := by decide +kernel
theorem d_Mo_feed_120 : decode b_Mo_feed 120 = .ok (.aload_n 0, 1) := by decide +kernel
theorem d_Mo_feed_121 : decode b_Mo_feed 121 = .ok (.getfield 48, 3) := by decide +kernel
theorem d_Mo_feed_124 : decode b_Mo_feed 124 = .ok (.ireturn, 1) := by decide +kernel
abbrev b_Mo_put : ByteArray := prog_12_method_5_code
abbrev y_Mo_put : MethodName := ⟨"CharOutlinesModel", "put", "(II)I"⟩
set_option maxRecDepth 100000 in
theorem cal_Mo_put : CalV gd_tbl "CharOutlinesModel" y_Mo_put b_Mo_put 4 (some .int) 2 := ⟨⟨List.mem_filter.mpr ⟨List.mem_of_getElem? (i := 850) rfl, rfl⟩, List.mem_filter.mpr ⟨List.mem_of_getElem? (i := 68) rfl, rfl⟩, ⟨by decide, by decide⟩, by decide +kernel⟩, List.mem_filter.mpr ⟨List.mem_of_getElem? (i := 848) rfl, rfl⟩, List.mem_filter.mpr ⟨List.mem_of_getElem? (i := 849) rfl, rfl⟩⟩
theorem d_Mo_put_0 : decode b_Mo_put 0 = .ok (.aload_n 0, 1) := by decide +kernel
theorem d_Mo_put_1 : decode b_Mo_put 1 = .ok (.iload_n 1, 1) := by decide +kernel
theorem d_Mo_put_2 : decode b_Mo_put 2 = .ok (.ifCond .lt 11, 3) := by decide +kernel
theorem d_Mo_put_5 : decode b_Mo_put 5 = .ok (.iload_n 1, 1) := by decide +kernel
theorem d_Mo_put_6 : decode b_Mo_put 6 = .ok (.aload_n 0, 1) := by decide +kernel
theorem d_Mo_put_7 : decode b_Mo_put 7 = .ok (.getfield 48, 3) := by decide +kernel
theorem d_Mo_put_10 : decode b_Mo_put 10 = .ok (.if_icmp .lt 7, 3) := by decide +kernel
theorem d_Mo_put_13 : decode b_Mo_put 13 = .ok (.iconst 1, 1) := by decide +kernel
theorem d_Mo_put_14 : decode b_Mo_put 14 = .ok (.goto 19, 3) := by decide +kernel
theorem d_Mo_put_17 : decode b_Mo_put 17 = .ok (.iload_n 2, 1) := by decide +kernel
theorem d_Mo_put_18 : decode b_Mo_put 18 = .ok (.ifCond .lt 10, 3) := by decide +kernel
theorem d_Mo_put_21 : decode b_Mo_put 21 = .ok (.iload_n 2, 1) := by decide +kernel
theorem d_Mo_put_22 : decode b_Mo_put 22 = .ok (.sipush 255, 3) := by decide +kernel
theorem d_Mo_put_25 : decode b_Mo_put 25 = .ok (.if_icmp .le 7, 3) := by decide +kernel
theorem d_Mo_put_28 : decode b_Mo_put 28 = .ok (.iconst 2, 1) := by decide +kernel
theorem d_Mo_put_29 : decode b_Mo_put 29 = .ok (.goto 4, 3) := by decide +kernel
theorem d_Mo_put_32 : decode b_Mo_put 32 = .ok (.iconst 0, 1) := by decide +kernel
theorem d_Mo_put_33 : decode b_Mo_put 33 = .ok (.invokevirtual 51, 3) := by decide +kernel
theorem d_Mo_put_36 : decode b_Mo_put 36 = .ok (.ifCond .eq 5, 3) := by decide +kernel
theorem d_Mo_put_39 : decode b_Mo_put 39 = .ok (.iconst 0, 1) := by decide +kernel
theorem d_Mo_put_40 : decode b_Mo_put 40 = .ok (.ireturn, 1) := by decide +kernel
theorem d_Mo_put_41 : decode b_Mo_put 41 = .ok (.aload_n 0, 1) := by decide +kernel
theorem d_Mo_put_42 : decode b_Mo_put 42 = .ok (.getfield 7, 3) := by decide +kernel
theorem d_Mo_put_45 : decode b_Mo_put 45 = .ok (.iload_n 1, 1) := by decide +kernel
theorem d_Mo_put_46 : decode b_Mo_put 46 = .ok (.iaload, 1) := by decide +kernel
theorem d_Mo_put_47 : decode b_Mo_put 47 = .ok (.istore_n 3, 1) := by decide +kernel
theorem d_Mo_put_48 : decode b_Mo_put 48 = .ok (.aload_n 0, 1) := by decide +kernel
theorem d_Mo_put_49 : decode b_Mo_put 49 = .ok (.getfield 7, 3) := by decide +kernel
theorem d_Mo_put_52 : decode b_Mo_put 52 = .ok (.iload_n 1, 1) := by decide +kernel
theorem d_Mo_put_53 : decode b_Mo_put 53 = .ok (.iload_n 2, 1) := by decide +kernel
theorem d_Mo_put_54 : decode b_Mo_put 54 = .ok (.iastore, 1) := by decide +kernel
theorem d_Mo_put_55 : decode b_Mo_put 55 = .ok (.iload_n 3, 1) := by decide +kernel
theorem d_Mo_put_56 : decode b_Mo_put 56 = .ok (.ireturn, 1) := by decide +kernel
abbrev b_Mo_cut : ByteArray := prog_12_method_6_code
abbrev y_Mo_cut : MethodName := ⟨"CharOutlinesModel", "cut", "(I)I"⟩
set_option maxRecDepth 100000 in
theorem cal_Mo_cut : CalV gd_tbl "CharOutlinesModel" y_Mo_cut b_Mo_cut 3 (some .int) 1 := ⟨⟨List.mem_filter.mpr ⟨List.mem_of_getElem? (i := 858) rfl, rfl⟩, List.mem_filter.mpr ⟨List.mem_of_getElem? (i := 68) rfl, rfl⟩, ⟨by decide, by decide⟩, by decide +kernel⟩, List.mem_filter.mpr ⟨List.mem_of_getElem? (i := 856) rfl, rfl⟩, List.mem_filter.mpr ⟨List.mem_of_getElem? (i := 857) rfl, rfl⟩⟩
theorem d_Mo_cut_0 : decode b_Mo_cut 0 = .ok (.aload_n 0, 1) := by decide +kernel
theorem d_Mo_cut_1 : decode b_Mo_cut 1 = .ok (.iload_n 1, 1) := by decide +kernel
theorem d_Mo_cut_2 : decode b_Mo_cut 2 = .ok (.ifCond .ge 7, 3) := by decide +kernel
theorem d_Mo_cut_5 : decode b_Mo_cut 5 = .ok (.iconst 1, 1) := by decide +kernel
theorem d_Mo_cut_6 : decode b_Mo_cut 6 = .ok (.goto 4, 3) := by decide +kernel
theorem d_Mo_cut_9 : decode b_Mo_cut 9 = .ok (.iconst 0, 1) := by decide +kernel
theorem d_Mo_cut_10 : decode b_Mo_cut 10 = .ok (.invokevirtual 51, 3) := by decide +kernel
theorem d_Mo_cut_13 : decode b_Mo_cut 13 = .ok (.ifCond .eq 5, 3) := by decide +kernel
theorem d_Mo_cut_16 : decode b_Mo_cut 16 = .ok (.iconst 0, 1) := by decide +kernel
theorem d_Mo_cut_17 : decode b_Mo_cut 17 = .ok (.ireturn, 1) := by decide +kernel
theorem d_Mo_cut_18 : decode b_Mo_cut 18 = .ok (.aload_n 0, 1) := by decide +kernel
theorem d_Mo_cut_19 : decode b_Mo_cut 19 = .ok (.getfield 48, 3) := by decide +kernel
theorem d_Mo_cut_22 : decode b_Mo_cut 22 = .ok (.iload_n 1, 1) := by decide +kernel
theorem d_Mo_cut_23 : decode b_Mo_cut 23 = .ok (.if_icmp .le 12, 3) := by decide +kernel
theorem d_Mo_cut_26 : decode b_Mo_cut 26 = .ok (.aload_n 0, 1) := by decide +kernel
theorem d_Mo_cut_27 : decode b_Mo_cut 27 = .ok (.getfield 48, 3) := by decide +kernel
theorem d_Mo_cut_30 : decode b_Mo_cut 30 = .ok (.iload_n 1, 1) := by decide +kernel
theorem d_Mo_cut_31 : decode b_Mo_cut 31 = .ok (.isub, 1) := by decide +kernel
theorem d_Mo_cut_32 : decode b_Mo_cut 32 = .ok (.goto 4, 3) := by decide +kernel
theorem d_Mo_cut_35 : decode b_Mo_cut 35 = .ok (.iconst 0, 1) := by decide +kernel
theorem d_Mo_cut_36 : decode b_Mo_cut 36 = .ok (.istore_n 2, 1) := by decide +kernel
theorem d_Mo_cut_37 : decode b_Mo_cut 37 = .ok (.aload_n 0, 1) := by decide +kernel
theorem d_Mo_cut_38 : decode b_Mo_cut 38 = .ok (.aload_n 0, 1) := by decide +kernel
theorem d_Mo_cut_39 : decode b_Mo_cut 39 = .ok (.getfield 48, 3) := by decide +kernel
theorem d_Mo_cut_42 : decode b_Mo_cut 42 = .ok (.iload_n 2, 1) := by decide +kernel
theorem d_Mo_cut_43 : decode b_Mo_cut 43 = .ok (.isub, 1) := by decide +kernel
theorem d_Mo_cut_44 : decode b_Mo_cut 44 = .ok (.putfield 48, 3) := by decide +kernel
theorem d_Mo_cut_47 : decode b_Mo_cut 47 = .ok (.iload_n 2, 1) := by decide +kernel
theorem d_Mo_cut_48 : decode b_Mo_cut 48 = .ok (.ireturn, 1) := by decide +kernel
abbrev b_Mo_rowNumber : ByteArray := prog_12_method_7_code
abbrev y_Mo_rowNumber : MethodName := ⟨"CharOutlinesModel", "rowNumber", "(II)J"⟩
set_option maxRecDepth 100000 in
theorem cal_Mo_rowNumber : CalV gd_tbl "CharOutlinesModel" y_Mo_rowNumber b_Mo_rowNumber 6 (some .long) 2 := ⟨⟨List.mem_filter.mpr ⟨List.mem_of_getElem? (i := 870) rfl, rfl⟩, List.mem_filter.mpr ⟨List.mem_of_getElem? (i := 68) rfl, rfl⟩, ⟨by decide, by decide⟩, by decide +kernel⟩, List.mem_filter.mpr ⟨List.mem_of_getElem? (i := 869) rfl, rfl⟩, List.mem_filter.mpr ⟨List.mem_of_getElem? (i := 20) rfl, rfl⟩⟩
theorem d_Mo_rowNumber_0 : decode b_Mo_rowNumber 0 = .ok (.lconst 0, 1) := by decide +kernel
theorem d_Mo_rowNumber_1 : decode b_Mo_rowNumber 1 = .ok (.lstore_n 3, 1) := by decide +kernel
theorem d_Mo_rowNumber_2 : decode b_Mo_rowNumber 2 = .ok (.iconst 0, 1) := by decide +kernel
theorem d_Mo_rowNumber_3 : decode b_Mo_rowNumber 3 = .ok (.istore 5, 2) := by decide +kernel
theorem d_Mo_rowNumber_5 : decode b_Mo_rowNumber 5 = .ok (.iload 5, 2) := by decide +kernel
theorem d_Mo_rowNumber_7 : decode b_Mo_rowNumber 7 = .ok (.iload_n 2, 1) := by decide +kernel
theorem d_Mo_rowNumber_8 : decode b_Mo_rowNumber 8 = .ok (.if_icmp .ge 26, 3) := by decide +kernel
theorem d_Mo_rowNumber_11 : decode b_Mo_rowNumber 11 = .ok (.ldc2_w 55, 3) := by decide +kernel
theorem d_Mo_rowNumber_14 : decode b_Mo_rowNumber 14 = .ok (.lload_n 3, 1) := by decide +kernel
theorem d_Mo_rowNumber_15 : decode b_Mo_rowNumber 15 = .ok (.lmul, 1) := by decide +kernel
theorem d_Mo_rowNumber_16 : decode b_Mo_rowNumber 16 = .ok (.aload_n 0, 1) := by decide +kernel
theorem d_Mo_rowNumber_17 : decode b_Mo_rowNumber 17 = .ok (.getfield 7, 3) := by decide +kernel
theorem d_Mo_rowNumber_20 : decode b_Mo_rowNumber 20 = .ok (.iload_n 1, 1) := by decide +kernel
theorem d_Mo_rowNumber_21 : decode b_Mo_rowNumber 21 = .ok (.iload 5, 2) := by decide +kernel
theorem d_Mo_rowNumber_23 : decode b_Mo_rowNumber 23 = .ok (.iadd, 1) := by decide +kernel
theorem d_Mo_rowNumber_24 : decode b_Mo_rowNumber 24 = .ok (.iaload, 1) := by decide +kernel
theorem d_Mo_rowNumber_25 : decode b_Mo_rowNumber 25 = .ok (.i2l, 1) := by decide +kernel
theorem d_Mo_rowNumber_26 : decode b_Mo_rowNumber 26 = .ok (.ladd, 1) := by decide +kernel
theorem d_Mo_rowNumber_27 : decode b_Mo_rowNumber 27 = .ok (.lstore_n 3, 1) := by decide +kernel
theorem d_Mo_rowNumber_28 : decode b_Mo_rowNumber 28 = .ok (.iinc 5 1, 3) := by decide +kernel
theorem d_Mo_rowNumber_31 : decode b_Mo_rowNumber 31 = .ok (.goto (-26), 3) := by decide +kernel
theorem d_Mo_rowNumber_34 : decode b_Mo_rowNumber 34 = .ok (.lload_n 3, 1) := by decide +kernel
theorem d_Mo_rowNumber_35 : decode b_Mo_rowNumber 35 = .ok (.lreturn, 1) := by decide +kernel
abbrev b_Mo_isShelf : ByteArray := prog_12_method_8_code
abbrev y_Mo_isShelf : MethodName := ⟨"CharOutlinesModel", "isShelf", "()Z"⟩
set_option maxRecDepth 100000 in
theorem cal_Mo_isShelf : CalV gd_tbl "CharOutlinesModel" y_Mo_isShelf b_Mo_isShelf 5 (some .boolean) 0 := ⟨⟨List.mem_filter.mpr ⟨List.mem_of_getElem? (i := 866) rfl, rfl⟩, List.mem_filter.mpr ⟨List.mem_of_getElem? (i := 68) rfl, rfl⟩, ⟨by decide, by decide⟩, by decide +kernel⟩, List.mem_filter.mpr ⟨List.mem_of_getElem? (i := 865) rfl, rfl⟩, List.mem_filter.mpr ⟨List.mem_of_getElem? (i := 19) rfl, rfl⟩⟩
theorem d_Mo_isShelf_0 : decode b_Mo_isShelf 0 = .ok (.aload_n 0, 1) := by decide +kernel
theorem d_Mo_isShelf_1 : decode b_Mo_isShelf 1 = .ok (.getfield 48, 3) := by decide +kernel
theorem d_Mo_isShelf_4 : decode b_Mo_isShelf 4 = .ok (.iconst 2, 1) := by decide +kernel
theorem d_Mo_isShelf_5 : decode b_Mo_isShelf 5 = .ok (.if_icmp .ge 5, 3) := by decide +kernel
theorem d_Mo_isShelf_8 : decode b_Mo_isShelf 8 = .ok (.iconst 0, 1) := by decide +kernel
theorem d_Mo_isShelf_9 : decode b_Mo_isShelf 9 = .ok (.ireturn, 1) := by decide +kernel
theorem d_Mo_isShelf_10 : decode b_Mo_isShelf 10 = .ok (.sipush 256, 3) := by decide +kernel
theorem d_Mo_isShelf_13 : decode b_Mo_isShelf 13 = .ok (.aload_n 0, 1) := by decide +kernel
theorem d_Mo_isShelf_14 : decode b_Mo_isShelf 14 = .ok (.getfield 7, 3) := by decide +kernel
theorem d_Mo_isShelf_17 : decode b_Mo_isShelf 17 = .ok (.iconst 0, 1) := by decide +kernel
theorem d_Mo_isShelf_18 : decode b_Mo_isShelf 18 = .ok (.iaload, 1) := by decide +kernel
theorem d_Mo_isShelf_19 : decode b_Mo_isShelf 19 = .ok (.imul, 1) := by decide +kernel
theorem d_Mo_isShelf_20 : decode b_Mo_isShelf 20 = .ok (.aload_n 0, 1) := by decide +kernel
theorem d_Mo_isShelf_21 : decode b_Mo_isShelf 21 = .ok (.getfield 7, 3) := by decide +kernel
theorem d_Mo_isShelf_24 : decode b_Mo_isShelf 24 = .ok (.iconst 1, 1) := by decide +kernel
theorem d_Mo_isShelf_25 : decode b_Mo_isShelf 25 = .ok (.iaload, 1) := by decide +kernel
theorem d_Mo_isShelf_26 : decode b_Mo_isShelf 26 = .ok (.iadd, 1) := by decide +kernel
theorem d_Mo_isShelf_27 : decode b_Mo_isShelf 27 = .ok (.istore_n 1, 1) := by decide +kernel
theorem d_Mo_isShelf_28 : decode b_Mo_isShelf 28 = .ok (.iload_n 1, 1) := by decide +kernel
theorem d_Mo_isShelf_29 : decode b_Mo_isShelf 29 = .ok (.ifCond .ne 5, 3) := by decide +kernel
theorem d_Mo_isShelf_32 : decode b_Mo_isShelf 32 = .ok (.iconst 1, 1) := by decide +kernel
theorem d_Mo_isShelf_33 : decode b_Mo_isShelf 33 = .ok (.ireturn, 1) := by decide +kernel
theorem d_Mo_isShelf_34 : decode b_Mo_isShelf 34 = .ok (.iload_n 1, 1) := by decide +kernel
theorem d_Mo_isShelf_35 : decode b_Mo_isShelf 35 = .ok (.sipush 2000, 3) := by decide +kernel
theorem d_Mo_isShelf_38 : decode b_Mo_isShelf 38 = .ok (.if_icmp .gt 31, 3) := by decide +kernel
theorem d_Mo_isShelf_41 : decode b_Mo_isShelf 41 = .ok (.aload_n 0, 1) := by decide +kernel
theorem d_Mo_isShelf_42 : decode b_Mo_isShelf 42 = .ok (.getfield 48, 3) := by decide +kernel
theorem d_Mo_isShelf_45 : decode b_Mo_isShelf 45 = .ok (.iconst 3, 1) := by decide +kernel
theorem d_Mo_isShelf_46 : decode b_Mo_isShelf 46 = .ok (.if_icmp .lt 23, 3) := by decide +kernel
theorem d_Mo_isShelf_49 : decode b_Mo_isShelf 49 = .ok (.aload_n 0, 1) := by decide +kernel
theorem d_Mo_isShelf_50 : decode b_Mo_isShelf 50 = .ok (.getfield 7, 3) := by decide +kernel
theorem d_Mo_isShelf_53 : decode b_Mo_isShelf 53 = .ok (.iconst 2, 1) := by decide +kernel
theorem d_Mo_isShelf_54 : decode b_Mo_isShelf 54 = .ok (.iaload, 1) := by decide +kernel
theorem d_Mo_isShelf_55 : decode b_Mo_isShelf 55 = .ok (.iconst 1, 1) := by decide +kernel
theorem d_Mo_isShelf_56 : decode b_Mo_isShelf 56 = .ok (.if_icmp .lt 13, 3) := by decide +kernel
theorem d_Mo_isShelf_59 : decode b_Mo_isShelf 59 = .ok (.aload_n 0, 1) := by decide +kernel
theorem d_Mo_isShelf_60 : decode b_Mo_isShelf 60 = .ok (.getfield 7, 3) := by decide +kernel
theorem d_Mo_isShelf_63 : decode b_Mo_isShelf 63 = .ok (.iconst 2, 1) := by decide +kernel
theorem d_Mo_isShelf_64 : decode b_Mo_isShelf 64 = .ok (.iaload, 1) := by decide +kernel
theorem d_Mo_isShelf_65 : decode b_Mo_isShelf 65 = .ok (.iconst 4, 1) := by decide +kernel
theorem d_Mo_isShelf_66 : decode b_Mo_isShelf 66 = .ok (.if_icmp .le 5, 3) := by decide +kernel
theorem d_Mo_isShelf_69 : decode b_Mo_isShelf 69 = .ok (.iconst 0, 1) := by decide +kernel
theorem d_Mo_isShelf_70 : decode b_Mo_isShelf 70 = .ok (.ireturn, 1) := by decide +kernel
theorem d_Mo_isShelf_71 : decode b_Mo_isShelf 71 = .ok (.aload_n 0, 1) := by decide +kernel
theorem d_Mo_isShelf_72 : decode b_Mo_isShelf 72 = .ok (.getfield 7, 3) := by decide +kernel
theorem d_Mo_isShelf_75 : decode b_Mo_isShelf 75 = .ok (.iconst 2, 1) := by decide +kernel
theorem d_Mo_isShelf_76 : decode b_Mo_isShelf 76 = .ok (.iaload, 1) := by decide +kernel
theorem d_Mo_isShelf_77 : decode b_Mo_isShelf 77 = .ok (.istore_n 2, 1) := by decide +kernel
theorem d_Mo_isShelf_78 : decode b_Mo_isShelf 78 = .ok (.iconst 3, 1) := by decide +kernel
theorem d_Mo_isShelf_79 : decode b_Mo_isShelf 79 = .ok (.iload_n 1, 1) := by decide +kernel
theorem d_Mo_isShelf_80 : decode b_Mo_isShelf 80 = .ok (.iconst 1, 1) := by decide +kernel
theorem d_Mo_isShelf_81 : decode b_Mo_isShelf 81 = .ok (.iadd, 1) := by decide +kernel
theorem d_Mo_isShelf_82 : decode b_Mo_isShelf 82 = .ok (.iload_n 2, 1) := by decide +kernel
theorem d_Mo_isShelf_83 : decode b_Mo_isShelf 83 = .ok (.imul, 1) := by decide +kernel
theorem d_Mo_isShelf_84 : decode b_Mo_isShelf 84 = .ok (.iadd, 1) := by decide +kernel
theorem d_Mo_isShelf_85 : decode b_Mo_isShelf 85 = .ok (.istore_n 3, 1) := by decide +kernel
theorem d_Mo_isShelf_86 : decode b_Mo_isShelf 86 = .ok (.iload_n 3, 1) := by decide +kernel
theorem d_Mo_isShelf_87 : decode b_Mo_isShelf 87 = .ok (.aload_n 0, 1) := by decide +kernel
theorem d_Mo_isShelf_88 : decode b_Mo_isShelf 88 = .ok (.getfield 48, 3) := by decide +kernel
theorem d_Mo_isShelf_91 : decode b_Mo_isShelf 91 = .ok (.if_icmp .gt 14, 3) := by decide +kernel
theorem d_Mo_isShelf_94 : decode b_Mo_isShelf 94 = .ok (.aload_n 0, 1) := by decide +kernel
theorem d_Mo_isShelf_95 : decode b_Mo_isShelf 95 = .ok (.iconst 3, 1) := by decide +kernel
theorem d_Mo_isShelf_96 : decode b_Mo_isShelf 96 = .ok (.iload_n 2, 1) := by decide +kernel
theorem d_Mo_isShelf_97 : decode b_Mo_isShelf 97 = .ok (.invokevirtual 57, 3) := by decide +kernel
theorem d_Mo_isShelf_100 : decode b_Mo_isShelf 100 = .ok (.lconst 1, 1) := by decide +kernel
theorem d_Mo_isShelf_101 : decode b_Mo_isShelf 101 = .ok (.lcmp, 1) := by decide +kernel
theorem d_Mo_isShelf_102 : decode b_Mo_isShelf 102 = .ok (.ifCond .eq 5, 3) := by decide +kernel
theorem d_Mo_isShelf_105 : decode b_Mo_isShelf 105 = .ok (.iconst 0, 1) := by decide +kernel
theorem d_Mo_isShelf_106 : decode b_Mo_isShelf 106 = .ok (.ireturn, 1) := by decide +kernel
theorem d_Mo_isShelf_107 : decode b_Mo_isShelf 107 = .ok (.iconst 1, 1) := by decide +kernel
theorem d_Mo_isShelf_108 : decode b_Mo_isShelf 108 = .ok (.istore 4, 2) := by decide +kernel
theorem d_Mo_isShelf_110 : decode b_Mo_isShelf 110 = .ok (.iload 4, 2) := by decide +kernel
theorem d_Mo_isShelf_112 : decode b_Mo_isShelf 112 = .ok (.iload_n 1, 1) := by decide +kernel
theorem d_Mo_isShelf_113 : decode b_Mo_isShelf 113 = .ok (.if_icmp .gt 39, 3) := by decide +kernel
theorem d_Mo_isShelf_116 : decode b_Mo_isShelf 116 = .ok (.aload_n 0, 1) := by decide +kernel
theorem d_Mo_isShelf_117 : decode b_Mo_isShelf 117 = .ok (.iconst 3, 1) := by decide +kernel
theorem d_Mo_isShelf_118 : decode b_Mo_isShelf 118 = .ok (.iload 4, 2) := by decide +kernel
theorem d_Mo_isShelf_120 : decode b_Mo_isShelf 120 = .ok (.iload_n 2, 1) := by decide +kernel
theorem d_Mo_isShelf_121 : decode b_Mo_isShelf 121 = .ok (.imul, 1) := by decide +kernel
theorem d_Mo_isShelf_122 : decode b_Mo_isShelf 122 = .ok (.iadd, 1) := by decide +kernel
theorem d_Mo_isShelf_123 : decode b_Mo_isShelf 123 = .ok (.iload_n 2, 1) := by decide +kernel
theorem d_Mo_isShelf_124 : decode b_Mo_isShelf 124 = .ok (.invokevirtual 57, 3) := by decide +kernel
theorem d_Mo_isShelf_127 : decode b_Mo_isShelf 127 = .ok (.aload_n 0, 1) := by decide +kernel
theorem d_Mo_isShelf_128 : decode b_Mo_isShelf 128 = .ok (.iconst 3, 1) := by decide +kernel
theorem d_Mo_isShelf_129 : decode b_Mo_isShelf 129 = .ok (.iload 4, 2) := by decide +kernel
theorem d_Mo_isShelf_131 : decode b_Mo_isShelf 131 = .ok (.iconst 1, 1) := by decide +kernel
theorem d_Mo_isShelf_132 : decode b_Mo_isShelf 132 = .ok (.isub, 1) := by decide +kernel
theorem d_Mo_isShelf_133 : decode b_Mo_isShelf 133 = .ok (.iload_n 2, 1) := by decide +kernel
theorem d_Mo_isShelf_134 : decode b_Mo_isShelf 134 = .ok (.imul, 1) := by decide +kernel
theorem d_Mo_isShelf_135 : decode b_Mo_isShelf 135 = .ok (.iadd, 1) := by decide +kernel
theorem d_Mo_isShelf_136 : decode b_Mo_isShelf 136 = .ok (.iload_n 2, 1) := by decide +kernel
theorem d_Mo_isShelf_137 : decode b_Mo_isShelf 137 = .ok (.invokevirtual 57, 3) := by decide +kernel
theorem d_Mo_isShelf_140 : decode b_Mo_isShelf 140 = .ok (.lcmp, 1) := by decide +kernel
theorem d_Mo_isShelf_141 : decode b_Mo_isShelf 141 = .ok (.ifCond .ge 5, 3) := by decide +kernel
theorem d_Mo_isShelf_144 : decode b_Mo_isShelf 144 = .ok (.iconst 0, 1) := by decide +kernel
theorem d_Mo_isShelf_145 : decode b_Mo_isShelf 145 = .ok (.ireturn, 1) := by decide +kernel
theorem d_Mo_isShelf_146 : decode b_Mo_isShelf 146 = .ok (.iinc 4 1, 3) := by decide +kernel
theorem d_Mo_isShelf_149 : decode b_Mo_isShelf 149 = .ok (.goto (-39), 3) := by decide +kernel
theorem d_Mo_isShelf_152 : decode b_Mo_isShelf 152 = .ok (.iload_n 3, 1) := by decide +kernel
theorem d_Mo_isShelf_153 : decode b_Mo_isShelf 153 = .ok (.i2l, 1) := by decide +kernel
theorem d_Mo_isShelf_154 : decode b_Mo_isShelf 154 = .ok (.aload_n 0, 1) := by decide +kernel
theorem d_Mo_isShelf_155 : decode b_Mo_isShelf 155 = .ok (.iconst 3, 1) := by decide +kernel
theorem d_Mo_isShelf_156 : decode b_Mo_isShelf 156 = .ok (.iload_n 1, 1) := by decide +kernel
theorem d_Mo_isShelf_157 : decode b_Mo_isShelf 157 = .ok (.iload_n 2, 1) := by decide +kernel
theorem d_Mo_isShelf_158 : decode b_Mo_isShelf 158 = .ok (.imul, 1) := by decide +kernel
theorem d_Mo_isShelf_159 : decode b_Mo_isShelf 159 = .ok (.iadd, 1) := by decide +kernel
theorem d_Mo_isShelf_160 : decode b_Mo_isShelf 160 = .ok (.iload_n 2, 1) := by decide +kernel
theorem d_Mo_isShelf_161 : decode b_Mo_isShelf 161 = .ok (.invokevirtual 57, 3) := by decide +kernel
theorem d_Mo_isShelf_164 : decode b_Mo_isShelf 164 = .ok (.ladd, 1) := by decide +kernel
theorem d_Mo_isShelf_165 : decode b_Mo_isShelf 165 = .ok (.lconst 1, 1) := by decide +kernel
theorem d_Mo_isShelf_166 : decode b_Mo_isShelf 166 = .ok (.lsub, 1) := by decide +kernel
theorem d_Mo_isShelf_167 : decode b_Mo_isShelf 167 = .ok (.aload_n 0, 1) := by decide +kernel
theorem d_Mo_isShelf_168 : decode b_Mo_isShelf 168 = .ok (.getfield 48, 3) := by decide +kernel
theorem d_Mo_isShelf_171 : decode b_Mo_isShelf 171 = .ok (.i2l, 1) := by decide +kernel
theorem d_Mo_isShelf_172 : decode b_Mo_isShelf 172 = .ok (.lcmp, 1) := by decide +kernel
theorem d_Mo_isShelf_173 : decode b_Mo_isShelf 173 = .ok (.ifCond .gt 7, 3) := by decide +kernel
theorem d_Mo_isShelf_176 : decode b_Mo_isShelf 176 = .ok (.iconst 1, 1) := by decide +kernel
theorem d_Mo_isShelf_177 : decode b_Mo_isShelf 177 = .ok (.goto 4, 3) := by decide +kernel
theorem d_Mo_isShelf_180 : decode b_Mo_isShelf 180 = .ok (.iconst 0, 1) := by decide +kernel
theorem d_Mo_isShelf_181 : decode b_Mo_isShelf 181 = .ok (.ireturn, 1) := by decide +kernel
abbrev b_Mo_take : ByteArray := prog_12_method_9_code
abbrev y_Mo_take : MethodName := ⟨"CharOutlinesModel", "take", "(I)I"⟩
set_option maxRecDepth 100000 in
theorem cal_Mo_take : CalV gd_tbl "CharOutlinesModel" y_Mo_take b_Mo_take 3 (some .int) 1 := ⟨⟨List.mem_filter.mpr ⟨List.mem_of_getElem? (i := 862) rfl, rfl⟩, List.mem_filter.mpr ⟨List.mem_of_getElem? (i := 68) rfl, rfl⟩, ⟨by decide, by decide⟩, by decide +kernel⟩, List.mem_filter.mpr ⟨List.mem_of_getElem? (i := 860) rfl, rfl⟩, List.mem_filter.mpr ⟨List.mem_of_getElem? (i := 861) rfl, rfl⟩⟩
theorem d_Mo_take_0 : decode b_Mo_take 0 = .ok (.aload_n 0, 1) := by decide +kernel
theorem d_Mo_take_1 : decode b_Mo_take 1 = .ok (.iload_n 1, 1) := by decide +kernel
theorem d_Mo_take_2 : decode b_Mo_take 2 = .ok (.ifCond .lt 8, 3) := by decide +kernel
theorem d_Mo_take_5 : decode b_Mo_take 5 = .ok (.iload_n 1, 1) := by decide +kernel
theorem d_Mo_take_6 : decode b_Mo_take 6 = .ok (.iconst 2, 1) := by decide +kernel
theorem d_Mo_take_7 : decode b_Mo_take 7 = .ok (.if_icmp .le 7, 3) := by decide +kernel
theorem d_Mo_take_10 : decode b_Mo_take 10 = .ok (.iconst 1, 1) := by decide +kernel
theorem d_Mo_take_11 : decode b_Mo_take 11 = .ok (.goto 4, 3) := by decide +kernel
theorem d_Mo_take_14 : decode b_Mo_take 14 = .ok (.iconst 0, 1) := by decide +kernel
theorem d_Mo_take_15 : decode b_Mo_take 15 = .ok (.invokevirtual 51, 3) := by decide +kernel
theorem d_Mo_take_18 : decode b_Mo_take 18 = .ok (.ifCond .eq 5, 3) := by decide +kernel
theorem d_Mo_take_21 : decode b_Mo_take 21 = .ok (.iconst 0, 1) := by decide +kernel
theorem d_Mo_take_22 : decode b_Mo_take 22 = .ok (.ireturn, 1) := by decide +kernel
theorem d_Mo_take_23 : decode b_Mo_take 23 = .ok (.aload_n 0, 1) := by decide +kernel
theorem d_Mo_take_24 : decode b_Mo_take 24 = .ok (.invokevirtual 61, 3) := by decide +kernel
theorem d_Mo_take_27 : decode b_Mo_take 27 = .ok (.ifCond .ne 6, 3) := by decide +kernel
theorem d_Mo_take_30 : decode b_Mo_take 30 = .ok (.bipush (-2), 2) := by decide +kernel
theorem d_Mo_take_32 : decode b_Mo_take 32 = .ok (.ireturn, 1) := by decide +kernel
theorem d_Mo_take_33 : decode b_Mo_take 33 = .ok (.iconst 0, 1) := by decide +kernel
theorem d_Mo_take_34 : decode b_Mo_take 34 = .ok (.istore_n 2, 1) := by decide +kernel
theorem d_Mo_take_35 : decode b_Mo_take 35 = .ok (.iload_n 2, 1) := by decide +kernel
theorem d_Mo_take_36 : decode b_Mo_take 36 = .ok (.aload_n 0, 1) := by decide +kernel
theorem d_Mo_take_37 : decode b_Mo_take 37 = .ok (.getfield 48, 3) := by decide +kernel
theorem d_Mo_take_40 : decode b_Mo_take 40 = .ok (.if_icmp .ge 27, 3) := by decide +kernel
theorem d_Mo_take_43 : decode b_Mo_take 43 = .ok (.aload_n 0, 1) := by decide +kernel
theorem d_Mo_take_44 : decode b_Mo_take 44 = .ok (.getfield 14, 3) := by decide +kernel
theorem d_Mo_take_47 : decode b_Mo_take 47 = .ok (.sipush 16384, 3) := by decide +kernel
theorem d_Mo_take_50 : decode b_Mo_take 50 = .ok (.iload_n 1, 1) := by decide +kernel
theorem d_Mo_take_51 : decode b_Mo_take 51 = .ok (.imul, 1) := by decide +kernel
theorem d_Mo_take_52 : decode b_Mo_take 52 = .ok (.iload_n 2, 1) := by decide +kernel
theorem d_Mo_take_53 : decode b_Mo_take 53 = .ok (.iadd, 1) := by decide +kernel
theorem d_Mo_take_54 : decode b_Mo_take 54 = .ok (.aload_n 0, 1) := by decide +kernel
theorem d_Mo_take_55 : decode b_Mo_take 55 = .ok (.getfield 7, 3) := by decide +kernel
theorem d_Mo_take_58 : decode b_Mo_take 58 = .ok (.iload_n 2, 1) := by decide +kernel
theorem d_Mo_take_59 : decode b_Mo_take 59 = .ok (.iaload, 1) := by decide +kernel
theorem d_Mo_take_60 : decode b_Mo_take 60 = .ok (.iastore, 1) := by decide +kernel
theorem d_Mo_take_61 : decode b_Mo_take 61 = .ok (.iinc 2 1, 3) := by decide +kernel
theorem d_Mo_take_64 : decode b_Mo_take 64 = .ok (.goto (-29), 3) := by decide +kernel
theorem d_Mo_take_67 : decode b_Mo_take 67 = .ok (.aload_n 0, 1) := by decide +kernel
theorem d_Mo_take_68 : decode b_Mo_take 68 = .ok (.getfield 17, 3) := by decide +kernel
theorem d_Mo_take_71 : decode b_Mo_take 71 = .ok (.iload_n 1, 1) := by decide +kernel
theorem d_Mo_take_72 : decode b_Mo_take 72 = .ok (.sipush 256, 3) := by decide +kernel
theorem d_Mo_take_75 : decode b_Mo_take 75 = .ok (.aload_n 0, 1) := by decide +kernel
theorem d_Mo_take_76 : decode b_Mo_take 76 = .ok (.getfield 7, 3) := by decide +kernel
theorem d_Mo_take_79 : decode b_Mo_take 79 = .ok (.iconst 0, 1) := by decide +kernel
theorem d_Mo_take_80 : decode b_Mo_take 80 = .ok (.iaload, 1) := by decide +kernel
theorem d_Mo_take_81 : decode b_Mo_take 81 = .ok (.imul, 1) := by decide +kernel
theorem d_Mo_take_82 : decode b_Mo_take 82 = .ok (.aload_n 0, 1) := by decide +kernel
theorem d_Mo_take_83 : decode b_Mo_take 83 = .ok (.getfield 7, 3) := by decide +kernel
theorem d_Mo_take_86 : decode b_Mo_take 86 = .ok (.iconst 1, 1) := by decide +kernel
theorem d_Mo_take_87 : decode b_Mo_take 87 = .ok (.iaload, 1) := by decide +kernel
theorem d_Mo_take_88 : decode b_Mo_take 88 = .ok (.iadd, 1) := by decide +kernel
theorem d_Mo_take_89 : decode b_Mo_take 89 = .ok (.iastore, 1) := by decide +kernel
theorem d_Mo_take_90 : decode b_Mo_take 90 = .ok (.aload_n 0, 1) := by decide +kernel
theorem d_Mo_take_91 : decode b_Mo_take 91 = .ok (.getfield 20, 3) := by decide +kernel
theorem d_Mo_take_94 : decode b_Mo_take 94 = .ok (.iload_n 1, 1) := by decide +kernel
theorem d_Mo_take_95 : decode b_Mo_take 95 = .ok (.aload_n 0, 1) := by decide +kernel
theorem d_Mo_take_96 : decode b_Mo_take 96 = .ok (.getfield 17, 3) := by decide +kernel
theorem d_Mo_take_99 : decode b_Mo_take 99 = .ok (.iload_n 1, 1) := by decide +kernel
theorem d_Mo_take_100 : decode b_Mo_take 100 = .ok (.iaload, 1) := by decide +kernel
theorem d_Mo_take_101 : decode b_Mo_take 101 = .ok (.ifCond .le 12, 3) := by decide +kernel
theorem d_Mo_take_104 : decode b_Mo_take 104 = .ok (.aload_n 0, 1) := by decide +kernel
theorem d_Mo_take_105 : decode b_Mo_take 105 = .ok (.getfield 7, 3) := by decide +kernel
theorem d_Mo_take_108 : decode b_Mo_take 108 = .ok (.iconst 2, 1) := by decide +kernel
theorem d_Mo_take_109 : decode b_Mo_take 109 = .ok (.iaload, 1) := by decide +kernel
theorem d_Mo_take_110 : decode b_Mo_take 110 = .ok (.goto 4, 3) := by decide +kernel
theorem d_Mo_take_113 : decode b_Mo_take 113 = .ok (.iconst 0, 1) := by decide +kernel
theorem d_Mo_take_114 : decode b_Mo_take 114 = .ok (.iastore, 1) := by decide +kernel
theorem d_Mo_take_115 : decode b_Mo_take 115 = .ok (.aload_n 0, 1) := by decide +kernel
theorem d_Mo_take_116 : decode b_Mo_take 116 = .ok (.getfield 17, 3) := by decide +kernel
theorem d_Mo_take_119 : decode b_Mo_take 119 = .ok (.iload_n 1, 1) := by decide +kernel
theorem d_Mo_take_120 : decode b_Mo_take 120 = .ok (.iaload, 1) := by decide +kernel
theorem d_Mo_take_121 : decode b_Mo_take 121 = .ok (.ireturn, 1) := by decide +kernel
abbrev b_Mo_count : ByteArray := prog_12_method_11_code
abbrev y_Mo_count : MethodName := ⟨"CharOutlinesModel", "count", "(I)I"⟩
set_option maxRecDepth 100000 in
theorem cal_Mo_count : CalV gd_tbl "CharOutlinesModel" y_Mo_count b_Mo_count 2 (some .int) 1 := ⟨⟨List.mem_filter.mpr ⟨List.mem_of_getElem? (i := 875) rfl, rfl⟩, List.mem_filter.mpr ⟨List.mem_of_getElem? (i := 68) rfl, rfl⟩, ⟨by decide, by decide⟩, by decide +kernel⟩, List.mem_filter.mpr ⟨List.mem_of_getElem? (i := 873) rfl, rfl⟩, List.mem_filter.mpr ⟨List.mem_of_getElem? (i := 874) rfl, rfl⟩⟩
theorem d_Mo_count_0 : decode b_Mo_count 0 = .ok (.aload_n 0, 1) := by decide +kernel
theorem d_Mo_count_1 : decode b_Mo_count 1 = .ok (.iload_n 1, 1) := by decide +kernel
theorem d_Mo_count_2 : decode b_Mo_count 2 = .ok (.ifCond .lt 8, 3) := by decide +kernel
theorem d_Mo_count_5 : decode b_Mo_count 5 = .ok (.iload_n 1, 1) := by decide +kernel
theorem d_Mo_count_6 : decode b_Mo_count 6 = .ok (.iconst 2, 1) := by decide +kernel
theorem d_Mo_count_7 : decode b_Mo_count 7 = .ok (.if_icmp .le 7, 3) := by decide +kernel
theorem d_Mo_count_10 : decode b_Mo_count 10 = .ok (.iconst 1, 1) := by decide +kernel
theorem d_Mo_count_11 : decode b_Mo_count 11 = .ok (.goto 4, 3) := by decide +kernel
theorem d_Mo_count_14 : decode b_Mo_count 14 = .ok (.iconst 0, 1) := by decide +kernel
theorem d_Mo_count_15 : decode b_Mo_count 15 = .ok (.invokevirtual 51, 3) := by decide +kernel
theorem d_Mo_count_18 : decode b_Mo_count 18 = .ok (.ifCond .eq 7, 3) := by decide +kernel
theorem d_Mo_count_21 : decode b_Mo_count 21 = .ok (.iconst 0, 1) := by decide +kernel
theorem d_Mo_count_22 : decode b_Mo_count 22 = .ok (.goto 9, 3) := by decide +kernel
theorem d_Mo_count_25 : decode b_Mo_count 25 = .ok (.aload_n 0, 1) := by decide +kernel
theorem d_Mo_count_26 : decode b_Mo_count 26 = .ok (.getfield 17, 3) := by decide +kernel
theorem d_Mo_count_29 : decode b_Mo_count 29 = .ok (.iload_n 1, 1) := by decide +kernel
theorem d_Mo_count_30 : decode b_Mo_count 30 = .ok (.iaload, 1) := by decide +kernel
theorem d_Mo_count_31 : decode b_Mo_count 31 = .ok (.ireturn, 1) := by decide +kernel
abbrev b_Mo_mark : ByteArray := prog_12_method_55_code
abbrev y_Mo_mark : MethodName := ⟨"CharOutlinesModel", "mark", "(II)I"⟩
set_option maxRecDepth 100000 in
theorem cal_Mo_mark : CalV gd_tbl "CharOutlinesModel" y_Mo_mark b_Mo_mark 4 (some .int) 2 := ⟨⟨List.mem_filter.mpr ⟨List.mem_of_getElem? (i := 1054) rfl, rfl⟩, List.mem_filter.mpr ⟨List.mem_of_getElem? (i := 68) rfl, rfl⟩, ⟨by decide, by decide⟩, by decide +kernel⟩, List.mem_filter.mpr ⟨List.mem_of_getElem? (i := 1052) rfl, rfl⟩, List.mem_filter.mpr ⟨List.mem_of_getElem? (i := 1053) rfl, rfl⟩⟩
theorem d_Mo_mark_0 : decode b_Mo_mark 0 = .ok (.iload_n 1, 1) := by decide +kernel
theorem d_Mo_mark_1 : decode b_Mo_mark 1 = .ok (.ifCond .lt 25, 3) := by decide +kernel
theorem d_Mo_mark_4 : decode b_Mo_mark 4 = .ok (.iload_n 1, 1) := by decide +kernel
theorem d_Mo_mark_5 : decode b_Mo_mark 5 = .ok (.aload_n 0, 1) := by decide +kernel
theorem d_Mo_mark_6 : decode b_Mo_mark 6 = .ok (.getfield 126, 3) := by decide +kernel
theorem d_Mo_mark_9 : decode b_Mo_mark 9 = .ok (.if_icmp .ge 17, 3) := by decide +kernel
theorem d_Mo_mark_12 : decode b_Mo_mark 12 = .ok (.iload_n 2, 1) := by decide +kernel
theorem d_Mo_mark_13 : decode b_Mo_mark 13 = .ok (.ifCond .lt 13, 3) := by decide +kernel
theorem d_Mo_mark_16 : decode b_Mo_mark 16 = .ok (.iload_n 2, 1) := by decide +kernel
theorem d_Mo_mark_17 : decode b_Mo_mark 17 = .ok (.bipush 6, 2) := by decide +kernel
theorem d_Mo_mark_19 : decode b_Mo_mark 19 = .ok (.if_icmp .gt 7, 3) := by decide +kernel
theorem d_Mo_mark_22 : decode b_Mo_mark 22 = .ok (.iconst 1, 1) := by decide +kernel
theorem d_Mo_mark_23 : decode b_Mo_mark 23 = .ok (.goto 4, 3) := by decide +kernel
theorem d_Mo_mark_26 : decode b_Mo_mark 26 = .ok (.iconst 0, 1) := by decide +kernel
theorem d_Mo_mark_27 : decode b_Mo_mark 27 = .ok (.istore_n 3, 1) := by decide +kernel
theorem d_Mo_mark_28 : decode b_Mo_mark 28 = .ok (.aload_n 0, 1) := by decide +kernel
theorem d_Mo_mark_29 : decode b_Mo_mark 29 = .ok (.iload_n 3, 1) := by decide +kernel
theorem d_Mo_mark_30 : decode b_Mo_mark 30 = .ok (.ifCond .eq 7, 3) := by decide +kernel
theorem d_Mo_mark_33 : decode b_Mo_mark 33 = .ok (.iconst 0, 1) := by decide +kernel
theorem d_Mo_mark_34 : decode b_Mo_mark 34 = .ok (.goto 4, 3) := by decide +kernel
theorem d_Mo_mark_37 : decode b_Mo_mark 37 = .ok (.iconst 1, 1) := by decide +kernel
theorem d_Mo_mark_38 : decode b_Mo_mark 38 = .ok (.invokevirtual 51, 3) := by decide +kernel
theorem d_Mo_mark_41 : decode b_Mo_mark 41 = .ok (.ifCond .eq 7, 3) := by decide +kernel
theorem d_Mo_mark_44 : decode b_Mo_mark 44 = .ok (.iconst 0, 1) := by decide +kernel
theorem d_Mo_mark_45 : decode b_Mo_mark 45 = .ok (.goto 14, 3) := by decide +kernel
theorem d_Mo_mark_48 : decode b_Mo_mark 48 = .ok (.aload_n 0, 1) := by decide +kernel
theorem d_Mo_mark_49 : decode b_Mo_mark 49 = .ok (.getfield 26, 3) := by decide +kernel
theorem d_Mo_mark_52 : decode b_Mo_mark 52 = .ok (.bipush 7, 2) := by decide +kernel
theorem d_Mo_mark_54 : decode b_Mo_mark 54 = .ok (.iload_n 1, 1) := by decide +kernel
theorem d_Mo_mark_55 : decode b_Mo_mark 55 = .ok (.imul, 1) := by decide +kernel
theorem d_Mo_mark_56 : decode b_Mo_mark 56 = .ok (.iload_n 2, 1) := by decide +kernel
theorem d_Mo_mark_57 : decode b_Mo_mark 57 = .ok (.iadd, 1) := by decide +kernel
theorem d_Mo_mark_58 : decode b_Mo_mark 58 = .ok (.iaload, 1) := by decide +kernel
theorem d_Mo_mark_59 : decode b_Mo_mark 59 = .ok (.ireturn, 1) := by decide +kernel
abbrev b_Mo_last : ByteArray := prog_12_method_56_code
abbrev y_Mo_last : MethodName := ⟨"CharOutlinesModel", "last", "(I)I"⟩
set_option maxRecDepth 100000 in
theorem cal_Mo_last : CalV gd_tbl "CharOutlinesModel" y_Mo_last b_Mo_last 2 (some .int) 1 := ⟨⟨List.mem_filter.mpr ⟨List.mem_of_getElem? (i := 1058) rfl, rfl⟩, List.mem_filter.mpr ⟨List.mem_of_getElem? (i := 68) rfl, rfl⟩, ⟨by decide, by decide⟩, by decide +kernel⟩, List.mem_filter.mpr ⟨List.mem_of_getElem? (i := 1056) rfl, rfl⟩, List.mem_filter.mpr ⟨List.mem_of_getElem? (i := 1057) rfl, rfl⟩⟩
theorem d_Mo_last_0 : decode b_Mo_last 0 = .ok (.aload_n 0, 1) := by decide +kernel
theorem d_Mo_last_1 : decode b_Mo_last 1 = .ok (.iconst 0, 1) := by decide +kernel
theorem d_Mo_last_2 : decode b_Mo_last 2 = .ok (.putfield 44, 3) := by decide +kernel
theorem d_Mo_last_5 : decode b_Mo_last 5 = .ok (.aload_n 0, 1) := by decide +kernel
theorem d_Mo_last_6 : decode b_Mo_last 6 = .ok (.getfield 85, 3) := by decide +kernel
theorem d_Mo_last_9 : decode b_Mo_last 9 = .ok (.ifCond .ne 5, 3) := by decide +kernel
theorem d_Mo_last_12 : decode b_Mo_last 12 = .ok (.iconst (-1), 1) := by decide +kernel
theorem d_Mo_last_13 : decode b_Mo_last 13 = .ok (.ireturn, 1) := by decide +kernel
theorem d_Mo_last_14 : decode b_Mo_last 14 = .ok (.iload_n 1, 1) := by decide +kernel
theorem d_Mo_last_15 : decode b_Mo_last 15 = .ok (.tableswitch 75 0 5 #[37, 42, 47, 60, 65, 70], 37) := by decide +kernel
theorem d_Mo_last_52 : decode b_Mo_last 52 = .ok (.aload_n 0, 1) := by decide +kernel
theorem d_Mo_last_53 : decode b_Mo_last 53 = .ok (.getfield 92, 3) := by decide +kernel
theorem d_Mo_last_56 : decode b_Mo_last 56 = .ok (.ireturn, 1) := by decide +kernel
theorem d_Mo_last_57 : decode b_Mo_last 57 = .ok (.aload_n 0, 1) := by decide +kernel
theorem d_Mo_last_58 : decode b_Mo_last 58 = .ok (.getfield 95, 3) := by decide +kernel
theorem d_Mo_last_61 : decode b_Mo_last 61 = .ok (.ireturn, 1) := by decide +kernel
theorem d_Mo_last_62 : decode b_Mo_last 62 = .ok (.aload_n 0, 1) := by decide +kernel
theorem d_Mo_last_63 : decode b_Mo_last 63 = .ok (.getfield 98, 3) := by decide +kernel
theorem d_Mo_last_66 : decode b_Mo_last 66 = .ok (.ifCond .eq 7, 3) := by decide +kernel
theorem d_Mo_last_69 : decode b_Mo_last 69 = .ok (.iconst 1, 1) := by decide +kernel
theorem d_Mo_last_70 : decode b_Mo_last 70 = .ok (.goto 4, 3) := by decide +kernel
theorem d_Mo_last_73 : decode b_Mo_last 73 = .ok (.iconst 0, 1) := by decide +kernel
theorem d_Mo_last_74 : decode b_Mo_last 74 = .ok (.ireturn, 1) := by decide +kernel
theorem d_Mo_last_75 : decode b_Mo_last 75 = .ok (.aload_n 0, 1) := by decide +kernel
theorem d_Mo_last_76 : decode b_Mo_last 76 = .ok (.getfield 101, 3) := by decide +kernel
theorem d_Mo_last_79 : decode b_Mo_last 79 = .ok (.ireturn, 1) := by decide +kernel
theorem d_Mo_last_80 : decode b_Mo_last 80 = .ok (.aload_n 0, 1) := by decide +kernel
theorem d_Mo_last_81 : decode b_Mo_last 81 = .ok (.getfield 82, 3) := by decide +kernel
theorem d_Mo_last_84 : decode b_Mo_last 84 = .ok (.ireturn, 1) := by decide +kernel
theorem d_Mo_last_85 : decode b_Mo_last 85 = .ok (.aload_n 0, 1) := by decide +kernel
theorem d_Mo_last_86 : decode b_Mo_last 86 = .ok (.getfield 72, 3) := by decide +kernel
theorem d_Mo_last_89 : decode b_Mo_last 89 = .ok (.ireturn, 1) := by decide +kernel
theorem d_Mo_last_90 : decode b_Mo_last 90 = .ok (.iconst (-1), 1) := by decide +kernel
theorem d_Mo_last_91 : decode b_Mo_last 91 = .ok (.ireturn, 1) := by decide +kernel
abbrev b_Mo_run : ByteArray := prog_12_method_18_code
abbrev y_Mo_run : MethodName := ⟨"CharOutlinesModel", "run", "(I)I"⟩
set_option maxRecDepth 100000 in
theorem cal_Mo_run : CalV gd_tbl "CharOutlinesModel" y_Mo_run b_Mo_run 3 (some .int) 1 := ⟨⟨List.mem_filter.mpr ⟨List.mem_of_getElem? (i := 879) rfl, rfl⟩, List.mem_filter.mpr ⟨List.mem_of_getElem? (i := 68) rfl, rfl⟩, ⟨by decide, by decide⟩, by decide +kernel⟩, List.mem_filter.mpr ⟨List.mem_of_getElem? (i := 877) rfl, rfl⟩, List.mem_filter.mpr ⟨List.mem_of_getElem? (i := 878) rfl, rfl⟩⟩
theorem d_Mo_run_0 : decode b_Mo_run 0 = .ok (.aload_n 0, 1) := by decide +kernel
theorem d_Mo_run_1 : decode b_Mo_run 1 = .ok (.iload_n 1, 1) := by decide +kernel
theorem d_Mo_run_2 : decode b_Mo_run 2 = .ok (.ifCond .lt 13, 3) := by decide +kernel
theorem d_Mo_run_5 : decode b_Mo_run 5 = .ok (.iload_n 1, 1) := by decide +kernel
theorem d_Mo_run_6 : decode b_Mo_run 6 = .ok (.aload_n 0, 1) := by decide +kernel
theorem d_Mo_run_7 : decode b_Mo_run 7 = .ok (.getfield 17, 3) := by decide +kernel
theorem d_Mo_run_10 : decode b_Mo_run 10 = .ok (.iconst 0, 1) := by decide +kernel
theorem d_Mo_run_11 : decode b_Mo_run 11 = .ok (.iaload, 1) := by decide +kernel
theorem d_Mo_run_12 : decode b_Mo_run 12 = .ok (.if_icmp .lt 7, 3) := by decide +kernel
theorem d_Mo_run_15 : decode b_Mo_run 15 = .ok (.iconst 1, 1) := by decide +kernel
theorem d_Mo_run_16 : decode b_Mo_run 16 = .ok (.goto 4, 3) := by decide +kernel
theorem d_Mo_run_19 : decode b_Mo_run 19 = .ok (.iconst 0, 1) := by decide +kernel
theorem d_Mo_run_20 : decode b_Mo_run 20 = .ok (.invokevirtual 51, 3) := by decide +kernel
theorem d_Mo_run_23 : decode b_Mo_run 23 = .ok (.ifCond .eq 5, 3) := by decide +kernel
theorem d_Mo_run_26 : decode b_Mo_run 26 = .ok (.iconst 0, 1) := by decide +kernel
theorem d_Mo_run_27 : decode b_Mo_run 27 = .ok (.ireturn, 1) := by decide +kernel
theorem d_Mo_run_28 : decode b_Mo_run 28 = .ok (.aload_n 0, 1) := by decide +kernel
theorem d_Mo_run_29 : decode b_Mo_run 29 = .ok (.iconst 1, 1) := by decide +kernel
theorem d_Mo_run_30 : decode b_Mo_run 30 = .ok (.putfield 85, 3) := by decide +kernel
theorem d_Mo_run_33 : decode b_Mo_run 33 = .ok (.aload_n 0, 1) := by decide +kernel
theorem d_Mo_run_34 : decode b_Mo_run 34 = .ok (.iconst 0, 1) := by decide +kernel
theorem d_Mo_run_35 : decode b_Mo_run 35 = .ok (.putfield 75, 3) := by decide +kernel
theorem d_Mo_run_38 : decode b_Mo_run 38 = .ok (.aload_n 0, 1) := by decide +kernel
theorem d_Mo_run_39 : decode b_Mo_run 39 = .ok (.iconst 0, 1) := by decide +kernel
theorem d_Mo_run_40 : decode b_Mo_run 40 = .ok (.putfield 89, 3) := by decide +kernel
theorem d_Mo_run_43 : decode b_Mo_run 43 = .ok (.aload_n 0, 1) := by decide +kernel
theorem d_Mo_run_44 : decode b_Mo_run 44 = .ok (.iconst 0, 1) := by decide +kernel
theorem d_Mo_run_45 : decode b_Mo_run 45 = .ok (.putfield 92, 3) := by decide +kernel
theorem d_Mo_run_48 : decode b_Mo_run 48 = .ok (.aload_n 0, 1) := by decide +kernel
theorem d_Mo_run_49 : decode b_Mo_run 49 = .ok (.iconst 0, 1) := by decide +kernel
theorem d_Mo_run_50 : decode b_Mo_run 50 = .ok (.putfield 95, 3) := by decide +kernel
theorem d_Mo_run_53 : decode b_Mo_run 53 = .ok (.aload_n 0, 1) := by decide +kernel
theorem d_Mo_run_54 : decode b_Mo_run 54 = .ok (.iconst 0, 1) := by decide +kernel
theorem d_Mo_run_55 : decode b_Mo_run 55 = .ok (.putfield 98, 3) := by decide +kernel
theorem d_Mo_run_58 : decode b_Mo_run 58 = .ok (.aload_n 0, 1) := by decide +kernel
theorem d_Mo_run_59 : decode b_Mo_run 59 = .ok (.iconst 0, 1) := by decide +kernel
theorem d_Mo_run_60 : decode b_Mo_run 60 = .ok (.putfield 101, 3) := by decide +kernel
theorem d_Mo_run_63 : decode b_Mo_run 63 = .ok (.aload_n 0, 1) := by decide +kernel
theorem d_Mo_run_64 : decode b_Mo_run 64 = .ok (.iconst 1, 1) := by decide +kernel
theorem d_Mo_run_65 : decode b_Mo_run 65 = .ok (.putfield 104, 3) := by decide +kernel
theorem d_Mo_run_68 : decode b_Mo_run 68 = .ok (.aload_n 0, 1) := by decide +kernel
theorem d_Mo_run_69 : decode b_Mo_run 69 = .ok (.iconst 0, 1) := by decide +kernel
theorem d_Mo_run_70 : decode b_Mo_run 70 = .ok (.putfield 107, 3) := by decide +kernel
theorem d_Mo_run_73 : decode b_Mo_run 73 = .ok (.aload_n 0, 1) := by decide +kernel
theorem d_Mo_run_74 : decode b_Mo_run 74 = .ok (.iconst 0, 1) := by decide +kernel
theorem d_Mo_run_75 : decode b_Mo_run 75 = .ok (.putfield 72, 3) := by decide +kernel
theorem d_Mo_run_78 : decode b_Mo_run 78 = .ok (.aload_n 0, 1) := by decide +kernel
theorem d_Mo_run_79 : decode b_Mo_run 79 = .ok (.iconst 0, 1) := by decide +kernel
theorem d_Mo_run_80 : decode b_Mo_run 80 = .ok (.putfield 110, 3) := by decide +kernel
theorem d_Mo_run_83 : decode b_Mo_run 83 = .ok (.aload_n 0, 1) := by decide +kernel
theorem d_Mo_run_84 : decode b_Mo_run 84 = .ok (.iconst 0, 1) := by decide +kernel
theorem d_Mo_run_85 : decode b_Mo_run 85 = .ok (.putfield 113, 3) := by decide +kernel
theorem d_Mo_run_88 : decode b_Mo_run 88 = .ok (.aload_n 0, 1) := by decide +kernel
theorem d_Mo_run_89 : decode b_Mo_run 89 = .ok (.iconst 0, 1) := by decide +kernel
theorem d_Mo_run_90 : decode b_Mo_run 90 = .ok (.putfield 82, 3) := by decide +kernel
theorem d_Mo_run_93 : decode b_Mo_run 93 = .ok (.aload_n 0, 1) := by decide +kernel
theorem d_Mo_run_94 : decode b_Mo_run 94 = .ok (.iconst 0, 1) := by decide +kernel
theorem d_Mo_run_95 : decode b_Mo_run 95 = .ok (.putfield 65, 3) := by decide +kernel
theorem d_Mo_run_98 : decode b_Mo_run 98 = .ok (.aload_n 0, 1) := by decide +kernel
theorem d_Mo_run_99 : decode b_Mo_run 99 = .ok (.iconst 0, 1) := by decide +kernel
theorem d_Mo_run_100 : decode b_Mo_run 100 = .ok (.putfield 116, 3) := by decide +kernel
theorem d_Mo_run_103 : decode b_Mo_run 103 = .ok (.iconst 0, 1) := by decide +kernel
theorem d_Mo_run_104 : decode b_Mo_run 104 = .ok (.istore_n 2, 1) := by decide +kernel
theorem d_Mo_run_105 : decode b_Mo_run 105 = .ok (.iload_n 2, 1) := by decide +kernel
theorem d_Mo_run_106 : decode b_Mo_run 106 = .ok (.bipush 32, 2) := by decide +kernel
theorem d_Mo_run_108 : decode b_Mo_run 108 = .ok (.if_icmp .ge 16, 3) := by decide +kernel
theorem d_Mo_run_111 : decode b_Mo_run 111 = .ok (.aload_n 0, 1) := by decide +kernel
theorem d_Mo_run_112 : decode b_Mo_run 112 = .ok (.getfield 32, 3) := by decide +kernel
theorem d_Mo_run_115 : decode b_Mo_run 115 = .ok (.iload_n 2, 1) := by decide +kernel
theorem d_Mo_run_116 : decode b_Mo_run 116 = .ok (.iconst 0, 1) := by decide +kernel
theorem d_Mo_run_117 : decode b_Mo_run 117 = .ok (.iastore, 1) := by decide +kernel
theorem d_Mo_run_118 : decode b_Mo_run 118 = .ok (.iinc 2 1, 3) := by decide +kernel
theorem d_Mo_run_121 : decode b_Mo_run 121 = .ok (.goto (-16), 3) := by decide +kernel
theorem d_Mo_run_124 : decode b_Mo_run 124 = .ok (.aload_n 0, 1) := by decide +kernel
theorem d_Mo_run_125 : decode b_Mo_run 125 = .ok (.iconst 0, 1) := by decide +kernel
theorem d_Mo_run_126 : decode b_Mo_run 126 = .ok (.iload_n 1, 1) := by decide +kernel
theorem d_Mo_run_127 : decode b_Mo_run 127 = .ok (.invokevirtual 119, 3) := by decide +kernel
theorem d_Mo_run_130 : decode b_Mo_run 130 = .ok (.aload_n 0, 1) := by decide +kernel
theorem d_Mo_run_131 : decode b_Mo_run 131 = .ok (.getfield 75, 3) := by decide +kernel
theorem d_Mo_run_134 : decode b_Mo_run 134 = .ok (.ifCond .ne 17, 3) := by decide +kernel
theorem d_Mo_run_137 : decode b_Mo_run 137 = .ok (.aload_n 0, 1) := by decide +kernel
theorem d_Mo_run_138 : decode b_Mo_run 138 = .ok (.getfield 89, 3) := by decide +kernel
theorem d_Mo_run_141 : decode b_Mo_run 141 = .ok (.ifCond .ne 10, 3) := by decide +kernel
theorem d_Mo_run_144 : decode b_Mo_run 144 = .ok (.aload_n 0, 1) := by decide +kernel
theorem d_Mo_run_145 : decode b_Mo_run 145 = .ok (.invokevirtual 123, 3) := by decide +kernel
theorem d_Mo_run_148 : decode b_Mo_run 148 = .ok (.goto (-18), 3) := by decide +kernel
theorem d_Mo_run_151 : decode b_Mo_run 151 = .ok (.aload_n 0, 1) := by decide +kernel
theorem d_Mo_run_152 : decode b_Mo_run 152 = .ok (.getfield 75, 3) := by decide +kernel
theorem d_Mo_run_155 : decode b_Mo_run 155 = .ok (.ifCond .eq 13, 3) := by decide +kernel
theorem d_Mo_run_158 : decode b_Mo_run 158 = .ok (.aload_n 0, 1) := by decide +kernel
theorem d_Mo_run_159 : decode b_Mo_run 159 = .ok (.iconst 0, 1) := by decide +kernel
theorem d_Mo_run_160 : decode b_Mo_run 160 = .ok (.putfield 126, 3) := by decide +kernel
theorem d_Mo_run_163 : decode b_Mo_run 163 = .ok (.aload_n 0, 1) := by decide +kernel
theorem d_Mo_run_164 : decode b_Mo_run 164 = .ok (.getfield 75, 3) := by decide +kernel
theorem d_Mo_run_167 : decode b_Mo_run 167 = .ok (.ireturn, 1) := by decide +kernel
theorem d_Mo_run_168 : decode b_Mo_run 168 = .ok (.aload_n 0, 1) := by decide +kernel
theorem d_Mo_run_169 : decode b_Mo_run 169 = .ok (.aload_n 0, 1) := by decide +kernel
theorem d_Mo_run_170 : decode b_Mo_run 170 = .ok (.getfield 116, 3) := by decide +kernel
theorem d_Mo_run_173 : decode b_Mo_run 173 = .ok (.putfield 126, 3) := by decide +kernel
theorem d_Mo_run_176 : decode b_Mo_run 176 = .ok (.iconst 0, 1) := by decide +kernel
theorem d_Mo_run_177 : decode b_Mo_run 177 = .ok (.istore_n 2, 1) := by decide +kernel
theorem d_Mo_run_178 : decode b_Mo_run 178 = .ok (.iload_n 2, 1) := by decide +kernel
theorem d_Mo_run_179 : decode b_Mo_run 179 = .ok (.bipush 7, 2) := by decide +kernel
theorem d_Mo_run_181 : decode b_Mo_run 181 = .ok (.aload_n 0, 1) := by decide +kernel
theorem d_Mo_run_182 : decode b_Mo_run 182 = .ok (.getfield 116, 3) := by decide +kernel
theorem d_Mo_run_185 : decode b_Mo_run 185 = .ok (.imul, 1) := by decide +kernel
theorem d_Mo_run_186 : decode b_Mo_run 186 = .ok (.if_icmp .ge 21, 3) := by decide +kernel
theorem d_Mo_run_189 : decode b_Mo_run 189 = .ok (.aload_n 0, 1) := by decide +kernel
theorem d_Mo_run_190 : decode b_Mo_run 190 = .ok (.getfield 26, 3) := by decide +kernel
theorem d_Mo_run_193 : decode b_Mo_run 193 = .ok (.iload_n 2, 1) := by decide +kernel
theorem d_Mo_run_194 : decode b_Mo_run 194 = .ok (.aload_n 0, 1) := by decide +kernel
theorem d_Mo_run_195 : decode b_Mo_run 195 = .ok (.getfield 23, 3) := by decide +kernel
theorem d_Mo_run_198 : decode b_Mo_run 198 = .ok (.iload_n 2, 1) := by decide +kernel
theorem d_Mo_run_199 : decode b_Mo_run 199 = .ok (.iaload, 1) := by decide +kernel
theorem d_Mo_run_200 : decode b_Mo_run 200 = .ok (.iastore, 1) := by decide +kernel
theorem d_Mo_run_201 : decode b_Mo_run 201 = .ok (.iinc 2 1, 3) := by decide +kernel
theorem d_Mo_run_204 : decode b_Mo_run 204 = .ok (.goto (-26), 3) := by decide +kernel
theorem d_Mo_run_207 : decode b_Mo_run 207 = .ok (.aload_n 0, 1) := by decide +kernel
theorem d_Mo_run_208 : decode b_Mo_run 208 = .ok (.getfield 116, 3) := by decide +kernel
theorem d_Mo_run_211 : decode b_Mo_run 211 = .ok (.ireturn, 1) := by decide +kernel
set_option maxRecDepth 100000 in
theorem fl_Mo_126 : (Jvm.Cond.fieldLink "CharOutlinesModel" (126 : Nat) "CharOutlinesModel" "shown" "I") ∈ gd_tbl := List.mem_filter.mpr ⟨List.mem_of_getElem? (i := 759) rfl, rfl⟩
set_option maxRecDepth 100000 in
theorem fl_Mo_44 : (Jvm.Cond.fieldLink "CharOutlinesModel" (44 : Nat) "CharOutlinesModel" "fault" "I") ∈ gd_tbl := List.mem_filter.mpr ⟨List.mem_of_getElem? (i := 751) rfl, rfl⟩
set_option maxRecDepth 100000 in
theorem fl_Mo_48 : (Jvm.Cond.fieldLink "CharOutlinesModel" (48 : Nat) "CharOutlinesModel" "size" "I") ∈ gd_tbl := List.mem_filter.mpr ⟨List.mem_of_getElem? (i := 752) rfl, rfl⟩
set_option maxRecDepth 100000 in
theorem fl_Mo_85 : (Jvm.Cond.fieldLink "CharOutlinesModel" (85 : Nat) "CharOutlinesModel" "wasRun" "Z") ∈ gd_tbl := List.mem_filter.mpr ⟨List.mem_of_getElem? (i := 761) rfl, rfl⟩
set_option maxRecDepth 100000 in
theorem kl_Mo_55 : (Jvm.Cond.constantLong "CharOutlinesModel" (55 : Nat) (256 : Int64)) ∈ gd_tbl := List.mem_filter.mpr ⟨List.mem_of_getElem? (i := 871) rfl, rfl⟩
set_option maxRecDepth 100000 in
theorem ml_Mo_123 : (Jvm.Cond.methodLink "CharOutlinesModel" (123 : Nat) ({ cls := "CharOutlinesModel", name := "step", desc := "()V" } : Jvm.MethodName)) ∈ gd_tbl := List.mem_filter.mpr ⟨List.mem_of_getElem? (i := 888) rfl, rfl⟩
set_option maxRecDepth 100000 in
theorem ml_Mo_51 : (Jvm.Cond.methodLink "CharOutlinesModel" (51 : Nat) ({ cls := "CharOutlinesModel", name := "refused", desc := "(I)Z" } : Jvm.MethodName)) ∈ gd_tbl := List.mem_filter.mpr ⟨List.mem_of_getElem? (i := 851) rfl, rfl⟩
set_option maxRecDepth 100000 in
theorem ml_Mo_57 : (Jvm.Cond.methodLink "CharOutlinesModel" (57 : Nat) ({ cls := "CharOutlinesModel", name := "rowNumber", desc := "(II)J" } : Jvm.MethodName)) ∈ gd_tbl := List.mem_filter.mpr ⟨List.mem_of_getElem? (i := 867) rfl, rfl⟩
set_option maxRecDepth 100000 in
theorem ml_Mo_61 : (Jvm.Cond.methodLink "CharOutlinesModel" (61 : Nat) ({ cls := "CharOutlinesModel", name := "isShelf", desc := "()Z" } : Jvm.MethodName)) ∈ gd_tbl := List.mem_filter.mpr ⟨List.mem_of_getElem? (i := 863) rfl, rfl⟩
set_option maxHeartbeats 1000000 in
set_option maxRecDepth 100000 in
theorem c_Mo_thrown (l : Launch) (D : va_G) (cB cI cJ : ClassId) (mo m_row m_shelves m_many m_widths m_mark m_shownMark m_stack m_places m_kinds m_ats m_ends : Nat) (mk sp t d : Nat) (z_fault z_size z_shown z_wasRun z_wrong z_ended z_hints z_hasWidth z_width z_first z_moved z_deepest z_x z_y : Int32) : Ro l D classes (TY cB cI cJ) gd_tbl nx_tbl y_Mo_thrown b_Mo_thrown 1 (some .int) ({ frames := 0, cells := 0, slots := 0, locals := 0 }) [.ref mo] [(mo, .inr (8, [.int z_fault, .int z_size, .ref m_row, .ref m_shelves, .ref m_many, .ref m_widths, .int (nI mk), .ref m_mark, .int z_shown, .ref m_shownMark, .int z_wasRun, .int z_wrong, .int z_ended, .int (nI sp), .int z_hints, .int z_hasWidth, .int z_width, .int z_first, .int z_moved, .int z_deepest, .int z_x, .int z_y, .int (nI t), .ref m_stack, .ref m_places, .int (nI d), .ref m_kinds, .ref m_ats, .ref m_ends]))] (fun v => v = .int z_fault) := by
  refine Ro.intro (by decide +kernel) nx_ok (Nat.le_of_ble_eq_true rfl) ?_
  intro p_ e_ s_ m_ args_ below_ meth_ c_ A_ ls hx hb hml hown hts hr hlk hnm hZ hP hD hl
  have hl : lv_has ls 1 [(0, .ref mo)] := hl
  refine lv_aload_n hx hb d_Mo_thrown_0 rfl (lv_at hl 0 rfl) ?_
  refine va_get (D := D) (ci := 8) (v := .int z_fault) (C := R_Mo) (T := F_Mo) (N := 29) hx hb hts i_Mo hown hZ.1 hP 0 rfl rfl 0 (by decide) (hts _ fl_Mo_44) (fun _ h9 => h9) rfl d_Mo_thrown_1 ?_
  exact r_iret hx hb hr hlk d_Mo_thrown_4 rfl
set_option maxHeartbeats 1000000 in
set_option maxRecDepth 100000 in
theorem c_Mo_refused (l : Launch) (D : va_G) (cB cI cJ : ClassId) (mo m_row m_shelves m_many m_widths m_mark m_shownMark m_stack m_places m_kinds m_ats m_ends : Nat) (mk sp t d : Nat) (z_fault z_size z_shown z_wasRun z_wrong z_ended z_hints z_hasWidth z_width z_first z_moved z_deepest z_x z_y : Int32) (c : Int32) : Tr l D classes (TY cB cI cJ) gd_tbl nx_tbl y_Mo_refused b_Mo_refused 2 (some .boolean) ({ frames := 0, cells := 0, slots := 0, locals := 0 }) [.ref mo, .int c] [(mo, .inr (8, [.int z_fault, .int z_size, .ref m_row, .ref m_shelves, .ref m_many, .ref m_widths, .int (nI mk), .ref m_mark, .int z_shown, .ref m_shownMark, .int z_wasRun, .int z_wrong, .int z_ended, .int (nI sp), .int z_hints, .int z_hasWidth, .int z_width, .int z_first, .int z_moved, .int z_deepest, .int z_x, .int z_y, .int (nI t), .ref m_stack, .ref m_places, .int (nI d), .ref m_kinds, .ref m_ats, .ref m_ends]))] (pI0 (fun r w => r = (if 0 < c then 1 else 0) ∧ w = [(mo, .inr (8, [.int c, .int z_size, .ref m_row, .ref m_shelves, .ref m_many, .ref m_widths, .int (nI mk), .ref m_mark, .int z_shown, .ref m_shownMark, .int z_wasRun, .int z_wrong, .int z_ended, .int (nI sp), .int z_hints, .int z_hasWidth, .int z_width, .int z_first, .int z_moved, .int z_deepest, .int z_x, .int z_y, .int (nI t), .ref m_stack, .ref m_places, .int (nI d), .ref m_kinds, .ref m_ats, .ref m_ends]))])) := by
  refine Tr.intro (by decide +kernel) nx_ok (Nat.le_of_ble_eq_true rfl) ?_
  intro p_ e_ s_ m_ args_ below_ meth_ c_ A_ ls hx hb hml hown hts hr hlk hnm hZ hP hD hS hl
  have hl : lv_has ls 2 [(0, .ref mo), (1, .int c)] := hl
  refine lv_aload_n hx hb d_Mo_refused_0 rfl (lv_at hl 0 rfl) ?_
  refine lv_iload_n hx hb d_Mo_refused_1 rfl (lv_at hl 1 rfl) ?_
  refine va_put (D := D) (ci := 8) (v := .int c) (ty := .int) (C := R_Mo) (T := F_Mo) (N := 29) hx hb hts i_Mo t_Mo t_Mo_ok n_Mo hown hZ.1 hP hD hS 0 rfl rfl 0 (by decide) (hts _ fl_Mo_44) (fun _ h9 => h9) rfl (by decide +kernel) rfl rfl (Nat.le_of_ble_eq_true rfl) d_Mo_refused_2 (fun H locs hP hD hS => ?_)
  have hP : va_P D classes [(mo, .inr (8, [.int c, .int z_size, .ref m_row, .ref m_shelves, .ref m_many, .ref m_widths, .int (nI mk), .ref m_mark, .int z_shown, .ref m_shownMark, .int z_wasRun, .int z_wrong, .int z_ended, .int (nI sp), .int z_hints, .int z_hasWidth, .int z_width, .int z_first, .int z_moved, .int z_deepest, .int z_x, .int z_y, .int (nI t), .ref m_stack, .ref m_places, .int (nI d), .ref m_kinds, .ref m_ats, .ref m_ends]))] H := hP
  have hD : va_D A_ [(mo, .inr (8, [.int c, .int z_size, .ref m_row, .ref m_shelves, .ref m_many, .ref m_widths, .int (nI mk), .ref m_mark, .int z_shown, .ref m_shownMark, .int z_wasRun, .int z_wrong, .int z_ended, .int (nI sp), .int z_hints, .int z_hasWidth, .int z_width, .int z_first, .int z_moved, .int z_deepest, .int z_x, .int z_y, .int (nI t), .ref m_stack, .ref m_places, .int (nI d), .ref m_kinds, .ref m_ats, .ref m_ends]))] := hD
  refine lv_iload_n hx hb d_Mo_refused_5 rfl (lv_at hl 1 rfl) ?_
  refine lv_if_le (tgt := 13) hx hb d_Mo_refused_6 (by decide) (fun c_6 => ?_) (fun c_6 => ?_)
  · refine lv_iconst (v := 0) hx hb d_Mo_refused_13 (by decide) ?_
    exact t_zret hx hb hr hlk (by decide) d_Mo_refused_14 hP hD hS ⟨_, rfl, rfl, rfl, by simp [c_6, Int32.not_lt, Int32.not_le], rfl⟩
  · refine lv_iconst (v := 1) hx hb d_Mo_refused_9 (by decide) ?_
    refine lv_goto (tgt := 14) hx hb d_Mo_refused_10 (by decide) ?_
    exact t_zret hx hb hr hlk (by decide) d_Mo_refused_14 hP hD hS ⟨_, rfl, rfl, rfl, by simp [c_6, Int32.not_lt, Int32.not_le], rfl⟩
set_option maxHeartbeats 1000000 in
set_option maxRecDepth 100000 in
theorem c_Mo_feed (l : Launch) (D : va_G) (cB cI cJ : ClassId) (mo m_row m_shelves m_many m_widths m_mark m_shownMark m_stack m_places m_kinds m_ats m_ends : Nat) (mk sp t d : Nat) (z_fault z_size z_shown z_wasRun z_wrong z_ended z_hints z_hasWidth z_width z_first z_moved z_deepest z_x z_y : Int32) (g_row : Nat → Int32) (n : Nat) (x1 x2 x3 x4 x5 : Int32) (hn : n ≤ 16384) : Tr l D classes (TY cB cI cJ) gd_tbl nx_tbl y_Mo_feed b_Mo_feed 8 (some .int) ({ frames := 0, cells := 0, slots := 0, locals := 0 }) [.ref mo, .int x1, .int x2, .int x3, .int x4, .int x5] [(mo, .inr (8, [.int z_fault, .int (nI n), .ref m_row, .ref m_shelves, .ref m_many, .ref m_widths, .int (nI mk), .ref m_mark, .int z_shown, .ref m_shownMark, .int z_wasRun, .int z_wrong, .int z_ended, .int (nI sp), .int z_hints, .int z_hasWidth, .int z_width, .int z_first, .int z_moved, .int z_deepest, .int z_x, .int z_y, .int (nI t), .ref m_stack, .ref m_places, .int (nI d), .ref m_kinds, .ref m_ats, .ref m_ends])), (m_row, .inl (cI, 16384, .inl g_row))] (pI0 (fun r w => (16364 < n ∧ r = -1 ∧ w = [(mo, .inr (8, [.int 0, .int (nI n), .ref m_row, .ref m_shelves, .ref m_many, .ref m_widths, .int (nI mk), .ref m_mark, .int z_shown, .ref m_shownMark, .int z_wasRun, .int z_wrong, .int z_ended, .int (nI sp), .int z_hints, .int z_hasWidth, .int z_width, .int z_first, .int z_moved, .int z_deepest, .int z_x, .int z_y, .int (nI t), .ref m_stack, .ref m_places, .int (nI d), .ref m_kinds, .ref m_ats, .ref m_ends])), (m_row, .inl (cI, 16384, .inl g_row))]) ∨ (n ≤ 16364 ∧ r = nI (n + 20) ∧ ∃ g' : Nat → Int32, w = [(mo, .inr (8, [.int 0, .int (nI (n + 20)), .ref m_row, .ref m_shelves, .ref m_many, .ref m_widths, .int (nI mk), .ref m_mark, .int z_shown, .ref m_shownMark, .int z_wasRun, .int z_wrong, .int z_ended, .int (nI sp), .int z_hints, .int z_hasWidth, .int z_width, .int z_first, .int z_moved, .int z_deepest, .int z_x, .int z_y, .int (nI t), .ref m_stack, .ref m_places, .int (nI d), .ref m_kinds, .ref m_ats, .ref m_ends])), (m_row, .inl (cI, 16384, .inl g'))] ∧ (∀ i, i < n → g' i = g_row i) ∧ ∀ i, i < 20 → g' (n + i) = fed x1 x2 x3 x4 x5 i))) := by
  refine Tr.intro (by decide +kernel) nx_ok (Nat.le_of_ble_eq_true rfl) ?_
  intro p_ e_ s_ m_ args_ below_ meth_ c_ A_ ls hx hb hml hown hts hr hlk hnm hZ hP hD hS hl
  have hl : lv_has ls 8 [(0, .ref mo), (1, .int x1), (2, .int x2), (3, .int x3), (4, .int x4), (5, .int x5)] := hl
  refine lv_aload_n hx hb d_Mo_feed_0 rfl (lv_at hl 0 rfl) ?_
  refine lv_iconst (v := 0) hx hb d_Mo_feed_1 (by decide) ?_
  refine va_put (D := D) (ci := 8) (v := .int 0) (ty := .int) (C := R_Mo) (T := F_Mo) (N := 29) hx hb hts i_Mo t_Mo t_Mo_ok n_Mo hown hZ.1 hP hD hS 0 rfl rfl 0 (by decide) (hts _ fl_Mo_44) (fun _ h9 => h9) rfl (by decide +kernel) rfl rfl (Nat.le_of_ble_eq_true rfl) d_Mo_feed_2 (fun H locs hP hD hS => ?_)
  have hP : va_P D classes [(mo, .inr (8, [.int 0, .int (nI n), .ref m_row, .ref m_shelves, .ref m_many, .ref m_widths, .int (nI mk), .ref m_mark, .int z_shown, .ref m_shownMark, .int z_wasRun, .int z_wrong, .int z_ended, .int (nI sp), .int z_hints, .int z_hasWidth, .int z_width, .int z_first, .int z_moved, .int z_deepest, .int z_x, .int z_y, .int (nI t), .ref m_stack, .ref m_places, .int (nI d), .ref m_kinds, .ref m_ats, .ref m_ends])), (m_row, .inl (cI, 16384, .inl g_row))] H := hP
  have hD : va_D A_ [(mo, .inr (8, [.int 0, .int (nI n), .ref m_row, .ref m_shelves, .ref m_many, .ref m_widths, .int (nI mk), .ref m_mark, .int z_shown, .ref m_shownMark, .int z_wasRun, .int z_wrong, .int z_ended, .int (nI sp), .int z_hints, .int z_hasWidth, .int z_width, .int z_first, .int z_moved, .int z_deepest, .int z_x, .int z_y, .int (nI t), .ref m_stack, .ref m_places, .int (nI d), .ref m_kinds, .ref m_ats, .ref m_ends])), (m_row, .inl (cI, 16384, .inl g_row))] := hD
  refine lv_aload_n hx hb d_Mo_feed_5 rfl (lv_at hl 0 rfl) ?_
  refine va_get (D := D) (ci := 8) (v := .int (nI n)) (C := R_Mo) (T := F_Mo) (N := 29) hx hb hts i_Mo hown hZ.1 hP 0 rfl rfl 1 (by decide) (hts _ fl_Mo_48) (fun _ h9 => h9) rfl d_Mo_feed_6 ?_
  refine lv_bipush (v := 20) hx hb d_Mo_feed_9 (by decide) ?_
  refine lv_iadd hx hb d_Mo_feed_11 ?_
  refine lv_tv (y := nI (n + 20)) (nI_add n 20) ?_
  refine lv_sipush (v := 16384) hx hb d_Mo_feed_12 (by decide) ?_
  refine lv_icmp_le (tgt := 20) hx hb d_Mo_feed_15 (by decide) (fun c_15 => ?_) (fun c_15 => ?_)
  · have n_15 : (n + 20) ≤ (16384) := (nI_leI (a := n + 20) (b := 16384) (by omega) (by omega)).mp c_15
    refine lv_iconst (v := 0) hx hb d_Mo_feed_20 (by decide) ?_
    refine lv_istore (lv' := [(6, .int 0), (0, .ref mo), (1, .int x1), (2, .int x2), (3, .int x3), (4, .int x4), (5, .int x5)]) hx hb d_Mo_feed_21 hl (by decide) rfl (fun ls hl => ?_)
    refine lv_iload hx hb d_Mo_feed_23 (lv_at hl 0 rfl) ?_
    refine lv_bipush (v := 20) hx hb d_Mo_feed_25 (by decide) ?_
    refine lv_icmp_ge (tgt := 120) hx hb d_Mo_feed_27 (by decide) (fun c_27 => absurd c_27 (by decide)) (fun c_27 => ?_)
    clear c_27
    refine lv_iload hx hb d_Mo_feed_30 (lv_at hl 0 rfl) ?_
    refine lv_iconst (v := 4) hx hb d_Mo_feed_32 (by decide) ?_
    refine lv_icmp_ge (tgt := 40) hx hb d_Mo_feed_33 (by decide) (fun c_33 => absurd c_33 (by decide)) (fun c_33 => ?_)
    clear c_33
    refine lv_iload_n hx hb d_Mo_feed_36 rfl (lv_at hl 2 rfl) ?_
    refine lv_goto (tgt := 76) hx hb d_Mo_feed_37 (by decide) ?_
    refine lv_istore (lv' := [(7, .int x1), (6, .int 0), (0, .ref mo), (1, .int x1), (2, .int x2), (3, .int x3), (4, .int x4), (5, .int x5)]) hx hb d_Mo_feed_76 hl (by decide) rfl (fun ls hl => ?_)
    refine lv_aload_n hx hb d_Mo_feed_78 rfl (lv_at hl 2 rfl) ?_
    refine va_get (D := D) (ci := 8) (v := .ref m_row) (C := R_Mo) (T := F_Mo) (N := 29) hx hb hts i_Mo hown hZ.1 hP 0 rfl rfl 2 (by decide) (hts _ fl_Mo_7) (fun _ h9 => h9) rfl d_Mo_feed_79 ?_
    refine lv_aload_n hx hb d_Mo_feed_82 rfl (lv_at hl 2 rfl) ?_
    refine va_get (D := D) (ci := 8) (v := .int (nI n)) (C := R_Mo) (T := F_Mo) (N := 29) hx hb hts i_Mo hown hZ.1 hP 0 rfl rfl 1 (by decide) (hts _ fl_Mo_48) (fun _ h9 => h9) rfl d_Mo_feed_83 ?_
    refine lv_iload hx hb d_Mo_feed_86 (lv_at hl 0 rfl) ?_
    refine lv_bipush (v := 24) hx hb d_Mo_feed_88 (by decide) ?_
    refine lv_bipush (v := 8) hx hb d_Mo_feed_90 (by decide) ?_
    refine lv_iload hx hb d_Mo_feed_92 (lv_at hl 1 rfl) ?_
    refine lv_iconst (v := 4) hx hb d_Mo_feed_94 (by decide) ?_
    refine lv_irem hx hb d_Mo_feed_95 (by decide) ?_
    refine lv_tv (y := 0) (by decide) ?_
    refine lv_imul hx hb d_Mo_feed_96 ?_
    refine lv_tv (y := 0) (by decide) ?_
    refine lv_isub hx hb d_Mo_feed_97 ?_
    refine lv_tv (y := 24) (by decide) ?_
    refine lv_ishr hx hb d_Mo_feed_98 ?_
    refine lv_sipush (v := 255) hx hb d_Mo_feed_99 (by decide) ?_
    refine lv_iand hx hb d_Mo_feed_102 ?_
    refine va_iast hx hb hZ.1 hP hD hS 1 1 rfl rfl (vp_in_nI (by omega) (by omega)) d_Mo_feed_103 (fun H locs hP hD hS => ?_)
    rw [show ((nI n).toNatClampNeg) = n from nI_clamp (by omega)] at hP hD
    have hP : va_P D classes [(mo, .inr (8, [.int 0, .int (nI n), .ref m_row, .ref m_shelves, .ref m_many, .ref m_widths, .int (nI mk), .ref m_mark, .int z_shown, .ref m_shownMark, .int z_wasRun, .int z_wrong, .int z_ended, .int (nI sp), .int z_hints, .int z_hasWidth, .int z_width, .int z_first, .int z_moved, .int z_deepest, .int z_x, .int z_y, .int (nI t), .ref m_stack, .ref m_places, .int (nI d), .ref m_kinds, .ref m_ats, .ref m_ends])), (m_row, .inl (cI, 16384, .inl (upd g_row n ((x1 >>> (24 &&& 31)) &&& 255))))] H := hP
    have hD : va_D A_ [(mo, .inr (8, [.int 0, .int (nI n), .ref m_row, .ref m_shelves, .ref m_many, .ref m_widths, .int (nI mk), .ref m_mark, .int z_shown, .ref m_shownMark, .int z_wasRun, .int z_wrong, .int z_ended, .int (nI sp), .int z_hints, .int z_hasWidth, .int z_width, .int z_first, .int z_moved, .int z_deepest, .int z_x, .int z_y, .int (nI t), .ref m_stack, .ref m_places, .int (nI d), .ref m_kinds, .ref m_ats, .ref m_ends])), (m_row, .inl (cI, 16384, .inl (upd g_row n ((x1 >>> (24 &&& 31)) &&& 255))))] := hD
    refine lv_aload_n hx hb d_Mo_feed_104 rfl (lv_at hl 2 rfl) ?_
    refine lv_dup hx hb d_Mo_feed_105 rfl ?_
    refine va_get (D := D) (ci := 8) (v := .int (nI n)) (C := R_Mo) (T := F_Mo) (N := 29) hx hb hts i_Mo hown hZ.1 hP 0 rfl rfl 1 (by decide) (hts _ fl_Mo_48) (fun _ h9 => h9) rfl d_Mo_feed_106 ?_
    refine lv_iconst (v := 1) hx hb d_Mo_feed_109 (by decide) ?_
    refine lv_iadd hx hb d_Mo_feed_110 ?_
    refine lv_tv (y := nI (n + 1)) (nI_add n 1) ?_
    refine va_put (D := D) (ci := 8) (v := .int (nI (n + 1))) (ty := .int) (C := R_Mo) (T := F_Mo) (N := 29) hx hb hts i_Mo t_Mo t_Mo_ok n_Mo hown hZ.1 hP hD hS 0 rfl rfl 1 (by decide) (hts _ fl_Mo_48) (fun _ h9 => h9) rfl (by decide +kernel) rfl rfl (Nat.le_of_ble_eq_true rfl) d_Mo_feed_111 (fun H locs hP hD hS => ?_)
    have hP : va_P D classes [(mo, .inr (8, [.int 0, .int (nI (n + 1)), .ref m_row, .ref m_shelves, .ref m_many, .ref m_widths, .int (nI mk), .ref m_mark, .int z_shown, .ref m_shownMark, .int z_wasRun, .int z_wrong, .int z_ended, .int (nI sp), .int z_hints, .int z_hasWidth, .int z_width, .int z_first, .int z_moved, .int z_deepest, .int z_x, .int z_y, .int (nI t), .ref m_stack, .ref m_places, .int (nI d), .ref m_kinds, .ref m_ats, .ref m_ends])), (m_row, .inl (cI, 16384, .inl (upd g_row n ((x1 >>> (24 &&& 31)) &&& 255))))] H := hP
    have hD : va_D A_ [(mo, .inr (8, [.int 0, .int (nI (n + 1)), .ref m_row, .ref m_shelves, .ref m_many, .ref m_widths, .int (nI mk), .ref m_mark, .int z_shown, .ref m_shownMark, .int z_wasRun, .int z_wrong, .int z_ended, .int (nI sp), .int z_hints, .int z_hasWidth, .int z_width, .int z_first, .int z_moved, .int z_deepest, .int z_x, .int z_y, .int (nI t), .ref m_stack, .ref m_places, .int (nI d), .ref m_kinds, .ref m_ats, .ref m_ends])), (m_row, .inl (cI, 16384, .inl (upd g_row n ((x1 >>> (24 &&& 31)) &&& 255))))] := hD
    refine lv_iinc (v := 1) (lv' := [(6, .int 1), (7, .int x1), (0, .ref mo), (1, .int x1), (2, .int x2), (3, .int x3), (4, .int x4), (5, .int x5)]) hx hb d_Mo_feed_114 hl (k := 1) rfl (by decide) (by decide) rfl (fun ls hl => ?_)
    refine lv_goto (tgt := 23) hx hb d_Mo_feed_117 (by decide) ?_
    refine lv_iload hx hb d_Mo_feed_23 (lv_at hl 0 rfl) ?_
    refine lv_bipush (v := 20) hx hb d_Mo_feed_25 (by decide) ?_
    refine lv_icmp_ge (tgt := 120) hx hb d_Mo_feed_27 (by decide) (fun c_27 => absurd c_27 (by decide)) (fun c_27 => ?_)
    clear c_27
    refine lv_iload hx hb d_Mo_feed_30 (lv_at hl 0 rfl) ?_
    refine lv_iconst (v := 4) hx hb d_Mo_feed_32 (by decide) ?_
    refine lv_icmp_ge (tgt := 40) hx hb d_Mo_feed_33 (by decide) (fun c_33 => absurd c_33 (by decide)) (fun c_33 => ?_)
    clear c_33
    refine lv_iload_n hx hb d_Mo_feed_36 rfl (lv_at hl 3 rfl) ?_
    refine lv_goto (tgt := 76) hx hb d_Mo_feed_37 (by decide) ?_
    refine lv_istore (lv' := [(7, .int x1), (6, .int 1), (0, .ref mo), (1, .int x1), (2, .int x2), (3, .int x3), (4, .int x4), (5, .int x5)]) hx hb d_Mo_feed_76 hl (by decide) rfl (fun ls hl => ?_)
    refine lv_aload_n hx hb d_Mo_feed_78 rfl (lv_at hl 2 rfl) ?_
    refine va_get (D := D) (ci := 8) (v := .ref m_row) (C := R_Mo) (T := F_Mo) (N := 29) hx hb hts i_Mo hown hZ.1 hP 0 rfl rfl 2 (by decide) (hts _ fl_Mo_7) (fun _ h9 => h9) rfl d_Mo_feed_79 ?_
    refine lv_aload_n hx hb d_Mo_feed_82 rfl (lv_at hl 2 rfl) ?_
    refine va_get (D := D) (ci := 8) (v := .int (nI (n + 1))) (C := R_Mo) (T := F_Mo) (N := 29) hx hb hts i_Mo hown hZ.1 hP 0 rfl rfl 1 (by decide) (hts _ fl_Mo_48) (fun _ h9 => h9) rfl d_Mo_feed_83 ?_
    refine lv_iload hx hb d_Mo_feed_86 (lv_at hl 0 rfl) ?_
    refine lv_bipush (v := 24) hx hb d_Mo_feed_88 (by decide) ?_
    refine lv_bipush (v := 8) hx hb d_Mo_feed_90 (by decide) ?_
    refine lv_iload hx hb d_Mo_feed_92 (lv_at hl 1 rfl) ?_
    refine lv_iconst (v := 4) hx hb d_Mo_feed_94 (by decide) ?_
    refine lv_irem hx hb d_Mo_feed_95 (by decide) ?_
    refine lv_tv (y := 1) (by decide) ?_
    refine lv_imul hx hb d_Mo_feed_96 ?_
    refine lv_tv (y := 8) (by decide) ?_
    refine lv_isub hx hb d_Mo_feed_97 ?_
    refine lv_tv (y := 16) (by decide) ?_
    refine lv_ishr hx hb d_Mo_feed_98 ?_
    refine lv_sipush (v := 255) hx hb d_Mo_feed_99 (by decide) ?_
    refine lv_iand hx hb d_Mo_feed_102 ?_
    refine va_iast hx hb hZ.1 hP hD hS 1 1 rfl rfl (vp_in_nI (by omega) (by omega)) d_Mo_feed_103 (fun H locs hP hD hS => ?_)
    rw [show ((nI (n + 1)).toNatClampNeg) = n + 1 from nI_clamp (by omega)] at hP hD
    have hP : va_P D classes [(mo, .inr (8, [.int 0, .int (nI (n + 1)), .ref m_row, .ref m_shelves, .ref m_many, .ref m_widths, .int (nI mk), .ref m_mark, .int z_shown, .ref m_shownMark, .int z_wasRun, .int z_wrong, .int z_ended, .int (nI sp), .int z_hints, .int z_hasWidth, .int z_width, .int z_first, .int z_moved, .int z_deepest, .int z_x, .int z_y, .int (nI t), .ref m_stack, .ref m_places, .int (nI d), .ref m_kinds, .ref m_ats, .ref m_ends])), (m_row, .inl (cI, 16384, .inl (upd (upd g_row n ((x1 >>> (24 &&& 31)) &&& 255)) (n + 1) ((x1 >>> (16 &&& 31)) &&& 255))))] H := hP
    have hD : va_D A_ [(mo, .inr (8, [.int 0, .int (nI (n + 1)), .ref m_row, .ref m_shelves, .ref m_many, .ref m_widths, .int (nI mk), .ref m_mark, .int z_shown, .ref m_shownMark, .int z_wasRun, .int z_wrong, .int z_ended, .int (nI sp), .int z_hints, .int z_hasWidth, .int z_width, .int z_first, .int z_moved, .int z_deepest, .int z_x, .int z_y, .int (nI t), .ref m_stack, .ref m_places, .int (nI d), .ref m_kinds, .ref m_ats, .ref m_ends])), (m_row, .inl (cI, 16384, .inl (upd (upd g_row n ((x1 >>> (24 &&& 31)) &&& 255)) (n + 1) ((x1 >>> (16 &&& 31)) &&& 255))))] := hD
    refine lv_aload_n hx hb d_Mo_feed_104 rfl (lv_at hl 2 rfl) ?_
    refine lv_dup hx hb d_Mo_feed_105 rfl ?_
    refine va_get (D := D) (ci := 8) (v := .int (nI (n + 1))) (C := R_Mo) (T := F_Mo) (N := 29) hx hb hts i_Mo hown hZ.1 hP 0 rfl rfl 1 (by decide) (hts _ fl_Mo_48) (fun _ h9 => h9) rfl d_Mo_feed_106 ?_
    refine lv_iconst (v := 1) hx hb d_Mo_feed_109 (by decide) ?_
    refine lv_iadd hx hb d_Mo_feed_110 ?_
    refine lv_tv (y := nI (n + 1 + 1)) (nI_add (n + 1) 1) ?_
    refine va_put (D := D) (ci := 8) (v := .int (nI (n + 1 + 1))) (ty := .int) (C := R_Mo) (T := F_Mo) (N := 29) hx hb hts i_Mo t_Mo t_Mo_ok n_Mo hown hZ.1 hP hD hS 0 rfl rfl 1 (by decide) (hts _ fl_Mo_48) (fun _ h9 => h9) rfl (by decide +kernel) rfl rfl (Nat.le_of_ble_eq_true rfl) d_Mo_feed_111 (fun H locs hP hD hS => ?_)
    have hP : va_P D classes [(mo, .inr (8, [.int 0, .int (nI (n + 1 + 1)), .ref m_row, .ref m_shelves, .ref m_many, .ref m_widths, .int (nI mk), .ref m_mark, .int z_shown, .ref m_shownMark, .int z_wasRun, .int z_wrong, .int z_ended, .int (nI sp), .int z_hints, .int z_hasWidth, .int z_width, .int z_first, .int z_moved, .int z_deepest, .int z_x, .int z_y, .int (nI t), .ref m_stack, .ref m_places, .int (nI d), .ref m_kinds, .ref m_ats, .ref m_ends])), (m_row, .inl (cI, 16384, .inl (upd (upd g_row n ((x1 >>> (24 &&& 31)) &&& 255)) (n + 1) ((x1 >>> (16 &&& 31)) &&& 255))))] H := hP
    have hD : va_D A_ [(mo, .inr (8, [.int 0, .int (nI (n + 1 + 1)), .ref m_row, .ref m_shelves, .ref m_many, .ref m_widths, .int (nI mk), .ref m_mark, .int z_shown, .ref m_shownMark, .int z_wasRun, .int z_wrong, .int z_ended, .int (nI sp), .int z_hints, .int z_hasWidth, .int z_width, .int z_first, .int z_moved, .int z_deepest, .int z_x, .int z_y, .int (nI t), .ref m_stack, .ref m_places, .int (nI d), .ref m_kinds, .ref m_ats, .ref m_ends])), (m_row, .inl (cI, 16384, .inl (upd (upd g_row n ((x1 >>> (24 &&& 31)) &&& 255)) (n + 1) ((x1 >>> (16 &&& 31)) &&& 255))))] := hD
    refine lv_iinc (v := 2) (lv' := [(6, .int 2), (7, .int x1), (0, .ref mo), (1, .int x1), (2, .int x2), (3, .int x3), (4, .int x4), (5, .int x5)]) hx hb d_Mo_feed_114 hl (k := 1) rfl (by decide) (by decide) rfl (fun ls hl => ?_)
    refine lv_goto (tgt := 23) hx hb d_Mo_feed_117 (by decide) ?_
    refine lv_iload hx hb d_Mo_feed_23 (lv_at hl 0 rfl) ?_
    refine lv_bipush (v := 20) hx hb d_Mo_feed_25 (by decide) ?_
    refine lv_icmp_ge (tgt := 120) hx hb d_Mo_feed_27 (by decide) (fun c_27 => absurd c_27 (by decide)) (fun c_27 => ?_)
    clear c_27
    refine lv_iload hx hb d_Mo_feed_30 (lv_at hl 0 rfl) ?_
    refine lv_iconst (v := 4) hx hb d_Mo_feed_32 (by decide) ?_
    refine lv_icmp_ge (tgt := 40) hx hb d_Mo_feed_33 (by decide) (fun c_33 => absurd c_33 (by decide)) (fun c_33 => ?_)
    clear c_33
    refine lv_iload_n hx hb d_Mo_feed_36 rfl (lv_at hl 3 rfl) ?_
    refine lv_goto (tgt := 76) hx hb d_Mo_feed_37 (by decide) ?_
    refine lv_istore (lv' := [(7, .int x1), (6, .int 2), (0, .ref mo), (1, .int x1), (2, .int x2), (3, .int x3), (4, .int x4), (5, .int x5)]) hx hb d_Mo_feed_76 hl (by decide) rfl (fun ls hl => ?_)
    refine lv_aload_n hx hb d_Mo_feed_78 rfl (lv_at hl 2 rfl) ?_
    refine va_get (D := D) (ci := 8) (v := .ref m_row) (C := R_Mo) (T := F_Mo) (N := 29) hx hb hts i_Mo hown hZ.1 hP 0 rfl rfl 2 (by decide) (hts _ fl_Mo_7) (fun _ h9 => h9) rfl d_Mo_feed_79 ?_
    refine lv_aload_n hx hb d_Mo_feed_82 rfl (lv_at hl 2 rfl) ?_
    refine va_get (D := D) (ci := 8) (v := .int (nI (n + 1 + 1))) (C := R_Mo) (T := F_Mo) (N := 29) hx hb hts i_Mo hown hZ.1 hP 0 rfl rfl 1 (by decide) (hts _ fl_Mo_48) (fun _ h9 => h9) rfl d_Mo_feed_83 ?_
    refine lv_iload hx hb d_Mo_feed_86 (lv_at hl 0 rfl) ?_
    refine lv_bipush (v := 24) hx hb d_Mo_feed_88 (by decide) ?_
    refine lv_bipush (v := 8) hx hb d_Mo_feed_90 (by decide) ?_
    refine lv_iload hx hb d_Mo_feed_92 (lv_at hl 1 rfl) ?_
    refine lv_iconst (v := 4) hx hb d_Mo_feed_94 (by decide) ?_
    refine lv_irem hx hb d_Mo_feed_95 (by decide) ?_
    refine lv_tv (y := 2) (by decide) ?_
    refine lv_imul hx hb d_Mo_feed_96 ?_
    refine lv_tv (y := 16) (by decide) ?_
    refine lv_isub hx hb d_Mo_feed_97 ?_
    refine lv_tv (y := 8) (by decide) ?_
    refine lv_ishr hx hb d_Mo_feed_98 ?_
    refine lv_sipush (v := 255) hx hb d_Mo_feed_99 (by decide) ?_
    refine lv_iand hx hb d_Mo_feed_102 ?_
    refine va_iast hx hb hZ.1 hP hD hS 1 1 rfl rfl (vp_in_nI (by omega) (by omega)) d_Mo_feed_103 (fun H locs hP hD hS => ?_)
    rw [show ((nI (n + 1 + 1)).toNatClampNeg) = n + 1 + 1 from nI_clamp (by omega)] at hP hD
    have hP : va_P D classes [(mo, .inr (8, [.int 0, .int (nI (n + 1 + 1)), .ref m_row, .ref m_shelves, .ref m_many, .ref m_widths, .int (nI mk), .ref m_mark, .int z_shown, .ref m_shownMark, .int z_wasRun, .int z_wrong, .int z_ended, .int (nI sp), .int z_hints, .int z_hasWidth, .int z_width, .int z_first, .int z_moved, .int z_deepest, .int z_x, .int z_y, .int (nI t), .ref m_stack, .ref m_places, .int (nI d), .ref m_kinds, .ref m_ats, .ref m_ends])), (m_row, .inl (cI, 16384, .inl (upd (upd (upd g_row n ((x1 >>> (24 &&& 31)) &&& 255)) (n + 1) ((x1 >>> (16 &&& 31)) &&& 255)) (n + 1 + 1) ((x1 >>> (8 &&& 31)) &&& 255))))] H := hP
    have hD : va_D A_ [(mo, .inr (8, [.int 0, .int (nI (n + 1 + 1)), .ref m_row, .ref m_shelves, .ref m_many, .ref m_widths, .int (nI mk), .ref m_mark, .int z_shown, .ref m_shownMark, .int z_wasRun, .int z_wrong, .int z_ended, .int (nI sp), .int z_hints, .int z_hasWidth, .int z_width, .int z_first, .int z_moved, .int z_deepest, .int z_x, .int z_y, .int (nI t), .ref m_stack, .ref m_places, .int (nI d), .ref m_kinds, .ref m_ats, .ref m_ends])), (m_row, .inl (cI, 16384, .inl (upd (upd (upd g_row n ((x1 >>> (24 &&& 31)) &&& 255)) (n + 1) ((x1 >>> (16 &&& 31)) &&& 255)) (n + 1 + 1) ((x1 >>> (8 &&& 31)) &&& 255))))] := hD
    refine lv_aload_n hx hb d_Mo_feed_104 rfl (lv_at hl 2 rfl) ?_
    refine lv_dup hx hb d_Mo_feed_105 rfl ?_
    refine va_get (D := D) (ci := 8) (v := .int (nI (n + 1 + 1))) (C := R_Mo) (T := F_Mo) (N := 29) hx hb hts i_Mo hown hZ.1 hP 0 rfl rfl 1 (by decide) (hts _ fl_Mo_48) (fun _ h9 => h9) rfl d_Mo_feed_106 ?_
    refine lv_iconst (v := 1) hx hb d_Mo_feed_109 (by decide) ?_
    refine lv_iadd hx hb d_Mo_feed_110 ?_
    refine lv_tv (y := nI (n + 1 + 1 + 1)) (nI_add (n + 1 + 1) 1) ?_
    refine va_put (D := D) (ci := 8) (v := .int (nI (n + 1 + 1 + 1))) (ty := .int) (C := R_Mo) (T := F_Mo) (N := 29) hx hb hts i_Mo t_Mo t_Mo_ok n_Mo hown hZ.1 hP hD hS 0 rfl rfl 1 (by decide) (hts _ fl_Mo_48) (fun _ h9 => h9) rfl (by decide +kernel) rfl rfl (Nat.le_of_ble_eq_true rfl) d_Mo_feed_111 (fun H locs hP hD hS => ?_)
    have hP : va_P D classes [(mo, .inr (8, [.int 0, .int (nI (n + 1 + 1 + 1)), .ref m_row, .ref m_shelves, .ref m_many, .ref m_widths, .int (nI mk), .ref m_mark, .int z_shown, .ref m_shownMark, .int z_wasRun, .int z_wrong, .int z_ended, .int (nI sp), .int z_hints, .int z_hasWidth, .int z_width, .int z_first, .int z_moved, .int z_deepest, .int z_x, .int z_y, .int (nI t), .ref m_stack, .ref m_places, .int (nI d), .ref m_kinds, .ref m_ats, .ref m_ends])), (m_row, .inl (cI, 16384, .inl (upd (upd (upd g_row n ((x1 >>> (24 &&& 31)) &&& 255)) (n + 1) ((x1 >>> (16 &&& 31)) &&& 255)) (n + 1 + 1) ((x1 >>> (8 &&& 31)) &&& 255))))] H := hP
    have hD : va_D A_ [(mo, .inr (8, [.int 0, .int (nI (n + 1 + 1 + 1)), .ref m_row, .ref m_shelves, .ref m_many, .ref m_widths, .int (nI mk), .ref m_mark, .int z_shown, .ref m_shownMark, .int z_wasRun, .int z_wrong, .int z_ended, .int (nI sp), .int z_hints, .int z_hasWidth, .int z_width, .int z_first, .int z_moved, .int z_deepest, .int z_x, .int z_y, .int (nI t), .ref m_stack, .ref m_places, .int (nI d), .ref m_kinds, .ref m_ats, .ref m_ends])), (m_row, .inl (cI, 16384, .inl (upd (upd (upd g_row n ((x1 >>> (24 &&& 31)) &&& 255)) (n + 1) ((x1 >>> (16 &&& 31)) &&& 255)) (n + 1 + 1) ((x1 >>> (8 &&& 31)) &&& 255))))] := hD
    refine lv_iinc (v := 3) (lv' := [(6, .int 3), (7, .int x1), (0, .ref mo), (1, .int x1), (2, .int x2), (3, .int x3), (4, .int x4), (5, .int x5)]) hx hb d_Mo_feed_114 hl (k := 1) rfl (by decide) (by decide) rfl (fun ls hl => ?_)
    refine lv_goto (tgt := 23) hx hb d_Mo_feed_117 (by decide) ?_
    refine lv_iload hx hb d_Mo_feed_23 (lv_at hl 0 rfl) ?_
    refine lv_bipush (v := 20) hx hb d_Mo_feed_25 (by decide) ?_
    refine lv_icmp_ge (tgt := 120) hx hb d_Mo_feed_27 (by decide) (fun c_27 => absurd c_27 (by decide)) (fun c_27 => ?_)
    clear c_27
    refine lv_iload hx hb d_Mo_feed_30 (lv_at hl 0 rfl) ?_
    refine lv_iconst (v := 4) hx hb d_Mo_feed_32 (by decide) ?_
    refine lv_icmp_ge (tgt := 40) hx hb d_Mo_feed_33 (by decide) (fun c_33 => absurd c_33 (by decide)) (fun c_33 => ?_)
    clear c_33
    refine lv_iload_n hx hb d_Mo_feed_36 rfl (lv_at hl 3 rfl) ?_
    refine lv_goto (tgt := 76) hx hb d_Mo_feed_37 (by decide) ?_
    refine lv_istore (lv' := [(7, .int x1), (6, .int 3), (0, .ref mo), (1, .int x1), (2, .int x2), (3, .int x3), (4, .int x4), (5, .int x5)]) hx hb d_Mo_feed_76 hl (by decide) rfl (fun ls hl => ?_)
    refine lv_aload_n hx hb d_Mo_feed_78 rfl (lv_at hl 2 rfl) ?_
    refine va_get (D := D) (ci := 8) (v := .ref m_row) (C := R_Mo) (T := F_Mo) (N := 29) hx hb hts i_Mo hown hZ.1 hP 0 rfl rfl 2 (by decide) (hts _ fl_Mo_7) (fun _ h9 => h9) rfl d_Mo_feed_79 ?_
    refine lv_aload_n hx hb d_Mo_feed_82 rfl (lv_at hl 2 rfl) ?_
    refine va_get (D := D) (ci := 8) (v := .int (nI (n + 1 + 1 + 1))) (C := R_Mo) (T := F_Mo) (N := 29) hx hb hts i_Mo hown hZ.1 hP 0 rfl rfl 1 (by decide) (hts _ fl_Mo_48) (fun _ h9 => h9) rfl d_Mo_feed_83 ?_
    refine lv_iload hx hb d_Mo_feed_86 (lv_at hl 0 rfl) ?_
    refine lv_bipush (v := 24) hx hb d_Mo_feed_88 (by decide) ?_
    refine lv_bipush (v := 8) hx hb d_Mo_feed_90 (by decide) ?_
    refine lv_iload hx hb d_Mo_feed_92 (lv_at hl 1 rfl) ?_
    refine lv_iconst (v := 4) hx hb d_Mo_feed_94 (by decide) ?_
    refine lv_irem hx hb d_Mo_feed_95 (by decide) ?_
    refine lv_tv (y := 3) (by decide) ?_
    refine lv_imul hx hb d_Mo_feed_96 ?_
    refine lv_tv (y := 24) (by decide) ?_
    refine lv_isub hx hb d_Mo_feed_97 ?_
    refine lv_tv (y := 0) (by decide) ?_
    refine lv_ishr hx hb d_Mo_feed_98 ?_
    refine lv_sipush (v := 255) hx hb d_Mo_feed_99 (by decide) ?_
    refine lv_iand hx hb d_Mo_feed_102 ?_
    refine va_iast hx hb hZ.1 hP hD hS 1 1 rfl rfl (vp_in_nI (by omega) (by omega)) d_Mo_feed_103 (fun H locs hP hD hS => ?_)
    rw [show ((nI (n + 1 + 1 + 1)).toNatClampNeg) = n + 1 + 1 + 1 from nI_clamp (by omega)] at hP hD
    have hP : va_P D classes [(mo, .inr (8, [.int 0, .int (nI (n + 1 + 1 + 1)), .ref m_row, .ref m_shelves, .ref m_many, .ref m_widths, .int (nI mk), .ref m_mark, .int z_shown, .ref m_shownMark, .int z_wasRun, .int z_wrong, .int z_ended, .int (nI sp), .int z_hints, .int z_hasWidth, .int z_width, .int z_first, .int z_moved, .int z_deepest, .int z_x, .int z_y, .int (nI t), .ref m_stack, .ref m_places, .int (nI d), .ref m_kinds, .ref m_ats, .ref m_ends])), (m_row, .inl (cI, 16384, .inl (upd (upd (upd (upd g_row n ((x1 >>> (24 &&& 31)) &&& 255)) (n + 1) ((x1 >>> (16 &&& 31)) &&& 255)) (n + 1 + 1) ((x1 >>> (8 &&& 31)) &&& 255)) (n + 1 + 1 + 1) ((x1 >>> (0 &&& 31)) &&& 255))))] H := hP
    have hD : va_D A_ [(mo, .inr (8, [.int 0, .int (nI (n + 1 + 1 + 1)), .ref m_row, .ref m_shelves, .ref m_many, .ref m_widths, .int (nI mk), .ref m_mark, .int z_shown, .ref m_shownMark, .int z_wasRun, .int z_wrong, .int z_ended, .int (nI sp), .int z_hints, .int z_hasWidth, .int z_width, .int z_first, .int z_moved, .int z_deepest, .int z_x, .int z_y, .int (nI t), .ref m_stack, .ref m_places, .int (nI d), .ref m_kinds, .ref m_ats, .ref m_ends])), (m_row, .inl (cI, 16384, .inl (upd (upd (upd (upd g_row n ((x1 >>> (24 &&& 31)) &&& 255)) (n + 1) ((x1 >>> (16 &&& 31)) &&& 255)) (n + 1 + 1) ((x1 >>> (8 &&& 31)) &&& 255)) (n + 1 + 1 + 1) ((x1 >>> (0 &&& 31)) &&& 255))))] := hD
    refine lv_aload_n hx hb d_Mo_feed_104 rfl (lv_at hl 2 rfl) ?_
    refine lv_dup hx hb d_Mo_feed_105 rfl ?_
    refine va_get (D := D) (ci := 8) (v := .int (nI (n + 1 + 1 + 1))) (C := R_Mo) (T := F_Mo) (N := 29) hx hb hts i_Mo hown hZ.1 hP 0 rfl rfl 1 (by decide) (hts _ fl_Mo_48) (fun _ h9 => h9) rfl d_Mo_feed_106 ?_
    refine lv_iconst (v := 1) hx hb d_Mo_feed_109 (by decide) ?_
    refine lv_iadd hx hb d_Mo_feed_110 ?_
    refine lv_tv (y := nI (n + 1 + 1 + 1 + 1)) (nI_add (n + 1 + 1 + 1) 1) ?_
    refine va_put (D := D) (ci := 8) (v := .int (nI (n + 1 + 1 + 1 + 1))) (ty := .int) (C := R_Mo) (T := F_Mo) (N := 29) hx hb hts i_Mo t_Mo t_Mo_ok n_Mo hown hZ.1 hP hD hS 0 rfl rfl 1 (by decide) (hts _ fl_Mo_48) (fun _ h9 => h9) rfl (by decide +kernel) rfl rfl (Nat.le_of_ble_eq_true rfl) d_Mo_feed_111 (fun H locs hP hD hS => ?_)
    have hP : va_P D classes [(mo, .inr (8, [.int 0, .int (nI (n + 1 + 1 + 1 + 1)), .ref m_row, .ref m_shelves, .ref m_many, .ref m_widths, .int (nI mk), .ref m_mark, .int z_shown, .ref m_shownMark, .int z_wasRun, .int z_wrong, .int z_ended, .int (nI sp), .int z_hints, .int z_hasWidth, .int z_width, .int z_first, .int z_moved, .int z_deepest, .int z_x, .int z_y, .int (nI t), .ref m_stack, .ref m_places, .int (nI d), .ref m_kinds, .ref m_ats, .ref m_ends])), (m_row, .inl (cI, 16384, .inl (upd (upd (upd (upd g_row n ((x1 >>> (24 &&& 31)) &&& 255)) (n + 1) ((x1 >>> (16 &&& 31)) &&& 255)) (n + 1 + 1) ((x1 >>> (8 &&& 31)) &&& 255)) (n + 1 + 1 + 1) ((x1 >>> (0 &&& 31)) &&& 255))))] H := hP
    have hD : va_D A_ [(mo, .inr (8, [.int 0, .int (nI (n + 1 + 1 + 1 + 1)), .ref m_row, .ref m_shelves, .ref m_many, .ref m_widths, .int (nI mk), .ref m_mark, .int z_shown, .ref m_shownMark, .int z_wasRun, .int z_wrong, .int z_ended, .int (nI sp), .int z_hints, .int z_hasWidth, .int z_width, .int z_first, .int z_moved, .int z_deepest, .int z_x, .int z_y, .int (nI t), .ref m_stack, .ref m_places, .int (nI d), .ref m_kinds, .ref m_ats, .ref m_ends])), (m_row, .inl (cI, 16384, .inl (upd (upd (upd (upd g_row n ((x1 >>> (24 &&& 31)) &&& 255)) (n + 1) ((x1 >>> (16 &&& 31)) &&& 255)) (n + 1 + 1) ((x1 >>> (8 &&& 31)) &&& 255)) (n + 1 + 1 + 1) ((x1 >>> (0 &&& 31)) &&& 255))))] := hD
    refine lv_iinc (v := 4) (lv' := [(6, .int 4), (7, .int x1), (0, .ref mo), (1, .int x1), (2, .int x2), (3, .int x3), (4, .int x4), (5, .int x5)]) hx hb d_Mo_feed_114 hl (k := 1) rfl (by decide) (by decide) rfl (fun ls hl => ?_)
    refine lv_goto (tgt := 23) hx hb d_Mo_feed_117 (by decide) ?_
    refine lv_iload hx hb d_Mo_feed_23 (lv_at hl 0 rfl) ?_
    refine lv_bipush (v := 20) hx hb d_Mo_feed_25 (by decide) ?_
    refine lv_icmp_ge (tgt := 120) hx hb d_Mo_feed_27 (by decide) (fun c_27 => absurd c_27 (by decide)) (fun c_27 => ?_)
    clear c_27
    refine lv_iload hx hb d_Mo_feed_30 (lv_at hl 0 rfl) ?_
    refine lv_iconst (v := 4) hx hb d_Mo_feed_32 (by decide) ?_
    refine lv_icmp_ge (tgt := 40) hx hb d_Mo_feed_33 (by decide) (fun c_33 => ?_) (fun c_33 => absurd (by decide) c_33)
    clear c_33
    refine lv_iload hx hb d_Mo_feed_40 (lv_at hl 0 rfl) ?_
    refine lv_bipush (v := 8) hx hb d_Mo_feed_42 (by decide) ?_
    refine lv_icmp_ge (tgt := 51) hx hb d_Mo_feed_44 (by decide) (fun c_44 => absurd c_44 (by decide)) (fun c_44 => ?_)
    clear c_44
    refine lv_iload_n hx hb d_Mo_feed_47 rfl (lv_at hl 4 rfl) ?_
    refine lv_goto (tgt := 76) hx hb d_Mo_feed_48 (by decide) ?_
    refine lv_istore (lv' := [(7, .int x2), (6, .int 4), (0, .ref mo), (1, .int x1), (2, .int x2), (3, .int x3), (4, .int x4), (5, .int x5)]) hx hb d_Mo_feed_76 hl (by decide) rfl (fun ls hl => ?_)
    refine lv_aload_n hx hb d_Mo_feed_78 rfl (lv_at hl 2 rfl) ?_
    refine va_get (D := D) (ci := 8) (v := .ref m_row) (C := R_Mo) (T := F_Mo) (N := 29) hx hb hts i_Mo hown hZ.1 hP 0 rfl rfl 2 (by decide) (hts _ fl_Mo_7) (fun _ h9 => h9) rfl d_Mo_feed_79 ?_
    refine lv_aload_n hx hb d_Mo_feed_82 rfl (lv_at hl 2 rfl) ?_
    refine va_get (D := D) (ci := 8) (v := .int (nI (n + 1 + 1 + 1 + 1))) (C := R_Mo) (T := F_Mo) (N := 29) hx hb hts i_Mo hown hZ.1 hP 0 rfl rfl 1 (by decide) (hts _ fl_Mo_48) (fun _ h9 => h9) rfl d_Mo_feed_83 ?_
    refine lv_iload hx hb d_Mo_feed_86 (lv_at hl 0 rfl) ?_
    refine lv_bipush (v := 24) hx hb d_Mo_feed_88 (by decide) ?_
    refine lv_bipush (v := 8) hx hb d_Mo_feed_90 (by decide) ?_
    refine lv_iload hx hb d_Mo_feed_92 (lv_at hl 1 rfl) ?_
    refine lv_iconst (v := 4) hx hb d_Mo_feed_94 (by decide) ?_
    refine lv_irem hx hb d_Mo_feed_95 (by decide) ?_
    refine lv_tv (y := 0) (by decide) ?_
    refine lv_imul hx hb d_Mo_feed_96 ?_
    refine lv_tv (y := 0) (by decide) ?_
    refine lv_isub hx hb d_Mo_feed_97 ?_
    refine lv_tv (y := 24) (by decide) ?_
    refine lv_ishr hx hb d_Mo_feed_98 ?_
    refine lv_sipush (v := 255) hx hb d_Mo_feed_99 (by decide) ?_
    refine lv_iand hx hb d_Mo_feed_102 ?_
    refine va_iast hx hb hZ.1 hP hD hS 1 1 rfl rfl (vp_in_nI (by omega) (by omega)) d_Mo_feed_103 (fun H locs hP hD hS => ?_)
    rw [show ((nI (n + 1 + 1 + 1 + 1)).toNatClampNeg) = n + 1 + 1 + 1 + 1 from nI_clamp (by omega)] at hP hD
    have hP : va_P D classes [(mo, .inr (8, [.int 0, .int (nI (n + 1 + 1 + 1 + 1)), .ref m_row, .ref m_shelves, .ref m_many, .ref m_widths, .int (nI mk), .ref m_mark, .int z_shown, .ref m_shownMark, .int z_wasRun, .int z_wrong, .int z_ended, .int (nI sp), .int z_hints, .int z_hasWidth, .int z_width, .int z_first, .int z_moved, .int z_deepest, .int z_x, .int z_y, .int (nI t), .ref m_stack, .ref m_places, .int (nI d), .ref m_kinds, .ref m_ats, .ref m_ends])), (m_row, .inl (cI, 16384, .inl (upd (upd (upd (upd (upd g_row n ((x1 >>> (24 &&& 31)) &&& 255)) (n + 1) ((x1 >>> (16 &&& 31)) &&& 255)) (n + 1 + 1) ((x1 >>> (8 &&& 31)) &&& 255)) (n + 1 + 1 + 1) ((x1 >>> (0 &&& 31)) &&& 255)) (n + 1 + 1 + 1 + 1) ((x2 >>> (24 &&& 31)) &&& 255))))] H := hP
    have hD : va_D A_ [(mo, .inr (8, [.int 0, .int (nI (n + 1 + 1 + 1 + 1)), .ref m_row, .ref m_shelves, .ref m_many, .ref m_widths, .int (nI mk), .ref m_mark, .int z_shown, .ref m_shownMark, .int z_wasRun, .int z_wrong, .int z_ended, .int (nI sp), .int z_hints, .int z_hasWidth, .int z_width, .int z_first, .int z_moved, .int z_deepest, .int z_x, .int z_y, .int (nI t), .ref m_stack, .ref m_places, .int (nI d), .ref m_kinds, .ref m_ats, .ref m_ends])), (m_row, .inl (cI, 16384, .inl (upd (upd (upd (upd (upd g_row n ((x1 >>> (24 &&& 31)) &&& 255)) (n + 1) ((x1 >>> (16 &&& 31)) &&& 255)) (n + 1 + 1) ((x1 >>> (8 &&& 31)) &&& 255)) (n + 1 + 1 + 1) ((x1 >>> (0 &&& 31)) &&& 255)) (n + 1 + 1 + 1 + 1) ((x2 >>> (24 &&& 31)) &&& 255))))] := hD
    refine lv_aload_n hx hb d_Mo_feed_104 rfl (lv_at hl 2 rfl) ?_
    refine lv_dup hx hb d_Mo_feed_105 rfl ?_
    refine va_get (D := D) (ci := 8) (v := .int (nI (n + 1 + 1 + 1 + 1))) (C := R_Mo) (T := F_Mo) (N := 29) hx hb hts i_Mo hown hZ.1 hP 0 rfl rfl 1 (by decide) (hts _ fl_Mo_48) (fun _ h9 => h9) rfl d_Mo_feed_106 ?_
    refine lv_iconst (v := 1) hx hb d_Mo_feed_109 (by decide) ?_
    refine lv_iadd hx hb d_Mo_feed_110 ?_
    refine lv_tv (y := nI (n + 1 + 1 + 1 + 1 + 1)) (nI_add (n + 1 + 1 + 1 + 1) 1) ?_
    refine va_put (D := D) (ci := 8) (v := .int (nI (n + 1 + 1 + 1 + 1 + 1))) (ty := .int) (C := R_Mo) (T := F_Mo) (N := 29) hx hb hts i_Mo t_Mo t_Mo_ok n_Mo hown hZ.1 hP hD hS 0 rfl rfl 1 (by decide) (hts _ fl_Mo_48) (fun _ h9 => h9) rfl (by decide +kernel) rfl rfl (Nat.le_of_ble_eq_true rfl) d_Mo_feed_111 (fun H locs hP hD hS => ?_)
    have hP : va_P D classes [(mo, .inr (8, [.int 0, .int (nI (n + 1 + 1 + 1 + 1 + 1)), .ref m_row, .ref m_shelves, .ref m_many, .ref m_widths, .int (nI mk), .ref m_mark, .int z_shown, .ref m_shownMark, .int z_wasRun, .int z_wrong, .int z_ended, .int (nI sp), .int z_hints, .int z_hasWidth, .int z_width, .int z_first, .int z_moved, .int z_deepest, .int z_x, .int z_y, .int (nI t), .ref m_stack, .ref m_places, .int (nI d), .ref m_kinds, .ref m_ats, .ref m_ends])), (m_row, .inl (cI, 16384, .inl (upd (upd (upd (upd (upd g_row n ((x1 >>> (24 &&& 31)) &&& 255)) (n + 1) ((x1 >>> (16 &&& 31)) &&& 255)) (n + 1 + 1) ((x1 >>> (8 &&& 31)) &&& 255)) (n + 1 + 1 + 1) ((x1 >>> (0 &&& 31)) &&& 255)) (n + 1 + 1 + 1 + 1) ((x2 >>> (24 &&& 31)) &&& 255))))] H := hP
    have hD : va_D A_ [(mo, .inr (8, [.int 0, .int (nI (n + 1 + 1 + 1 + 1 + 1)), .ref m_row, .ref m_shelves, .ref m_many, .ref m_widths, .int (nI mk), .ref m_mark, .int z_shown, .ref m_shownMark, .int z_wasRun, .int z_wrong, .int z_ended, .int (nI sp), .int z_hints, .int z_hasWidth, .int z_width, .int z_first, .int z_moved, .int z_deepest, .int z_x, .int z_y, .int (nI t), .ref m_stack, .ref m_places, .int (nI d), .ref m_kinds, .ref m_ats, .ref m_ends])), (m_row, .inl (cI, 16384, .inl (upd (upd (upd (upd (upd g_row n ((x1 >>> (24 &&& 31)) &&& 255)) (n + 1) ((x1 >>> (16 &&& 31)) &&& 255)) (n + 1 + 1) ((x1 >>> (8 &&& 31)) &&& 255)) (n + 1 + 1 + 1) ((x1 >>> (0 &&& 31)) &&& 255)) (n + 1 + 1 + 1 + 1) ((x2 >>> (24 &&& 31)) &&& 255))))] := hD
    refine lv_iinc (v := 5) (lv' := [(6, .int 5), (7, .int x2), (0, .ref mo), (1, .int x1), (2, .int x2), (3, .int x3), (4, .int x4), (5, .int x5)]) hx hb d_Mo_feed_114 hl (k := 1) rfl (by decide) (by decide) rfl (fun ls hl => ?_)
    refine lv_goto (tgt := 23) hx hb d_Mo_feed_117 (by decide) ?_
    refine lv_iload hx hb d_Mo_feed_23 (lv_at hl 0 rfl) ?_
    refine lv_bipush (v := 20) hx hb d_Mo_feed_25 (by decide) ?_
    refine lv_icmp_ge (tgt := 120) hx hb d_Mo_feed_27 (by decide) (fun c_27 => absurd c_27 (by decide)) (fun c_27 => ?_)
    clear c_27
    refine lv_iload hx hb d_Mo_feed_30 (lv_at hl 0 rfl) ?_
    refine lv_iconst (v := 4) hx hb d_Mo_feed_32 (by decide) ?_
    refine lv_icmp_ge (tgt := 40) hx hb d_Mo_feed_33 (by decide) (fun c_33 => ?_) (fun c_33 => absurd (by decide) c_33)
    clear c_33
    refine lv_iload hx hb d_Mo_feed_40 (lv_at hl 0 rfl) ?_
    refine lv_bipush (v := 8) hx hb d_Mo_feed_42 (by decide) ?_
    refine lv_icmp_ge (tgt := 51) hx hb d_Mo_feed_44 (by decide) (fun c_44 => absurd c_44 (by decide)) (fun c_44 => ?_)
    clear c_44
    refine lv_iload_n hx hb d_Mo_feed_47 rfl (lv_at hl 4 rfl) ?_
    refine lv_goto (tgt := 76) hx hb d_Mo_feed_48 (by decide) ?_
    refine lv_istore (lv' := [(7, .int x2), (6, .int 5), (0, .ref mo), (1, .int x1), (2, .int x2), (3, .int x3), (4, .int x4), (5, .int x5)]) hx hb d_Mo_feed_76 hl (by decide) rfl (fun ls hl => ?_)
    refine lv_aload_n hx hb d_Mo_feed_78 rfl (lv_at hl 2 rfl) ?_
    refine va_get (D := D) (ci := 8) (v := .ref m_row) (C := R_Mo) (T := F_Mo) (N := 29) hx hb hts i_Mo hown hZ.1 hP 0 rfl rfl 2 (by decide) (hts _ fl_Mo_7) (fun _ h9 => h9) rfl d_Mo_feed_79 ?_
    refine lv_aload_n hx hb d_Mo_feed_82 rfl (lv_at hl 2 rfl) ?_
    refine va_get (D := D) (ci := 8) (v := .int (nI (n + 1 + 1 + 1 + 1 + 1))) (C := R_Mo) (T := F_Mo) (N := 29) hx hb hts i_Mo hown hZ.1 hP 0 rfl rfl 1 (by decide) (hts _ fl_Mo_48) (fun _ h9 => h9) rfl d_Mo_feed_83 ?_
    refine lv_iload hx hb d_Mo_feed_86 (lv_at hl 0 rfl) ?_
    refine lv_bipush (v := 24) hx hb d_Mo_feed_88 (by decide) ?_
    refine lv_bipush (v := 8) hx hb d_Mo_feed_90 (by decide) ?_
    refine lv_iload hx hb d_Mo_feed_92 (lv_at hl 1 rfl) ?_
    refine lv_iconst (v := 4) hx hb d_Mo_feed_94 (by decide) ?_
    refine lv_irem hx hb d_Mo_feed_95 (by decide) ?_
    refine lv_tv (y := 1) (by decide) ?_
    refine lv_imul hx hb d_Mo_feed_96 ?_
    refine lv_tv (y := 8) (by decide) ?_
    refine lv_isub hx hb d_Mo_feed_97 ?_
    refine lv_tv (y := 16) (by decide) ?_
    refine lv_ishr hx hb d_Mo_feed_98 ?_
    refine lv_sipush (v := 255) hx hb d_Mo_feed_99 (by decide) ?_
    refine lv_iand hx hb d_Mo_feed_102 ?_
    refine va_iast hx hb hZ.1 hP hD hS 1 1 rfl rfl (vp_in_nI (by omega) (by omega)) d_Mo_feed_103 (fun H locs hP hD hS => ?_)
    rw [show ((nI (n + 1 + 1 + 1 + 1 + 1)).toNatClampNeg) = n + 1 + 1 + 1 + 1 + 1 from nI_clamp (by omega)] at hP hD
    have hP : va_P D classes [(mo, .inr (8, [.int 0, .int (nI (n + 1 + 1 + 1 + 1 + 1)), .ref m_row, .ref m_shelves, .ref m_many, .ref m_widths, .int (nI mk), .ref m_mark, .int z_shown, .ref m_shownMark, .int z_wasRun, .int z_wrong, .int z_ended, .int (nI sp), .int z_hints, .int z_hasWidth, .int z_width, .int z_first, .int z_moved, .int z_deepest, .int z_x, .int z_y, .int (nI t), .ref m_stack, .ref m_places, .int (nI d), .ref m_kinds, .ref m_ats, .ref m_ends])), (m_row, .inl (cI, 16384, .inl (upd (upd (upd (upd (upd (upd g_row n ((x1 >>> (24 &&& 31)) &&& 255)) (n + 1) ((x1 >>> (16 &&& 31)) &&& 255)) (n + 1 + 1) ((x1 >>> (8 &&& 31)) &&& 255)) (n + 1 + 1 + 1) ((x1 >>> (0 &&& 31)) &&& 255)) (n + 1 + 1 + 1 + 1) ((x2 >>> (24 &&& 31)) &&& 255)) (n + 1 + 1 + 1 + 1 + 1) ((x2 >>> (16 &&& 31)) &&& 255))))] H := hP
    have hD : va_D A_ [(mo, .inr (8, [.int 0, .int (nI (n + 1 + 1 + 1 + 1 + 1)), .ref m_row, .ref m_shelves, .ref m_many, .ref m_widths, .int (nI mk), .ref m_mark, .int z_shown, .ref m_shownMark, .int z_wasRun, .int z_wrong, .int z_ended, .int (nI sp), .int z_hints, .int z_hasWidth, .int z_width, .int z_first, .int z_moved, .int z_deepest, .int z_x, .int z_y, .int (nI t), .ref m_stack, .ref m_places, .int (nI d), .ref m_kinds, .ref m_ats, .ref m_ends])), (m_row, .inl (cI, 16384, .inl (upd (upd (upd (upd (upd (upd g_row n ((x1 >>> (24 &&& 31)) &&& 255)) (n + 1) ((x1 >>> (16 &&& 31)) &&& 255)) (n + 1 + 1) ((x1 >>> (8 &&& 31)) &&& 255)) (n + 1 + 1 + 1) ((x1 >>> (0 &&& 31)) &&& 255)) (n + 1 + 1 + 1 + 1) ((x2 >>> (24 &&& 31)) &&& 255)) (n + 1 + 1 + 1 + 1 + 1) ((x2 >>> (16 &&& 31)) &&& 255))))] := hD
    refine lv_aload_n hx hb d_Mo_feed_104 rfl (lv_at hl 2 rfl) ?_
    refine lv_dup hx hb d_Mo_feed_105 rfl ?_
    refine va_get (D := D) (ci := 8) (v := .int (nI (n + 1 + 1 + 1 + 1 + 1))) (C := R_Mo) (T := F_Mo) (N := 29) hx hb hts i_Mo hown hZ.1 hP 0 rfl rfl 1 (by decide) (hts _ fl_Mo_48) (fun _ h9 => h9) rfl d_Mo_feed_106 ?_
    refine lv_iconst (v := 1) hx hb d_Mo_feed_109 (by decide) ?_
    refine lv_iadd hx hb d_Mo_feed_110 ?_
    refine lv_tv (y := nI (n + 1 + 1 + 1 + 1 + 1 + 1)) (nI_add (n + 1 + 1 + 1 + 1 + 1) 1) ?_
    refine va_put (D := D) (ci := 8) (v := .int (nI (n + 1 + 1 + 1 + 1 + 1 + 1))) (ty := .int) (C := R_Mo) (T := F_Mo) (N := 29) hx hb hts i_Mo t_Mo t_Mo_ok n_Mo hown hZ.1 hP hD hS 0 rfl rfl 1 (by decide) (hts _ fl_Mo_48) (fun _ h9 => h9) rfl (by decide +kernel) rfl rfl (Nat.le_of_ble_eq_true rfl) d_Mo_feed_111 (fun H locs hP hD hS => ?_)
    have hP : va_P D classes [(mo, .inr (8, [.int 0, .int (nI (n + 1 + 1 + 1 + 1 + 1 + 1)), .ref m_row, .ref m_shelves, .ref m_many, .ref m_widths, .int (nI mk), .ref m_mark, .int z_shown, .ref m_shownMark, .int z_wasRun, .int z_wrong, .int z_ended, .int (nI sp), .int z_hints, .int z_hasWidth, .int z_width, .int z_first, .int z_moved, .int z_deepest, .int z_x, .int z_y, .int (nI t), .ref m_stack, .ref m_places, .int (nI d), .ref m_kinds, .ref m_ats, .ref m_ends])), (m_row, .inl (cI, 16384, .inl (upd (upd (upd (upd (upd (upd g_row n ((x1 >>> (24 &&& 31)) &&& 255)) (n + 1) ((x1 >>> (16 &&& 31)) &&& 255)) (n + 1 + 1) ((x1 >>> (8 &&& 31)) &&& 255)) (n + 1 + 1 + 1) ((x1 >>> (0 &&& 31)) &&& 255)) (n + 1 + 1 + 1 + 1) ((x2 >>> (24 &&& 31)) &&& 255)) (n + 1 + 1 + 1 + 1 + 1) ((x2 >>> (16 &&& 31)) &&& 255))))] H := hP
    have hD : va_D A_ [(mo, .inr (8, [.int 0, .int (nI (n + 1 + 1 + 1 + 1 + 1 + 1)), .ref m_row, .ref m_shelves, .ref m_many, .ref m_widths, .int (nI mk), .ref m_mark, .int z_shown, .ref m_shownMark, .int z_wasRun, .int z_wrong, .int z_ended, .int (nI sp), .int z_hints, .int z_hasWidth, .int z_width, .int z_first, .int z_moved, .int z_deepest, .int z_x, .int z_y, .int (nI t), .ref m_stack, .ref m_places, .int (nI d), .ref m_kinds, .ref m_ats, .ref m_ends])), (m_row, .inl (cI, 16384, .inl (upd (upd (upd (upd (upd (upd g_row n ((x1 >>> (24 &&& 31)) &&& 255)) (n + 1) ((x1 >>> (16 &&& 31)) &&& 255)) (n + 1 + 1) ((x1 >>> (8 &&& 31)) &&& 255)) (n + 1 + 1 + 1) ((x1 >>> (0 &&& 31)) &&& 255)) (n + 1 + 1 + 1 + 1) ((x2 >>> (24 &&& 31)) &&& 255)) (n + 1 + 1 + 1 + 1 + 1) ((x2 >>> (16 &&& 31)) &&& 255))))] := hD
    refine lv_iinc (v := 6) (lv' := [(6, .int 6), (7, .int x2), (0, .ref mo), (1, .int x1), (2, .int x2), (3, .int x3), (4, .int x4), (5, .int x5)]) hx hb d_Mo_feed_114 hl (k := 1) rfl (by decide) (by decide) rfl (fun ls hl => ?_)
    refine lv_goto (tgt := 23) hx hb d_Mo_feed_117 (by decide) ?_
    refine lv_iload hx hb d_Mo_feed_23 (lv_at hl 0 rfl) ?_
    refine lv_bipush (v := 20) hx hb d_Mo_feed_25 (by decide) ?_
    refine lv_icmp_ge (tgt := 120) hx hb d_Mo_feed_27 (by decide) (fun c_27 => absurd c_27 (by decide)) (fun c_27 => ?_)
    clear c_27
    refine lv_iload hx hb d_Mo_feed_30 (lv_at hl 0 rfl) ?_
    refine lv_iconst (v := 4) hx hb d_Mo_feed_32 (by decide) ?_
    refine lv_icmp_ge (tgt := 40) hx hb d_Mo_feed_33 (by decide) (fun c_33 => ?_) (fun c_33 => absurd (by decide) c_33)
    clear c_33
    refine lv_iload hx hb d_Mo_feed_40 (lv_at hl 0 rfl) ?_
    refine lv_bipush (v := 8) hx hb d_Mo_feed_42 (by decide) ?_
    refine lv_icmp_ge (tgt := 51) hx hb d_Mo_feed_44 (by decide) (fun c_44 => absurd c_44 (by decide)) (fun c_44 => ?_)
    clear c_44
    refine lv_iload_n hx hb d_Mo_feed_47 rfl (lv_at hl 4 rfl) ?_
    refine lv_goto (tgt := 76) hx hb d_Mo_feed_48 (by decide) ?_
    refine lv_istore (lv' := [(7, .int x2), (6, .int 6), (0, .ref mo), (1, .int x1), (2, .int x2), (3, .int x3), (4, .int x4), (5, .int x5)]) hx hb d_Mo_feed_76 hl (by decide) rfl (fun ls hl => ?_)
    refine lv_aload_n hx hb d_Mo_feed_78 rfl (lv_at hl 2 rfl) ?_
    refine va_get (D := D) (ci := 8) (v := .ref m_row) (C := R_Mo) (T := F_Mo) (N := 29) hx hb hts i_Mo hown hZ.1 hP 0 rfl rfl 2 (by decide) (hts _ fl_Mo_7) (fun _ h9 => h9) rfl d_Mo_feed_79 ?_
    refine lv_aload_n hx hb d_Mo_feed_82 rfl (lv_at hl 2 rfl) ?_
    refine va_get (D := D) (ci := 8) (v := .int (nI (n + 1 + 1 + 1 + 1 + 1 + 1))) (C := R_Mo) (T := F_Mo) (N := 29) hx hb hts i_Mo hown hZ.1 hP 0 rfl rfl 1 (by decide) (hts _ fl_Mo_48) (fun _ h9 => h9) rfl d_Mo_feed_83 ?_
    refine lv_iload hx hb d_Mo_feed_86 (lv_at hl 0 rfl) ?_
    refine lv_bipush (v := 24) hx hb d_Mo_feed_88 (by decide) ?_
    refine lv_bipush (v := 8) hx hb d_Mo_feed_90 (by decide) ?_
    refine lv_iload hx hb d_Mo_feed_92 (lv_at hl 1 rfl) ?_
    refine lv_iconst (v := 4) hx hb d_Mo_feed_94 (by decide) ?_
    refine lv_irem hx hb d_Mo_feed_95 (by decide) ?_
    refine lv_tv (y := 2) (by decide) ?_
    refine lv_imul hx hb d_Mo_feed_96 ?_
    refine lv_tv (y := 16) (by decide) ?_
    refine lv_isub hx hb d_Mo_feed_97 ?_
    refine lv_tv (y := 8) (by decide) ?_
    refine lv_ishr hx hb d_Mo_feed_98 ?_
    refine lv_sipush (v := 255) hx hb d_Mo_feed_99 (by decide) ?_
    refine lv_iand hx hb d_Mo_feed_102 ?_
    refine va_iast hx hb hZ.1 hP hD hS 1 1 rfl rfl (vp_in_nI (by omega) (by omega)) d_Mo_feed_103 (fun H locs hP hD hS => ?_)
    rw [show ((nI (n + 1 + 1 + 1 + 1 + 1 + 1)).toNatClampNeg) = n + 1 + 1 + 1 + 1 + 1 + 1 from nI_clamp (by omega)] at hP hD
    have hP : va_P D classes [(mo, .inr (8, [.int 0, .int (nI (n + 1 + 1 + 1 + 1 + 1 + 1)), .ref m_row, .ref m_shelves, .ref m_many, .ref m_widths, .int (nI mk), .ref m_mark, .int z_shown, .ref m_shownMark, .int z_wasRun, .int z_wrong, .int z_ended, .int (nI sp), .int z_hints, .int z_hasWidth, .int z_width, .int z_first, .int z_moved, .int z_deepest, .int z_x, .int z_y, .int (nI t), .ref m_stack, .ref m_places, .int (nI d), .ref m_kinds, .ref m_ats, .ref m_ends])), (m_row, .inl (cI, 16384, .inl (upd (upd (upd (upd (upd (upd (upd g_row n ((x1 >>> (24 &&& 31)) &&& 255)) (n + 1) ((x1 >>> (16 &&& 31)) &&& 255)) (n + 1 + 1) ((x1 >>> (8 &&& 31)) &&& 255)) (n + 1 + 1 + 1) ((x1 >>> (0 &&& 31)) &&& 255)) (n + 1 + 1 + 1 + 1) ((x2 >>> (24 &&& 31)) &&& 255)) (n + 1 + 1 + 1 + 1 + 1) ((x2 >>> (16 &&& 31)) &&& 255)) (n + 1 + 1 + 1 + 1 + 1 + 1) ((x2 >>> (8 &&& 31)) &&& 255))))] H := hP
    have hD : va_D A_ [(mo, .inr (8, [.int 0, .int (nI (n + 1 + 1 + 1 + 1 + 1 + 1)), .ref m_row, .ref m_shelves, .ref m_many, .ref m_widths, .int (nI mk), .ref m_mark, .int z_shown, .ref m_shownMark, .int z_wasRun, .int z_wrong, .int z_ended, .int (nI sp), .int z_hints, .int z_hasWidth, .int z_width, .int z_first, .int z_moved, .int z_deepest, .int z_x, .int z_y, .int (nI t), .ref m_stack, .ref m_places, .int (nI d), .ref m_kinds, .ref m_ats, .ref m_ends])), (m_row, .inl (cI, 16384, .inl (upd (upd (upd (upd (upd (upd (upd g_row n ((x1 >>> (24 &&& 31)) &&& 255)) (n + 1) ((x1 >>> (16 &&& 31)) &&& 255)) (n + 1 + 1) ((x1 >>> (8 &&& 31)) &&& 255)) (n + 1 + 1 + 1) ((x1 >>> (0 &&& 31)) &&& 255)) (n + 1 + 1 + 1 + 1) ((x2 >>> (24 &&& 31)) &&& 255)) (n + 1 + 1 + 1 + 1 + 1) ((x2 >>> (16 &&& 31)) &&& 255)) (n + 1 + 1 + 1 + 1 + 1 + 1) ((x2 >>> (8 &&& 31)) &&& 255))))] := hD
    refine lv_aload_n hx hb d_Mo_feed_104 rfl (lv_at hl 2 rfl) ?_
    refine lv_dup hx hb d_Mo_feed_105 rfl ?_
    refine va_get (D := D) (ci := 8) (v := .int (nI (n + 1 + 1 + 1 + 1 + 1 + 1))) (C := R_Mo) (T := F_Mo) (N := 29) hx hb hts i_Mo hown hZ.1 hP 0 rfl rfl 1 (by decide) (hts _ fl_Mo_48) (fun _ h9 => h9) rfl d_Mo_feed_106 ?_
    refine lv_iconst (v := 1) hx hb d_Mo_feed_109 (by decide) ?_
    refine lv_iadd hx hb d_Mo_feed_110 ?_
    refine lv_tv (y := nI (n + 1 + 1 + 1 + 1 + 1 + 1 + 1)) (nI_add (n + 1 + 1 + 1 + 1 + 1 + 1) 1) ?_
    refine va_put (D := D) (ci := 8) (v := .int (nI (n + 1 + 1 + 1 + 1 + 1 + 1 + 1))) (ty := .int) (C := R_Mo) (T := F_Mo) (N := 29) hx hb hts i_Mo t_Mo t_Mo_ok n_Mo hown hZ.1 hP hD hS 0 rfl rfl 1 (by decide) (hts _ fl_Mo_48) (fun _ h9 => h9) rfl (by decide +kernel) rfl rfl (Nat.le_of_ble_eq_true rfl) d_Mo_feed_111 (fun H locs hP hD hS => ?_)
    have hP : va_P D classes [(mo, .inr (8, [.int 0, .int (nI (n + 1 + 1 + 1 + 1 + 1 + 1 + 1)), .ref m_row, .ref m_shelves, .ref m_many, .ref m_widths, .int (nI mk), .ref m_mark, .int z_shown, .ref m_shownMark, .int z_wasRun, .int z_wrong, .int z_ended, .int (nI sp), .int z_hints, .int z_hasWidth, .int z_width, .int z_first, .int z_moved, .int z_deepest, .int z_x, .int z_y, .int (nI t), .ref m_stack, .ref m_places, .int (nI d), .ref m_kinds, .ref m_ats, .ref m_ends])), (m_row, .inl (cI, 16384, .inl (upd (upd (upd (upd (upd (upd (upd g_row n ((x1 >>> (24 &&& 31)) &&& 255)) (n + 1) ((x1 >>> (16 &&& 31)) &&& 255)) (n + 1 + 1) ((x1 >>> (8 &&& 31)) &&& 255)) (n + 1 + 1 + 1) ((x1 >>> (0 &&& 31)) &&& 255)) (n + 1 + 1 + 1 + 1) ((x2 >>> (24 &&& 31)) &&& 255)) (n + 1 + 1 + 1 + 1 + 1) ((x2 >>> (16 &&& 31)) &&& 255)) (n + 1 + 1 + 1 + 1 + 1 + 1) ((x2 >>> (8 &&& 31)) &&& 255))))] H := hP
    have hD : va_D A_ [(mo, .inr (8, [.int 0, .int (nI (n + 1 + 1 + 1 + 1 + 1 + 1 + 1)), .ref m_row, .ref m_shelves, .ref m_many, .ref m_widths, .int (nI mk), .ref m_mark, .int z_shown, .ref m_shownMark, .int z_wasRun, .int z_wrong, .int z_ended, .int (nI sp), .int z_hints, .int z_hasWidth, .int z_width, .int z_first, .int z_moved, .int z_deepest, .int z_x, .int z_y, .int (nI t), .ref m_stack, .ref m_places, .int (nI d), .ref m_kinds, .ref m_ats, .ref m_ends])), (m_row, .inl (cI, 16384, .inl (upd (upd (upd (upd (upd (upd (upd g_row n ((x1 >>> (24 &&& 31)) &&& 255)) (n + 1) ((x1 >>> (16 &&& 31)) &&& 255)) (n + 1 + 1) ((x1 >>> (8 &&& 31)) &&& 255)) (n + 1 + 1 + 1) ((x1 >>> (0 &&& 31)) &&& 255)) (n + 1 + 1 + 1 + 1) ((x2 >>> (24 &&& 31)) &&& 255)) (n + 1 + 1 + 1 + 1 + 1) ((x2 >>> (16 &&& 31)) &&& 255)) (n + 1 + 1 + 1 + 1 + 1 + 1) ((x2 >>> (8 &&& 31)) &&& 255))))] := hD
    refine lv_iinc (v := 7) (lv' := [(6, .int 7), (7, .int x2), (0, .ref mo), (1, .int x1), (2, .int x2), (3, .int x3), (4, .int x4), (5, .int x5)]) hx hb d_Mo_feed_114 hl (k := 1) rfl (by decide) (by decide) rfl (fun ls hl => ?_)
    refine lv_goto (tgt := 23) hx hb d_Mo_feed_117 (by decide) ?_
    refine lv_iload hx hb d_Mo_feed_23 (lv_at hl 0 rfl) ?_
    refine lv_bipush (v := 20) hx hb d_Mo_feed_25 (by decide) ?_
    refine lv_icmp_ge (tgt := 120) hx hb d_Mo_feed_27 (by decide) (fun c_27 => absurd c_27 (by decide)) (fun c_27 => ?_)
    clear c_27
    refine lv_iload hx hb d_Mo_feed_30 (lv_at hl 0 rfl) ?_
    refine lv_iconst (v := 4) hx hb d_Mo_feed_32 (by decide) ?_
    refine lv_icmp_ge (tgt := 40) hx hb d_Mo_feed_33 (by decide) (fun c_33 => ?_) (fun c_33 => absurd (by decide) c_33)
    clear c_33
    refine lv_iload hx hb d_Mo_feed_40 (lv_at hl 0 rfl) ?_
    refine lv_bipush (v := 8) hx hb d_Mo_feed_42 (by decide) ?_
    refine lv_icmp_ge (tgt := 51) hx hb d_Mo_feed_44 (by decide) (fun c_44 => absurd c_44 (by decide)) (fun c_44 => ?_)
    clear c_44
    refine lv_iload_n hx hb d_Mo_feed_47 rfl (lv_at hl 4 rfl) ?_
    refine lv_goto (tgt := 76) hx hb d_Mo_feed_48 (by decide) ?_
    refine lv_istore (lv' := [(7, .int x2), (6, .int 7), (0, .ref mo), (1, .int x1), (2, .int x2), (3, .int x3), (4, .int x4), (5, .int x5)]) hx hb d_Mo_feed_76 hl (by decide) rfl (fun ls hl => ?_)
    refine lv_aload_n hx hb d_Mo_feed_78 rfl (lv_at hl 2 rfl) ?_
    refine va_get (D := D) (ci := 8) (v := .ref m_row) (C := R_Mo) (T := F_Mo) (N := 29) hx hb hts i_Mo hown hZ.1 hP 0 rfl rfl 2 (by decide) (hts _ fl_Mo_7) (fun _ h9 => h9) rfl d_Mo_feed_79 ?_
    refine lv_aload_n hx hb d_Mo_feed_82 rfl (lv_at hl 2 rfl) ?_
    refine va_get (D := D) (ci := 8) (v := .int (nI (n + 1 + 1 + 1 + 1 + 1 + 1 + 1))) (C := R_Mo) (T := F_Mo) (N := 29) hx hb hts i_Mo hown hZ.1 hP 0 rfl rfl 1 (by decide) (hts _ fl_Mo_48) (fun _ h9 => h9) rfl d_Mo_feed_83 ?_
    refine lv_iload hx hb d_Mo_feed_86 (lv_at hl 0 rfl) ?_
    refine lv_bipush (v := 24) hx hb d_Mo_feed_88 (by decide) ?_
    refine lv_bipush (v := 8) hx hb d_Mo_feed_90 (by decide) ?_
    refine lv_iload hx hb d_Mo_feed_92 (lv_at hl 1 rfl) ?_
    refine lv_iconst (v := 4) hx hb d_Mo_feed_94 (by decide) ?_
    refine lv_irem hx hb d_Mo_feed_95 (by decide) ?_
    refine lv_tv (y := 3) (by decide) ?_
    refine lv_imul hx hb d_Mo_feed_96 ?_
    refine lv_tv (y := 24) (by decide) ?_
    refine lv_isub hx hb d_Mo_feed_97 ?_
    refine lv_tv (y := 0) (by decide) ?_
    refine lv_ishr hx hb d_Mo_feed_98 ?_
    refine lv_sipush (v := 255) hx hb d_Mo_feed_99 (by decide) ?_
    refine lv_iand hx hb d_Mo_feed_102 ?_
    refine va_iast hx hb hZ.1 hP hD hS 1 1 rfl rfl (vp_in_nI (by omega) (by omega)) d_Mo_feed_103 (fun H locs hP hD hS => ?_)
    rw [show ((nI (n + 1 + 1 + 1 + 1 + 1 + 1 + 1)).toNatClampNeg) = n + 1 + 1 + 1 + 1 + 1 + 1 + 1 from nI_clamp (by omega)] at hP hD
    have hP : va_P D classes [(mo, .inr (8, [.int 0, .int (nI (n + 1 + 1 + 1 + 1 + 1 + 1 + 1)), .ref m_row, .ref m_shelves, .ref m_many, .ref m_widths, .int (nI mk), .ref m_mark, .int z_shown, .ref m_shownMark, .int z_wasRun, .int z_wrong, .int z_ended, .int (nI sp), .int z_hints, .int z_hasWidth, .int z_width, .int z_first, .int z_moved, .int z_deepest, .int z_x, .int z_y, .int (nI t), .ref m_stack, .ref m_places, .int (nI d), .ref m_kinds, .ref m_ats, .ref m_ends])), (m_row, .inl (cI, 16384, .inl (upd (upd (upd (upd (upd (upd (upd (upd g_row n ((x1 >>> (24 &&& 31)) &&& 255)) (n + 1) ((x1 >>> (16 &&& 31)) &&& 255)) (n + 1 + 1) ((x1 >>> (8 &&& 31)) &&& 255)) (n + 1 + 1 + 1) ((x1 >>> (0 &&& 31)) &&& 255)) (n + 1 + 1 + 1 + 1) ((x2 >>> (24 &&& 31)) &&& 255)) (n + 1 + 1 + 1 + 1 + 1) ((x2 >>> (16 &&& 31)) &&& 255)) (n + 1 + 1 + 1 + 1 + 1 + 1) ((x2 >>> (8 &&& 31)) &&& 255)) (n + 1 + 1 + 1 + 1 + 1 + 1 + 1) ((x2 >>> (0 &&& 31)) &&& 255))))] H := hP
    have hD : va_D A_ [(mo, .inr (8, [.int 0, .int (nI (n + 1 + 1 + 1 + 1 + 1 + 1 + 1)), .ref m_row, .ref m_shelves, .ref m_many, .ref m_widths, .int (nI mk), .ref m_mark, .int z_shown, .ref m_shownMark, .int z_wasRun, .int z_wrong, .int z_ended, .int (nI sp), .int z_hints, .int z_hasWidth, .int z_width, .int z_first, .int z_moved, .int z_deepest, .int z_x, .int z_y, .int (nI t), .ref m_stack, .ref m_places, .int (nI d), .ref m_kinds, .ref m_ats, .ref m_ends])), (m_row, .inl (cI, 16384, .inl (upd (upd (upd (upd (upd (upd (upd (upd g_row n ((x1 >>> (24 &&& 31)) &&& 255)) (n + 1) ((x1 >>> (16 &&& 31)) &&& 255)) (n + 1 + 1) ((x1 >>> (8 &&& 31)) &&& 255)) (n + 1 + 1 + 1) ((x1 >>> (0 &&& 31)) &&& 255)) (n + 1 + 1 + 1 + 1) ((x2 >>> (24 &&& 31)) &&& 255)) (n + 1 + 1 + 1 + 1 + 1) ((x2 >>> (16 &&& 31)) &&& 255)) (n + 1 + 1 + 1 + 1 + 1 + 1) ((x2 >>> (8 &&& 31)) &&& 255)) (n + 1 + 1 + 1 + 1 + 1 + 1 + 1) ((x2 >>> (0 &&& 31)) &&& 255))))] := hD
    refine lv_aload_n hx hb d_Mo_feed_104 rfl (lv_at hl 2 rfl) ?_
    refine lv_dup hx hb d_Mo_feed_105 rfl ?_
    refine va_get (D := D) (ci := 8) (v := .int (nI (n + 1 + 1 + 1 + 1 + 1 + 1 + 1))) (C := R_Mo) (T := F_Mo) (N := 29) hx hb hts i_Mo hown hZ.1 hP 0 rfl rfl 1 (by decide) (hts _ fl_Mo_48) (fun _ h9 => h9) rfl d_Mo_feed_106 ?_
    refine lv_iconst (v := 1) hx hb d_Mo_feed_109 (by decide) ?_
    refine lv_iadd hx hb d_Mo_feed_110 ?_
    refine lv_tv (y := nI (n + 1 + 1 + 1 + 1 + 1 + 1 + 1 + 1)) (nI_add (n + 1 + 1 + 1 + 1 + 1 + 1 + 1) 1) ?_
    refine va_put (D := D) (ci := 8) (v := .int (nI (n + 1 + 1 + 1 + 1 + 1 + 1 + 1 + 1))) (ty := .int) (C := R_Mo) (T := F_Mo) (N := 29) hx hb hts i_Mo t_Mo t_Mo_ok n_Mo hown hZ.1 hP hD hS 0 rfl rfl 1 (by decide) (hts _ fl_Mo_48) (fun _ h9 => h9) rfl (by decide +kernel) rfl rfl (Nat.le_of_ble_eq_true rfl) d_Mo_feed_111 (fun H locs hP hD hS => ?_)
    have hP : va_P D classes [(mo, .inr (8, [.int 0, .int (nI (n + 1 + 1 + 1 + 1 + 1 + 1 + 1 + 1)), .ref m_row, .ref m_shelves, .ref m_many, .ref m_widths, .int (nI mk), .ref m_mark, .int z_shown, .ref m_shownMark, .int z_wasRun, .int z_wrong, .int z_ended, .int (nI sp), .int z_hints, .int z_hasWidth, .int z_width, .int z_first, .int z_moved, .int z_deepest, .int z_x, .int z_y, .int (nI t), .ref m_stack, .ref m_places, .int (nI d), .ref m_kinds, .ref m_ats, .ref m_ends])), (m_row, .inl (cI, 16384, .inl (upd (upd (upd (upd (upd (upd (upd (upd g_row n ((x1 >>> (24 &&& 31)) &&& 255)) (n + 1) ((x1 >>> (16 &&& 31)) &&& 255)) (n + 1 + 1) ((x1 >>> (8 &&& 31)) &&& 255)) (n + 1 + 1 + 1) ((x1 >>> (0 &&& 31)) &&& 255)) (n + 1 + 1 + 1 + 1) ((x2 >>> (24 &&& 31)) &&& 255)) (n + 1 + 1 + 1 + 1 + 1) ((x2 >>> (16 &&& 31)) &&& 255)) (n + 1 + 1 + 1 + 1 + 1 + 1) ((x2 >>> (8 &&& 31)) &&& 255)) (n + 1 + 1 + 1 + 1 + 1 + 1 + 1) ((x2 >>> (0 &&& 31)) &&& 255))))] H := hP
    have hD : va_D A_ [(mo, .inr (8, [.int 0, .int (nI (n + 1 + 1 + 1 + 1 + 1 + 1 + 1 + 1)), .ref m_row, .ref m_shelves, .ref m_many, .ref m_widths, .int (nI mk), .ref m_mark, .int z_shown, .ref m_shownMark, .int z_wasRun, .int z_wrong, .int z_ended, .int (nI sp), .int z_hints, .int z_hasWidth, .int z_width, .int z_first, .int z_moved, .int z_deepest, .int z_x, .int z_y, .int (nI t), .ref m_stack, .ref m_places, .int (nI d), .ref m_kinds, .ref m_ats, .ref m_ends])), (m_row, .inl (cI, 16384, .inl (upd (upd (upd (upd (upd (upd (upd (upd g_row n ((x1 >>> (24 &&& 31)) &&& 255)) (n + 1) ((x1 >>> (16 &&& 31)) &&& 255)) (n + 1 + 1) ((x1 >>> (8 &&& 31)) &&& 255)) (n + 1 + 1 + 1) ((x1 >>> (0 &&& 31)) &&& 255)) (n + 1 + 1 + 1 + 1) ((x2 >>> (24 &&& 31)) &&& 255)) (n + 1 + 1 + 1 + 1 + 1) ((x2 >>> (16 &&& 31)) &&& 255)) (n + 1 + 1 + 1 + 1 + 1 + 1) ((x2 >>> (8 &&& 31)) &&& 255)) (n + 1 + 1 + 1 + 1 + 1 + 1 + 1) ((x2 >>> (0 &&& 31)) &&& 255))))] := hD
    refine lv_iinc (v := 8) (lv' := [(6, .int 8), (7, .int x2), (0, .ref mo), (1, .int x1), (2, .int x2), (3, .int x3), (4, .int x4), (5, .int x5)]) hx hb d_Mo_feed_114 hl (k := 1) rfl (by decide) (by decide) rfl (fun ls hl => ?_)
    refine lv_goto (tgt := 23) hx hb d_Mo_feed_117 (by decide) ?_
    refine lv_iload hx hb d_Mo_feed_23 (lv_at hl 0 rfl) ?_
    refine lv_bipush (v := 20) hx hb d_Mo_feed_25 (by decide) ?_
    refine lv_icmp_ge (tgt := 120) hx hb d_Mo_feed_27 (by decide) (fun c_27 => absurd c_27 (by decide)) (fun c_27 => ?_)
    clear c_27
    refine lv_iload hx hb d_Mo_feed_30 (lv_at hl 0 rfl) ?_
    refine lv_iconst (v := 4) hx hb d_Mo_feed_32 (by decide) ?_
    refine lv_icmp_ge (tgt := 40) hx hb d_Mo_feed_33 (by decide) (fun c_33 => ?_) (fun c_33 => absurd (by decide) c_33)
    clear c_33
    refine lv_iload hx hb d_Mo_feed_40 (lv_at hl 0 rfl) ?_
    refine lv_bipush (v := 8) hx hb d_Mo_feed_42 (by decide) ?_
    refine lv_icmp_ge (tgt := 51) hx hb d_Mo_feed_44 (by decide) (fun c_44 => ?_) (fun c_44 => absurd (by decide) c_44)
    clear c_44
    refine lv_iload hx hb d_Mo_feed_51 (lv_at hl 0 rfl) ?_
    refine lv_bipush (v := 12) hx hb d_Mo_feed_53 (by decide) ?_
    refine lv_icmp_ge (tgt := 62) hx hb d_Mo_feed_55 (by decide) (fun c_55 => absurd c_55 (by decide)) (fun c_55 => ?_)
    clear c_55
    refine lv_iload_n hx hb d_Mo_feed_58 rfl (lv_at hl 5 rfl) ?_
    refine lv_goto (tgt := 76) hx hb d_Mo_feed_59 (by decide) ?_
    refine lv_istore (lv' := [(7, .int x3), (6, .int 8), (0, .ref mo), (1, .int x1), (2, .int x2), (3, .int x3), (4, .int x4), (5, .int x5)]) hx hb d_Mo_feed_76 hl (by decide) rfl (fun ls hl => ?_)
    refine lv_aload_n hx hb d_Mo_feed_78 rfl (lv_at hl 2 rfl) ?_
    refine va_get (D := D) (ci := 8) (v := .ref m_row) (C := R_Mo) (T := F_Mo) (N := 29) hx hb hts i_Mo hown hZ.1 hP 0 rfl rfl 2 (by decide) (hts _ fl_Mo_7) (fun _ h9 => h9) rfl d_Mo_feed_79 ?_
    refine lv_aload_n hx hb d_Mo_feed_82 rfl (lv_at hl 2 rfl) ?_
    refine va_get (D := D) (ci := 8) (v := .int (nI (n + 1 + 1 + 1 + 1 + 1 + 1 + 1 + 1))) (C := R_Mo) (T := F_Mo) (N := 29) hx hb hts i_Mo hown hZ.1 hP 0 rfl rfl 1 (by decide) (hts _ fl_Mo_48) (fun _ h9 => h9) rfl d_Mo_feed_83 ?_
    refine lv_iload hx hb d_Mo_feed_86 (lv_at hl 0 rfl) ?_
    refine lv_bipush (v := 24) hx hb d_Mo_feed_88 (by decide) ?_
    refine lv_bipush (v := 8) hx hb d_Mo_feed_90 (by decide) ?_
    refine lv_iload hx hb d_Mo_feed_92 (lv_at hl 1 rfl) ?_
    refine lv_iconst (v := 4) hx hb d_Mo_feed_94 (by decide) ?_
    refine lv_irem hx hb d_Mo_feed_95 (by decide) ?_
    refine lv_tv (y := 0) (by decide) ?_
    refine lv_imul hx hb d_Mo_feed_96 ?_
    refine lv_tv (y := 0) (by decide) ?_
    refine lv_isub hx hb d_Mo_feed_97 ?_
    refine lv_tv (y := 24) (by decide) ?_
    refine lv_ishr hx hb d_Mo_feed_98 ?_
    refine lv_sipush (v := 255) hx hb d_Mo_feed_99 (by decide) ?_
    refine lv_iand hx hb d_Mo_feed_102 ?_
    refine va_iast hx hb hZ.1 hP hD hS 1 1 rfl rfl (vp_in_nI (by omega) (by omega)) d_Mo_feed_103 (fun H locs hP hD hS => ?_)
    rw [show ((nI (n + 1 + 1 + 1 + 1 + 1 + 1 + 1 + 1)).toNatClampNeg) = n + 1 + 1 + 1 + 1 + 1 + 1 + 1 + 1 from nI_clamp (by omega)] at hP hD
    have hP : va_P D classes [(mo, .inr (8, [.int 0, .int (nI (n + 1 + 1 + 1 + 1 + 1 + 1 + 1 + 1)), .ref m_row, .ref m_shelves, .ref m_many, .ref m_widths, .int (nI mk), .ref m_mark, .int z_shown, .ref m_shownMark, .int z_wasRun, .int z_wrong, .int z_ended, .int (nI sp), .int z_hints, .int z_hasWidth, .int z_width, .int z_first, .int z_moved, .int z_deepest, .int z_x, .int z_y, .int (nI t), .ref m_stack, .ref m_places, .int (nI d), .ref m_kinds, .ref m_ats, .ref m_ends])), (m_row, .inl (cI, 16384, .inl (upd (upd (upd (upd (upd (upd (upd (upd (upd g_row n ((x1 >>> (24 &&& 31)) &&& 255)) (n + 1) ((x1 >>> (16 &&& 31)) &&& 255)) (n + 1 + 1) ((x1 >>> (8 &&& 31)) &&& 255)) (n + 1 + 1 + 1) ((x1 >>> (0 &&& 31)) &&& 255)) (n + 1 + 1 + 1 + 1) ((x2 >>> (24 &&& 31)) &&& 255)) (n + 1 + 1 + 1 + 1 + 1) ((x2 >>> (16 &&& 31)) &&& 255)) (n + 1 + 1 + 1 + 1 + 1 + 1) ((x2 >>> (8 &&& 31)) &&& 255)) (n + 1 + 1 + 1 + 1 + 1 + 1 + 1) ((x2 >>> (0 &&& 31)) &&& 255)) (n + 1 + 1 + 1 + 1 + 1 + 1 + 1 + 1) ((x3 >>> (24 &&& 31)) &&& 255))))] H := hP
    have hD : va_D A_ [(mo, .inr (8, [.int 0, .int (nI (n + 1 + 1 + 1 + 1 + 1 + 1 + 1 + 1)), .ref m_row, .ref m_shelves, .ref m_many, .ref m_widths, .int (nI mk), .ref m_mark, .int z_shown, .ref m_shownMark, .int z_wasRun, .int z_wrong, .int z_ended, .int (nI sp), .int z_hints, .int z_hasWidth, .int z_width, .int z_first, .int z_moved, .int z_deepest, .int z_x, .int z_y, .int (nI t), .ref m_stack, .ref m_places, .int (nI d), .ref m_kinds, .ref m_ats, .ref m_ends])), (m_row, .inl (cI, 16384, .inl (upd (upd (upd (upd (upd (upd (upd (upd (upd g_row n ((x1 >>> (24 &&& 31)) &&& 255)) (n + 1) ((x1 >>> (16 &&& 31)) &&& 255)) (n + 1 + 1) ((x1 >>> (8 &&& 31)) &&& 255)) (n + 1 + 1 + 1) ((x1 >>> (0 &&& 31)) &&& 255)) (n + 1 + 1 + 1 + 1) ((x2 >>> (24 &&& 31)) &&& 255)) (n + 1 + 1 + 1 + 1 + 1) ((x2 >>> (16 &&& 31)) &&& 255)) (n + 1 + 1 + 1 + 1 + 1 + 1) ((x2 >>> (8 &&& 31)) &&& 255)) (n + 1 + 1 + 1 + 1 + 1 + 1 + 1) ((x2 >>> (0 &&& 31)) &&& 255)) (n + 1 + 1 + 1 + 1 + 1 + 1 + 1 + 1) ((x3 >>> (24 &&& 31)) &&& 255))))] := hD
    refine lv_aload_n hx hb d_Mo_feed_104 rfl (lv_at hl 2 rfl) ?_
    refine lv_dup hx hb d_Mo_feed_105 rfl ?_
    refine va_get (D := D) (ci := 8) (v := .int (nI (n + 1 + 1 + 1 + 1 + 1 + 1 + 1 + 1))) (C := R_Mo) (T := F_Mo) (N := 29) hx hb hts i_Mo hown hZ.1 hP 0 rfl rfl 1 (by decide) (hts _ fl_Mo_48) (fun _ h9 => h9) rfl d_Mo_feed_106 ?_
    refine lv_iconst (v := 1) hx hb d_Mo_feed_109 (by decide) ?_
    refine lv_iadd hx hb d_Mo_feed_110 ?_
    refine lv_tv (y := nI (n + 1 + 1 + 1 + 1 + 1 + 1 + 1 + 1 + 1)) (nI_add (n + 1 + 1 + 1 + 1 + 1 + 1 + 1 + 1) 1) ?_
    refine va_put (D := D) (ci := 8) (v := .int (nI (n + 1 + 1 + 1 + 1 + 1 + 1 + 1 + 1 + 1))) (ty := .int) (C := R_Mo) (T := F_Mo) (N := 29) hx hb hts i_Mo t_Mo t_Mo_ok n_Mo hown hZ.1 hP hD hS 0 rfl rfl 1 (by decide) (hts _ fl_Mo_48) (fun _ h9 => h9) rfl (by decide +kernel) rfl rfl (Nat.le_of_ble_eq_true rfl) d_Mo_feed_111 (fun H locs hP hD hS => ?_)
    have hP : va_P D classes [(mo, .inr (8, [.int 0, .int (nI (n + 1 + 1 + 1 + 1 + 1 + 1 + 1 + 1 + 1)), .ref m_row, .ref m_shelves, .ref m_many, .ref m_widths, .int (nI mk), .ref m_mark, .int z_shown, .ref m_shownMark, .int z_wasRun, .int z_wrong, .int z_ended, .int (nI sp), .int z_hints, .int z_hasWidth, .int z_width, .int z_first, .int z_moved, .int z_deepest, .int z_x, .int z_y, .int (nI t), .ref m_stack, .ref m_places, .int (nI d), .ref m_kinds, .ref m_ats, .ref m_ends])), (m_row, .inl (cI, 16384, .inl (upd (upd (upd (upd (upd (upd (upd (upd (upd g_row n ((x1 >>> (24 &&& 31)) &&& 255)) (n + 1) ((x1 >>> (16 &&& 31)) &&& 255)) (n + 1 + 1) ((x1 >>> (8 &&& 31)) &&& 255)) (n + 1 + 1 + 1) ((x1 >>> (0 &&& 31)) &&& 255)) (n + 1 + 1 + 1 + 1) ((x2 >>> (24 &&& 31)) &&& 255)) (n + 1 + 1 + 1 + 1 + 1) ((x2 >>> (16 &&& 31)) &&& 255)) (n + 1 + 1 + 1 + 1 + 1 + 1) ((x2 >>> (8 &&& 31)) &&& 255)) (n + 1 + 1 + 1 + 1 + 1 + 1 + 1) ((x2 >>> (0 &&& 31)) &&& 255)) (n + 1 + 1 + 1 + 1 + 1 + 1 + 1 + 1) ((x3 >>> (24 &&& 31)) &&& 255))))] H := hP
    have hD : va_D A_ [(mo, .inr (8, [.int 0, .int (nI (n + 1 + 1 + 1 + 1 + 1 + 1 + 1 + 1 + 1)), .ref m_row, .ref m_shelves, .ref m_many, .ref m_widths, .int (nI mk), .ref m_mark, .int z_shown, .ref m_shownMark, .int z_wasRun, .int z_wrong, .int z_ended, .int (nI sp), .int z_hints, .int z_hasWidth, .int z_width, .int z_first, .int z_moved, .int z_deepest, .int z_x, .int z_y, .int (nI t), .ref m_stack, .ref m_places, .int (nI d), .ref m_kinds, .ref m_ats, .ref m_ends])), (m_row, .inl (cI, 16384, .inl (upd (upd (upd (upd (upd (upd (upd (upd (upd g_row n ((x1 >>> (24 &&& 31)) &&& 255)) (n + 1) ((x1 >>> (16 &&& 31)) &&& 255)) (n + 1 + 1) ((x1 >>> (8 &&& 31)) &&& 255)) (n + 1 + 1 + 1) ((x1 >>> (0 &&& 31)) &&& 255)) (n + 1 + 1 + 1 + 1) ((x2 >>> (24 &&& 31)) &&& 255)) (n + 1 + 1 + 1 + 1 + 1) ((x2 >>> (16 &&& 31)) &&& 255)) (n + 1 + 1 + 1 + 1 + 1 + 1) ((x2 >>> (8 &&& 31)) &&& 255)) (n + 1 + 1 + 1 + 1 + 1 + 1 + 1) ((x2 >>> (0 &&& 31)) &&& 255)) (n + 1 + 1 + 1 + 1 + 1 + 1 + 1 + 1) ((x3 >>> (24 &&& 31)) &&& 255))))] := hD
    refine lv_iinc (v := 9) (lv' := [(6, .int 9), (7, .int x3), (0, .ref mo), (1, .int x1), (2, .int x2), (3, .int x3), (4, .int x4), (5, .int x5)]) hx hb d_Mo_feed_114 hl (k := 1) rfl (by decide) (by decide) rfl (fun ls hl => ?_)
    refine lv_goto (tgt := 23) hx hb d_Mo_feed_117 (by decide) ?_
    refine lv_iload hx hb d_Mo_feed_23 (lv_at hl 0 rfl) ?_
    refine lv_bipush (v := 20) hx hb d_Mo_feed_25 (by decide) ?_
    refine lv_icmp_ge (tgt := 120) hx hb d_Mo_feed_27 (by decide) (fun c_27 => absurd c_27 (by decide)) (fun c_27 => ?_)
    clear c_27
    refine lv_iload hx hb d_Mo_feed_30 (lv_at hl 0 rfl) ?_
    refine lv_iconst (v := 4) hx hb d_Mo_feed_32 (by decide) ?_
    refine lv_icmp_ge (tgt := 40) hx hb d_Mo_feed_33 (by decide) (fun c_33 => ?_) (fun c_33 => absurd (by decide) c_33)
    clear c_33
    refine lv_iload hx hb d_Mo_feed_40 (lv_at hl 0 rfl) ?_
    refine lv_bipush (v := 8) hx hb d_Mo_feed_42 (by decide) ?_
    refine lv_icmp_ge (tgt := 51) hx hb d_Mo_feed_44 (by decide) (fun c_44 => ?_) (fun c_44 => absurd (by decide) c_44)
    clear c_44
    refine lv_iload hx hb d_Mo_feed_51 (lv_at hl 0 rfl) ?_
    refine lv_bipush (v := 12) hx hb d_Mo_feed_53 (by decide) ?_
    refine lv_icmp_ge (tgt := 62) hx hb d_Mo_feed_55 (by decide) (fun c_55 => absurd c_55 (by decide)) (fun c_55 => ?_)
    clear c_55
    refine lv_iload_n hx hb d_Mo_feed_58 rfl (lv_at hl 5 rfl) ?_
    refine lv_goto (tgt := 76) hx hb d_Mo_feed_59 (by decide) ?_
    refine lv_istore (lv' := [(7, .int x3), (6, .int 9), (0, .ref mo), (1, .int x1), (2, .int x2), (3, .int x3), (4, .int x4), (5, .int x5)]) hx hb d_Mo_feed_76 hl (by decide) rfl (fun ls hl => ?_)
    refine lv_aload_n hx hb d_Mo_feed_78 rfl (lv_at hl 2 rfl) ?_
    refine va_get (D := D) (ci := 8) (v := .ref m_row) (C := R_Mo) (T := F_Mo) (N := 29) hx hb hts i_Mo hown hZ.1 hP 0 rfl rfl 2 (by decide) (hts _ fl_Mo_7) (fun _ h9 => h9) rfl d_Mo_feed_79 ?_
    refine lv_aload_n hx hb d_Mo_feed_82 rfl (lv_at hl 2 rfl) ?_
    refine va_get (D := D) (ci := 8) (v := .int (nI (n + 1 + 1 + 1 + 1 + 1 + 1 + 1 + 1 + 1))) (C := R_Mo) (T := F_Mo) (N := 29) hx hb hts i_Mo hown hZ.1 hP 0 rfl rfl 1 (by decide) (hts _ fl_Mo_48) (fun _ h9 => h9) rfl d_Mo_feed_83 ?_
    refine lv_iload hx hb d_Mo_feed_86 (lv_at hl 0 rfl) ?_
    refine lv_bipush (v := 24) hx hb d_Mo_feed_88 (by decide) ?_
    refine lv_bipush (v := 8) hx hb d_Mo_feed_90 (by decide) ?_
    refine lv_iload hx hb d_Mo_feed_92 (lv_at hl 1 rfl) ?_
    refine lv_iconst (v := 4) hx hb d_Mo_feed_94 (by decide) ?_
    refine lv_irem hx hb d_Mo_feed_95 (by decide) ?_
    refine lv_tv (y := 1) (by decide) ?_
    refine lv_imul hx hb d_Mo_feed_96 ?_
    refine lv_tv (y := 8) (by decide) ?_
    refine lv_isub hx hb d_Mo_feed_97 ?_
    refine lv_tv (y := 16) (by decide) ?_
    refine lv_ishr hx hb d_Mo_feed_98 ?_
    refine lv_sipush (v := 255) hx hb d_Mo_feed_99 (by decide) ?_
    refine lv_iand hx hb d_Mo_feed_102 ?_
    refine va_iast hx hb hZ.1 hP hD hS 1 1 rfl rfl (vp_in_nI (by omega) (by omega)) d_Mo_feed_103 (fun H locs hP hD hS => ?_)
    rw [show ((nI (n + 1 + 1 + 1 + 1 + 1 + 1 + 1 + 1 + 1)).toNatClampNeg) = n + 1 + 1 + 1 + 1 + 1 + 1 + 1 + 1 + 1 from nI_clamp (by omega)] at hP hD
    have hP : va_P D classes [(mo, .inr (8, [.int 0, .int (nI (n + 1 + 1 + 1 + 1 + 1 + 1 + 1 + 1 + 1)), .ref m_row, .ref m_shelves, .ref m_many, .ref m_widths, .int (nI mk), .ref m_mark, .int z_shown, .ref m_shownMark, .int z_wasRun, .int z_wrong, .int z_ended, .int (nI sp), .int z_hints, .int z_hasWidth, .int z_width, .int z_first, .int z_moved, .int z_deepest, .int z_x, .int z_y, .int (nI t), .ref m_stack, .ref m_places, .int (nI d), .ref m_kinds, .ref m_ats, .ref m_ends])), (m_row, .inl (cI, 16384, .inl (upd (upd (upd (upd (upd (upd (upd (upd (upd (upd g_row n ((x1 >>> (24 &&& 31)) &&& 255)) (n + 1) ((x1 >>> (16 &&& 31)) &&& 255)) (n + 1 + 1) ((x1 >>> (8 &&& 31)) &&& 255)) (n + 1 + 1 + 1) ((x1 >>> (0 &&& 31)) &&& 255)) (n + 1 + 1 + 1 + 1) ((x2 >>> (24 &&& 31)) &&& 255)) (n + 1 + 1 + 1 + 1 + 1) ((x2 >>> (16 &&& 31)) &&& 255)) (n + 1 + 1 + 1 + 1 + 1 + 1) ((x2 >>> (8 &&& 31)) &&& 255)) (n + 1 + 1 + 1 + 1 + 1 + 1 + 1) ((x2 >>> (0 &&& 31)) &&& 255)) (n + 1 + 1 + 1 + 1 + 1 + 1 + 1 + 1) ((x3 >>> (24 &&& 31)) &&& 255)) (n + 1 + 1 + 1 + 1 + 1 + 1 + 1 + 1 + 1) ((x3 >>> (16 &&& 31)) &&& 255))))] H := hP
    have hD : va_D A_ [(mo, .inr (8, [.int 0, .int (nI (n + 1 + 1 + 1 + 1 + 1 + 1 + 1 + 1 + 1)), .ref m_row, .ref m_shelves, .ref m_many, .ref m_widths, .int (nI mk), .ref m_mark, .int z_shown, .ref m_shownMark, .int z_wasRun, .int z_wrong, .int z_ended, .int (nI sp), .int z_hints, .int z_hasWidth, .int z_width, .int z_first, .int z_moved, .int z_deepest, .int z_x, .int z_y, .int (nI t), .ref m_stack, .ref m_places, .int (nI d), .ref m_kinds, .ref m_ats, .ref m_ends])), (m_row, .inl (cI, 16384, .inl (upd (upd (upd (upd (upd (upd (upd (upd (upd (upd g_row n ((x1 >>> (24 &&& 31)) &&& 255)) (n + 1) ((x1 >>> (16 &&& 31)) &&& 255)) (n + 1 + 1) ((x1 >>> (8 &&& 31)) &&& 255)) (n + 1 + 1 + 1) ((x1 >>> (0 &&& 31)) &&& 255)) (n + 1 + 1 + 1 + 1) ((x2 >>> (24 &&& 31)) &&& 255)) (n + 1 + 1 + 1 + 1 + 1) ((x2 >>> (16 &&& 31)) &&& 255)) (n + 1 + 1 + 1 + 1 + 1 + 1) ((x2 >>> (8 &&& 31)) &&& 255)) (n + 1 + 1 + 1 + 1 + 1 + 1 + 1) ((x2 >>> (0 &&& 31)) &&& 255)) (n + 1 + 1 + 1 + 1 + 1 + 1 + 1 + 1) ((x3 >>> (24 &&& 31)) &&& 255)) (n + 1 + 1 + 1 + 1 + 1 + 1 + 1 + 1 + 1) ((x3 >>> (16 &&& 31)) &&& 255))))] := hD
    refine lv_aload_n hx hb d_Mo_feed_104 rfl (lv_at hl 2 rfl) ?_
    refine lv_dup hx hb d_Mo_feed_105 rfl ?_
    refine va_get (D := D) (ci := 8) (v := .int (nI (n + 1 + 1 + 1 + 1 + 1 + 1 + 1 + 1 + 1))) (C := R_Mo) (T := F_Mo) (N := 29) hx hb hts i_Mo hown hZ.1 hP 0 rfl rfl 1 (by decide) (hts _ fl_Mo_48) (fun _ h9 => h9) rfl d_Mo_feed_106 ?_
    refine lv_iconst (v := 1) hx hb d_Mo_feed_109 (by decide) ?_
    refine lv_iadd hx hb d_Mo_feed_110 ?_
    refine lv_tv (y := nI (n + 1 + 1 + 1 + 1 + 1 + 1 + 1 + 1 + 1 + 1)) (nI_add (n + 1 + 1 + 1 + 1 + 1 + 1 + 1 + 1 + 1) 1) ?_
    refine va_put (D := D) (ci := 8) (v := .int (nI (n + 1 + 1 + 1 + 1 + 1 + 1 + 1 + 1 + 1 + 1))) (ty := .int) (C := R_Mo) (T := F_Mo) (N := 29) hx hb hts i_Mo t_Mo t_Mo_ok n_Mo hown hZ.1 hP hD hS 0 rfl rfl 1 (by decide) (hts _ fl_Mo_48) (fun _ h9 => h9) rfl (by decide +kernel) rfl rfl (Nat.le_of_ble_eq_true rfl) d_Mo_feed_111 (fun H locs hP hD hS => ?_)
    have hP : va_P D classes [(mo, .inr (8, [.int 0, .int (nI (n + 1 + 1 + 1 + 1 + 1 + 1 + 1 + 1 + 1 + 1)), .ref m_row, .ref m_shelves, .ref m_many, .ref m_widths, .int (nI mk), .ref m_mark, .int z_shown, .ref m_shownMark, .int z_wasRun, .int z_wrong, .int z_ended, .int (nI sp), .int z_hints, .int z_hasWidth, .int z_width, .int z_first, .int z_moved, .int z_deepest, .int z_x, .int z_y, .int (nI t), .ref m_stack, .ref m_places, .int (nI d), .ref m_kinds, .ref m_ats, .ref m_ends])), (m_row, .inl (cI, 16384, .inl (upd (upd (upd (upd (upd (upd (upd (upd (upd (upd g_row n ((x1 >>> (24 &&& 31)) &&& 255)) (n + 1) ((x1 >>> (16 &&& 31)) &&& 255)) (n + 1 + 1) ((x1 >>> (8 &&& 31)) &&& 255)) (n + 1 + 1 + 1) ((x1 >>> (0 &&& 31)) &&& 255)) (n + 1 + 1 + 1 + 1) ((x2 >>> (24 &&& 31)) &&& 255)) (n + 1 + 1 + 1 + 1 + 1) ((x2 >>> (16 &&& 31)) &&& 255)) (n + 1 + 1 + 1 + 1 + 1 + 1) ((x2 >>> (8 &&& 31)) &&& 255)) (n + 1 + 1 + 1 + 1 + 1 + 1 + 1) ((x2 >>> (0 &&& 31)) &&& 255)) (n + 1 + 1 + 1 + 1 + 1 + 1 + 1 + 1) ((x3 >>> (24 &&& 31)) &&& 255)) (n + 1 + 1 + 1 + 1 + 1 + 1 + 1 + 1 + 1) ((x3 >>> (16 &&& 31)) &&& 255))))] H := hP
    have hD : va_D A_ [(mo, .inr (8, [.int 0, .int (nI (n + 1 + 1 + 1 + 1 + 1 + 1 + 1 + 1 + 1 + 1)), .ref m_row, .ref m_shelves, .ref m_many, .ref m_widths, .int (nI mk), .ref m_mark, .int z_shown, .ref m_shownMark, .int z_wasRun, .int z_wrong, .int z_ended, .int (nI sp), .int z_hints, .int z_hasWidth, .int z_width, .int z_first, .int z_moved, .int z_deepest, .int z_x, .int z_y, .int (nI t), .ref m_stack, .ref m_places, .int (nI d), .ref m_kinds, .ref m_ats, .ref m_ends])), (m_row, .inl (cI, 16384, .inl (upd (upd (upd (upd (upd (upd (upd (upd (upd (upd g_row n ((x1 >>> (24 &&& 31)) &&& 255)) (n + 1) ((x1 >>> (16 &&& 31)) &&& 255)) (n + 1 + 1) ((x1 >>> (8 &&& 31)) &&& 255)) (n + 1 + 1 + 1) ((x1 >>> (0 &&& 31)) &&& 255)) (n + 1 + 1 + 1 + 1) ((x2 >>> (24 &&& 31)) &&& 255)) (n + 1 + 1 + 1 + 1 + 1) ((x2 >>> (16 &&& 31)) &&& 255)) (n + 1 + 1 + 1 + 1 + 1 + 1) ((x2 >>> (8 &&& 31)) &&& 255)) (n + 1 + 1 + 1 + 1 + 1 + 1 + 1) ((x2 >>> (0 &&& 31)) &&& 255)) (n + 1 + 1 + 1 + 1 + 1 + 1 + 1 + 1) ((x3 >>> (24 &&& 31)) &&& 255)) (n + 1 + 1 + 1 + 1 + 1 + 1 + 1 + 1 + 1) ((x3 >>> (16 &&& 31)) &&& 255))))] := hD
    refine lv_iinc (v := 10) (lv' := [(6, .int 10), (7, .int x3), (0, .ref mo), (1, .int x1), (2, .int x2), (3, .int x3), (4, .int x4), (5, .int x5)]) hx hb d_Mo_feed_114 hl (k := 1) rfl (by decide) (by decide) rfl (fun ls hl => ?_)
    refine lv_goto (tgt := 23) hx hb d_Mo_feed_117 (by decide) ?_
    refine lv_iload hx hb d_Mo_feed_23 (lv_at hl 0 rfl) ?_
    refine lv_bipush (v := 20) hx hb d_Mo_feed_25 (by decide) ?_
    refine lv_icmp_ge (tgt := 120) hx hb d_Mo_feed_27 (by decide) (fun c_27 => absurd c_27 (by decide)) (fun c_27 => ?_)
    clear c_27
    refine lv_iload hx hb d_Mo_feed_30 (lv_at hl 0 rfl) ?_
    refine lv_iconst (v := 4) hx hb d_Mo_feed_32 (by decide) ?_
    refine lv_icmp_ge (tgt := 40) hx hb d_Mo_feed_33 (by decide) (fun c_33 => ?_) (fun c_33 => absurd (by decide) c_33)
    clear c_33
    refine lv_iload hx hb d_Mo_feed_40 (lv_at hl 0 rfl) ?_
    refine lv_bipush (v := 8) hx hb d_Mo_feed_42 (by decide) ?_
    refine lv_icmp_ge (tgt := 51) hx hb d_Mo_feed_44 (by decide) (fun c_44 => ?_) (fun c_44 => absurd (by decide) c_44)
    clear c_44
    refine lv_iload hx hb d_Mo_feed_51 (lv_at hl 0 rfl) ?_
    refine lv_bipush (v := 12) hx hb d_Mo_feed_53 (by decide) ?_
    refine lv_icmp_ge (tgt := 62) hx hb d_Mo_feed_55 (by decide) (fun c_55 => absurd c_55 (by decide)) (fun c_55 => ?_)
    clear c_55
    refine lv_iload_n hx hb d_Mo_feed_58 rfl (lv_at hl 5 rfl) ?_
    refine lv_goto (tgt := 76) hx hb d_Mo_feed_59 (by decide) ?_
    refine lv_istore (lv' := [(7, .int x3), (6, .int 10), (0, .ref mo), (1, .int x1), (2, .int x2), (3, .int x3), (4, .int x4), (5, .int x5)]) hx hb d_Mo_feed_76 hl (by decide) rfl (fun ls hl => ?_)
    refine lv_aload_n hx hb d_Mo_feed_78 rfl (lv_at hl 2 rfl) ?_
    refine va_get (D := D) (ci := 8) (v := .ref m_row) (C := R_Mo) (T := F_Mo) (N := 29) hx hb hts i_Mo hown hZ.1 hP 0 rfl rfl 2 (by decide) (hts _ fl_Mo_7) (fun _ h9 => h9) rfl d_Mo_feed_79 ?_
    refine lv_aload_n hx hb d_Mo_feed_82 rfl (lv_at hl 2 rfl) ?_
    refine va_get (D := D) (ci := 8) (v := .int (nI (n + 1 + 1 + 1 + 1 + 1 + 1 + 1 + 1 + 1 + 1))) (C := R_Mo) (T := F_Mo) (N := 29) hx hb hts i_Mo hown hZ.1 hP 0 rfl rfl 1 (by decide) (hts _ fl_Mo_48) (fun _ h9 => h9) rfl d_Mo_feed_83 ?_
    refine lv_iload hx hb d_Mo_feed_86 (lv_at hl 0 rfl) ?_
    refine lv_bipush (v := 24) hx hb d_Mo_feed_88 (by decide) ?_
    refine lv_bipush (v := 8) hx hb d_Mo_feed_90 (by decide) ?_
    refine lv_iload hx hb d_Mo_feed_92 (lv_at hl 1 rfl) ?_
    refine lv_iconst (v := 4) hx hb d_Mo_feed_94 (by decide) ?_
    refine lv_irem hx hb d_Mo_feed_95 (by decide) ?_
    refine lv_tv (y := 2) (by decide) ?_
    refine lv_imul hx hb d_Mo_feed_96 ?_
    refine lv_tv (y := 16) (by decide) ?_
    refine lv_isub hx hb d_Mo_feed_97 ?_
    refine lv_tv (y := 8) (by decide) ?_
    refine lv_ishr hx hb d_Mo_feed_98 ?_
    refine lv_sipush (v := 255) hx hb d_Mo_feed_99 (by decide) ?_
    refine lv_iand hx hb d_Mo_feed_102 ?_
    refine va_iast hx hb hZ.1 hP hD hS 1 1 rfl rfl (vp_in_nI (by omega) (by omega)) d_Mo_feed_103 (fun H locs hP hD hS => ?_)
    rw [show ((nI (n + 1 + 1 + 1 + 1 + 1 + 1 + 1 + 1 + 1 + 1)).toNatClampNeg) = n + 1 + 1 + 1 + 1 + 1 + 1 + 1 + 1 + 1 + 1 from nI_clamp (by omega)] at hP hD
    have hP : va_P D classes [(mo, .inr (8, [.int 0, .int (nI (n + 1 + 1 + 1 + 1 + 1 + 1 + 1 + 1 + 1 + 1)), .ref m_row, .ref m_shelves, .ref m_many, .ref m_widths, .int (nI mk), .ref m_mark, .int z_shown, .ref m_shownMark, .int z_wasRun, .int z_wrong, .int z_ended, .int (nI sp), .int z_hints, .int z_hasWidth, .int z_width, .int z_first, .int z_moved, .int z_deepest, .int z_x, .int z_y, .int (nI t), .ref m_stack, .ref m_places, .int (nI d), .ref m_kinds, .ref m_ats, .ref m_ends])), (m_row, .inl (cI, 16384, .inl (upd (upd (upd (upd (upd (upd (upd (upd (upd (upd (upd g_row n ((x1 >>> (24 &&& 31)) &&& 255)) (n + 1) ((x1 >>> (16 &&& 31)) &&& 255)) (n + 1 + 1) ((x1 >>> (8 &&& 31)) &&& 255)) (n + 1 + 1 + 1) ((x1 >>> (0 &&& 31)) &&& 255)) (n + 1 + 1 + 1 + 1) ((x2 >>> (24 &&& 31)) &&& 255)) (n + 1 + 1 + 1 + 1 + 1) ((x2 >>> (16 &&& 31)) &&& 255)) (n + 1 + 1 + 1 + 1 + 1 + 1) ((x2 >>> (8 &&& 31)) &&& 255)) (n + 1 + 1 + 1 + 1 + 1 + 1 + 1) ((x2 >>> (0 &&& 31)) &&& 255)) (n + 1 + 1 + 1 + 1 + 1 + 1 + 1 + 1) ((x3 >>> (24 &&& 31)) &&& 255)) (n + 1 + 1 + 1 + 1 + 1 + 1 + 1 + 1 + 1) ((x3 >>> (16 &&& 31)) &&& 255)) (n + 1 + 1 + 1 + 1 + 1 + 1 + 1 + 1 + 1 + 1) ((x3 >>> (8 &&& 31)) &&& 255))))] H := hP
    have hD : va_D A_ [(mo, .inr (8, [.int 0, .int (nI (n + 1 + 1 + 1 + 1 + 1 + 1 + 1 + 1 + 1 + 1)), .ref m_row, .ref m_shelves, .ref m_many, .ref m_widths, .int (nI mk), .ref m_mark, .int z_shown, .ref m_shownMark, .int z_wasRun, .int z_wrong, .int z_ended, .int (nI sp), .int z_hints, .int z_hasWidth, .int z_width, .int z_first, .int z_moved, .int z_deepest, .int z_x, .int z_y, .int (nI t), .ref m_stack, .ref m_places, .int (nI d), .ref m_kinds, .ref m_ats, .ref m_ends])), (m_row, .inl (cI, 16384, .inl (upd (upd (upd (upd (upd (upd (upd (upd (upd (upd (upd g_row n ((x1 >>> (24 &&& 31)) &&& 255)) (n + 1) ((x1 >>> (16 &&& 31)) &&& 255)) (n + 1 + 1) ((x1 >>> (8 &&& 31)) &&& 255)) (n + 1 + 1 + 1) ((x1 >>> (0 &&& 31)) &&& 255)) (n + 1 + 1 + 1 + 1) ((x2 >>> (24 &&& 31)) &&& 255)) (n + 1 + 1 + 1 + 1 + 1) ((x2 >>> (16 &&& 31)) &&& 255)) (n + 1 + 1 + 1 + 1 + 1 + 1) ((x2 >>> (8 &&& 31)) &&& 255)) (n + 1 + 1 + 1 + 1 + 1 + 1 + 1) ((x2 >>> (0 &&& 31)) &&& 255)) (n + 1 + 1 + 1 + 1 + 1 + 1 + 1 + 1) ((x3 >>> (24 &&& 31)) &&& 255)) (n + 1 + 1 + 1 + 1 + 1 + 1 + 1 + 1 + 1) ((x3 >>> (16 &&& 31)) &&& 255)) (n + 1 + 1 + 1 + 1 + 1 + 1 + 1 + 1 + 1 + 1) ((x3 >>> (8 &&& 31)) &&& 255))))] := hD
    refine lv_aload_n hx hb d_Mo_feed_104 rfl (lv_at hl 2 rfl) ?_
    refine lv_dup hx hb d_Mo_feed_105 rfl ?_
    refine va_get (D := D) (ci := 8) (v := .int (nI (n + 1 + 1 + 1 + 1 + 1 + 1 + 1 + 1 + 1 + 1))) (C := R_Mo) (T := F_Mo) (N := 29) hx hb hts i_Mo hown hZ.1 hP 0 rfl rfl 1 (by decide) (hts _ fl_Mo_48) (fun _ h9 => h9) rfl d_Mo_feed_106 ?_
    refine lv_iconst (v := 1) hx hb d_Mo_feed_109 (by decide) ?_
    refine lv_iadd hx hb d_Mo_feed_110 ?_
    refine lv_tv (y := nI (n + 1 + 1 + 1 + 1 + 1 + 1 + 1 + 1 + 1 + 1 + 1)) (nI_add (n + 1 + 1 + 1 + 1 + 1 + 1 + 1 + 1 + 1 + 1) 1) ?_
    refine va_put (D := D) (ci := 8) (v := .int (nI (n + 1 + 1 + 1 + 1 + 1 + 1 + 1 + 1 + 1 + 1 + 1))) (ty := .int) (C := R_Mo) (T := F_Mo) (N := 29) hx hb hts i_Mo t_Mo t_Mo_ok n_Mo hown hZ.1 hP hD hS 0 rfl rfl 1 (by decide) (hts _ fl_Mo_48) (fun _ h9 => h9) rfl (by decide +kernel) rfl rfl (Nat.le_of_ble_eq_true rfl) d_Mo_feed_111 (fun H locs hP hD hS => ?_)
    have hP : va_P D classes [(mo, .inr (8, [.int 0, .int (nI (n + 1 + 1 + 1 + 1 + 1 + 1 + 1 + 1 + 1 + 1 + 1)), .ref m_row, .ref m_shelves, .ref m_many, .ref m_widths, .int (nI mk), .ref m_mark, .int z_shown, .ref m_shownMark, .int z_wasRun, .int z_wrong, .int z_ended, .int (nI sp), .int z_hints, .int z_hasWidth, .int z_width, .int z_first, .int z_moved, .int z_deepest, .int z_x, .int z_y, .int (nI t), .ref m_stack, .ref m_places, .int (nI d), .ref m_kinds, .ref m_ats, .ref m_ends])), (m_row, .inl (cI, 16384, .inl (upd (upd (upd (upd (upd (upd (upd (upd (upd (upd (upd g_row n ((x1 >>> (24 &&& 31)) &&& 255)) (n + 1) ((x1 >>> (16 &&& 31)) &&& 255)) (n + 1 + 1) ((x1 >>> (8 &&& 31)) &&& 255)) (n + 1 + 1 + 1) ((x1 >>> (0 &&& 31)) &&& 255)) (n + 1 + 1 + 1 + 1) ((x2 >>> (24 &&& 31)) &&& 255)) (n + 1 + 1 + 1 + 1 + 1) ((x2 >>> (16 &&& 31)) &&& 255)) (n + 1 + 1 + 1 + 1 + 1 + 1) ((x2 >>> (8 &&& 31)) &&& 255)) (n + 1 + 1 + 1 + 1 + 1 + 1 + 1) ((x2 >>> (0 &&& 31)) &&& 255)) (n + 1 + 1 + 1 + 1 + 1 + 1 + 1 + 1) ((x3 >>> (24 &&& 31)) &&& 255)) (n + 1 + 1 + 1 + 1 + 1 + 1 + 1 + 1 + 1) ((x3 >>> (16 &&& 31)) &&& 255)) (n + 1 + 1 + 1 + 1 + 1 + 1 + 1 + 1 + 1 + 1) ((x3 >>> (8 &&& 31)) &&& 255))))] H := hP
    have hD : va_D A_ [(mo, .inr (8, [.int 0, .int (nI (n + 1 + 1 + 1 + 1 + 1 + 1 + 1 + 1 + 1 + 1 + 1)), .ref m_row, .ref m_shelves, .ref m_many, .ref m_widths, .int (nI mk), .ref m_mark, .int z_shown, .ref m_shownMark, .int z_wasRun, .int z_wrong, .int z_ended, .int (nI sp), .int z_hints, .int z_hasWidth, .int z_width, .int z_first, .int z_moved, .int z_deepest, .int z_x, .int z_y, .int (nI t), .ref m_stack, .ref m_places, .int (nI d), .ref m_kinds, .ref m_ats, .ref m_ends])), (m_row, .inl (cI, 16384, .inl (upd (upd (upd (upd (upd (upd (upd (upd (upd (upd (upd g_row n ((x1 >>> (24 &&& 31)) &&& 255)) (n + 1) ((x1 >>> (16 &&& 31)) &&& 255)) (n + 1 + 1) ((x1 >>> (8 &&& 31)) &&& 255)) (n + 1 + 1 + 1) ((x1 >>> (0 &&& 31)) &&& 255)) (n + 1 + 1 + 1 + 1) ((x2 >>> (24 &&& 31)) &&& 255)) (n + 1 + 1 + 1 + 1 + 1) ((x2 >>> (16 &&& 31)) &&& 255)) (n + 1 + 1 + 1 + 1 + 1 + 1) ((x2 >>> (8 &&& 31)) &&& 255)) (n + 1 + 1 + 1 + 1 + 1 + 1 + 1) ((x2 >>> (0 &&& 31)) &&& 255)) (n + 1 + 1 + 1 + 1 + 1 + 1 + 1 + 1) ((x3 >>> (24 &&& 31)) &&& 255)) (n + 1 + 1 + 1 + 1 + 1 + 1 + 1 + 1 + 1) ((x3 >>> (16 &&& 31)) &&& 255)) (n + 1 + 1 + 1 + 1 + 1 + 1 + 1 + 1 + 1 + 1) ((x3 >>> (8 &&& 31)) &&& 255))))] := hD
    refine lv_iinc (v := 11) (lv' := [(6, .int 11), (7, .int x3), (0, .ref mo), (1, .int x1), (2, .int x2), (3, .int x3), (4, .int x4), (5, .int x5)]) hx hb d_Mo_feed_114 hl (k := 1) rfl (by decide) (by decide) rfl (fun ls hl => ?_)
    refine lv_goto (tgt := 23) hx hb d_Mo_feed_117 (by decide) ?_
    refine lv_iload hx hb d_Mo_feed_23 (lv_at hl 0 rfl) ?_
    refine lv_bipush (v := 20) hx hb d_Mo_feed_25 (by decide) ?_
    refine lv_icmp_ge (tgt := 120) hx hb d_Mo_feed_27 (by decide) (fun c_27 => absurd c_27 (by decide)) (fun c_27 => ?_)
    clear c_27
    refine lv_iload hx hb d_Mo_feed_30 (lv_at hl 0 rfl) ?_
    refine lv_iconst (v := 4) hx hb d_Mo_feed_32 (by decide) ?_
    refine lv_icmp_ge (tgt := 40) hx hb d_Mo_feed_33 (by decide) (fun c_33 => ?_) (fun c_33 => absurd (by decide) c_33)
    clear c_33
    refine lv_iload hx hb d_Mo_feed_40 (lv_at hl 0 rfl) ?_
    refine lv_bipush (v := 8) hx hb d_Mo_feed_42 (by decide) ?_
    refine lv_icmp_ge (tgt := 51) hx hb d_Mo_feed_44 (by decide) (fun c_44 => ?_) (fun c_44 => absurd (by decide) c_44)
    clear c_44
    refine lv_iload hx hb d_Mo_feed_51 (lv_at hl 0 rfl) ?_
    refine lv_bipush (v := 12) hx hb d_Mo_feed_53 (by decide) ?_
    refine lv_icmp_ge (tgt := 62) hx hb d_Mo_feed_55 (by decide) (fun c_55 => absurd c_55 (by decide)) (fun c_55 => ?_)
    clear c_55
    refine lv_iload_n hx hb d_Mo_feed_58 rfl (lv_at hl 5 rfl) ?_
    refine lv_goto (tgt := 76) hx hb d_Mo_feed_59 (by decide) ?_
    refine lv_istore (lv' := [(7, .int x3), (6, .int 11), (0, .ref mo), (1, .int x1), (2, .int x2), (3, .int x3), (4, .int x4), (5, .int x5)]) hx hb d_Mo_feed_76 hl (by decide) rfl (fun ls hl => ?_)
    refine lv_aload_n hx hb d_Mo_feed_78 rfl (lv_at hl 2 rfl) ?_
    refine va_get (D := D) (ci := 8) (v := .ref m_row) (C := R_Mo) (T := F_Mo) (N := 29) hx hb hts i_Mo hown hZ.1 hP 0 rfl rfl 2 (by decide) (hts _ fl_Mo_7) (fun _ h9 => h9) rfl d_Mo_feed_79 ?_
    refine lv_aload_n hx hb d_Mo_feed_82 rfl (lv_at hl 2 rfl) ?_
    refine va_get (D := D) (ci := 8) (v := .int (nI (n + 1 + 1 + 1 + 1 + 1 + 1 + 1 + 1 + 1 + 1 + 1))) (C := R_Mo) (T := F_Mo) (N := 29) hx hb hts i_Mo hown hZ.1 hP 0 rfl rfl 1 (by decide) (hts _ fl_Mo_48) (fun _ h9 => h9) rfl d_Mo_feed_83 ?_
    refine lv_iload hx hb d_Mo_feed_86 (lv_at hl 0 rfl) ?_
    refine lv_bipush (v := 24) hx hb d_Mo_feed_88 (by decide) ?_
    refine lv_bipush (v := 8) hx hb d_Mo_feed_90 (by decide) ?_
    refine lv_iload hx hb d_Mo_feed_92 (lv_at hl 1 rfl) ?_
    refine lv_iconst (v := 4) hx hb d_Mo_feed_94 (by decide) ?_
    refine lv_irem hx hb d_Mo_feed_95 (by decide) ?_
    refine lv_tv (y := 3) (by decide) ?_
    refine lv_imul hx hb d_Mo_feed_96 ?_
    refine lv_tv (y := 24) (by decide) ?_
    refine lv_isub hx hb d_Mo_feed_97 ?_
    refine lv_tv (y := 0) (by decide) ?_
    refine lv_ishr hx hb d_Mo_feed_98 ?_
    refine lv_sipush (v := 255) hx hb d_Mo_feed_99 (by decide) ?_
    refine lv_iand hx hb d_Mo_feed_102 ?_
    refine va_iast hx hb hZ.1 hP hD hS 1 1 rfl rfl (vp_in_nI (by omega) (by omega)) d_Mo_feed_103 (fun H locs hP hD hS => ?_)
    rw [show ((nI (n + 1 + 1 + 1 + 1 + 1 + 1 + 1 + 1 + 1 + 1 + 1)).toNatClampNeg) = n + 1 + 1 + 1 + 1 + 1 + 1 + 1 + 1 + 1 + 1 + 1 from nI_clamp (by omega)] at hP hD
    have hP : va_P D classes [(mo, .inr (8, [.int 0, .int (nI (n + 1 + 1 + 1 + 1 + 1 + 1 + 1 + 1 + 1 + 1 + 1)), .ref m_row, .ref m_shelves, .ref m_many, .ref m_widths, .int (nI mk), .ref m_mark, .int z_shown, .ref m_shownMark, .int z_wasRun, .int z_wrong, .int z_ended, .int (nI sp), .int z_hints, .int z_hasWidth, .int z_width, .int z_first, .int z_moved, .int z_deepest, .int z_x, .int z_y, .int (nI t), .ref m_stack, .ref m_places, .int (nI d), .ref m_kinds, .ref m_ats, .ref m_ends])), (m_row, .inl (cI, 16384, .inl (upd (upd (upd (upd (upd (upd (upd (upd (upd (upd (upd (upd g_row n ((x1 >>> (24 &&& 31)) &&& 255)) (n + 1) ((x1 >>> (16 &&& 31)) &&& 255)) (n + 1 + 1) ((x1 >>> (8 &&& 31)) &&& 255)) (n + 1 + 1 + 1) ((x1 >>> (0 &&& 31)) &&& 255)) (n + 1 + 1 + 1 + 1) ((x2 >>> (24 &&& 31)) &&& 255)) (n + 1 + 1 + 1 + 1 + 1) ((x2 >>> (16 &&& 31)) &&& 255)) (n + 1 + 1 + 1 + 1 + 1 + 1) ((x2 >>> (8 &&& 31)) &&& 255)) (n + 1 + 1 + 1 + 1 + 1 + 1 + 1) ((x2 >>> (0 &&& 31)) &&& 255)) (n + 1 + 1 + 1 + 1 + 1 + 1 + 1 + 1) ((x3 >>> (24 &&& 31)) &&& 255)) (n + 1 + 1 + 1 + 1 + 1 + 1 + 1 + 1 + 1) ((x3 >>> (16 &&& 31)) &&& 255)) (n + 1 + 1 + 1 + 1 + 1 + 1 + 1 + 1 + 1 + 1) ((x3 >>> (8 &&& 31)) &&& 255)) (n + 1 + 1 + 1 + 1 + 1 + 1 + 1 + 1 + 1 + 1 + 1) ((x3 >>> (0 &&& 31)) &&& 255))))] H := hP
    have hD : va_D A_ [(mo, .inr (8, [.int 0, .int (nI (n + 1 + 1 + 1 + 1 + 1 + 1 + 1 + 1 + 1 + 1 + 1)), .ref m_row, .ref m_shelves, .ref m_many, .ref m_widths, .int (nI mk), .ref m_mark, .int z_shown, .ref m_shownMark, .int z_wasRun, .int z_wrong, .int z_ended, .int (nI sp), .int z_hints, .int z_hasWidth, .int z_width, .int z_first, .int z_moved, .int z_deepest, .int z_x, .int z_y, .int (nI t), .ref m_stack, .ref m_places, .int (nI d), .ref m_kinds, .ref m_ats, .ref m_ends])), (m_row, .inl (cI, 16384, .inl (upd (upd (upd (upd (upd (upd (upd (upd (upd (upd (upd (upd g_row n ((x1 >>> (24 &&& 31)) &&& 255)) (n + 1) ((x1 >>> (16 &&& 31)) &&& 255)) (n + 1 + 1) ((x1 >>> (8 &&& 31)) &&& 255)) (n + 1 + 1 + 1) ((x1 >>> (0 &&& 31)) &&& 255)) (n + 1 + 1 + 1 + 1) ((x2 >>> (24 &&& 31)) &&& 255)) (n + 1 + 1 + 1 + 1 + 1) ((x2 >>> (16 &&& 31)) &&& 255)) (n + 1 + 1 + 1 + 1 + 1 + 1) ((x2 >>> (8 &&& 31)) &&& 255)) (n + 1 + 1 + 1 + 1 + 1 + 1 + 1) ((x2 >>> (0 &&& 31)) &&& 255)) (n + 1 + 1 + 1 + 1 + 1 + 1 + 1 + 1) ((x3 >>> (24 &&& 31)) &&& 255)) (n + 1 + 1 + 1 + 1 + 1 + 1 + 1 + 1 + 1) ((x3 >>> (16 &&& 31)) &&& 255)) (n + 1 + 1 + 1 + 1 + 1 + 1 + 1 + 1 + 1 + 1) ((x3 >>> (8 &&& 31)) &&& 255)) (n + 1 + 1 + 1 + 1 + 1 + 1 + 1 + 1 + 1 + 1 + 1) ((x3 >>> (0 &&& 31)) &&& 255))))] := hD
    refine lv_aload_n hx hb d_Mo_feed_104 rfl (lv_at hl 2 rfl) ?_
    refine lv_dup hx hb d_Mo_feed_105 rfl ?_
    refine va_get (D := D) (ci := 8) (v := .int (nI (n + 1 + 1 + 1 + 1 + 1 + 1 + 1 + 1 + 1 + 1 + 1))) (C := R_Mo) (T := F_Mo) (N := 29) hx hb hts i_Mo hown hZ.1 hP 0 rfl rfl 1 (by decide) (hts _ fl_Mo_48) (fun _ h9 => h9) rfl d_Mo_feed_106 ?_
    refine lv_iconst (v := 1) hx hb d_Mo_feed_109 (by decide) ?_
    refine lv_iadd hx hb d_Mo_feed_110 ?_
    refine lv_tv (y := nI (n + 1 + 1 + 1 + 1 + 1 + 1 + 1 + 1 + 1 + 1 + 1 + 1)) (nI_add (n + 1 + 1 + 1 + 1 + 1 + 1 + 1 + 1 + 1 + 1 + 1) 1) ?_
    refine va_put (D := D) (ci := 8) (v := .int (nI (n + 1 + 1 + 1 + 1 + 1 + 1 + 1 + 1 + 1 + 1 + 1 + 1))) (ty := .int) (C := R_Mo) (T := F_Mo) (N := 29) hx hb hts i_Mo t_Mo t_Mo_ok n_Mo hown hZ.1 hP hD hS 0 rfl rfl 1 (by decide) (hts _ fl_Mo_48) (fun _ h9 => h9) rfl (by decide +kernel) rfl rfl (Nat.le_of_ble_eq_true rfl) d_Mo_feed_111 (fun H locs hP hD hS => ?_)
    have hP : va_P D classes [(mo, .inr (8, [.int 0, .int (nI (n + 1 + 1 + 1 + 1 + 1 + 1 + 1 + 1 + 1 + 1 + 1 + 1)), .ref m_row, .ref m_shelves, .ref m_many, .ref m_widths, .int (nI mk), .ref m_mark, .int z_shown, .ref m_shownMark, .int z_wasRun, .int z_wrong, .int z_ended, .int (nI sp), .int z_hints, .int z_hasWidth, .int z_width, .int z_first, .int z_moved, .int z_deepest, .int z_x, .int z_y, .int (nI t), .ref m_stack, .ref m_places, .int (nI d), .ref m_kinds, .ref m_ats, .ref m_ends])), (m_row, .inl (cI, 16384, .inl (upd (upd (upd (upd (upd (upd (upd (upd (upd (upd (upd (upd g_row n ((x1 >>> (24 &&& 31)) &&& 255)) (n + 1) ((x1 >>> (16 &&& 31)) &&& 255)) (n + 1 + 1) ((x1 >>> (8 &&& 31)) &&& 255)) (n + 1 + 1 + 1) ((x1 >>> (0 &&& 31)) &&& 255)) (n + 1 + 1 + 1 + 1) ((x2 >>> (24 &&& 31)) &&& 255)) (n + 1 + 1 + 1 + 1 + 1) ((x2 >>> (16 &&& 31)) &&& 255)) (n + 1 + 1 + 1 + 1 + 1 + 1) ((x2 >>> (8 &&& 31)) &&& 255)) (n + 1 + 1 + 1 + 1 + 1 + 1 + 1) ((x2 >>> (0 &&& 31)) &&& 255)) (n + 1 + 1 + 1 + 1 + 1 + 1 + 1 + 1) ((x3 >>> (24 &&& 31)) &&& 255)) (n + 1 + 1 + 1 + 1 + 1 + 1 + 1 + 1 + 1) ((x3 >>> (16 &&& 31)) &&& 255)) (n + 1 + 1 + 1 + 1 + 1 + 1 + 1 + 1 + 1 + 1) ((x3 >>> (8 &&& 31)) &&& 255)) (n + 1 + 1 + 1 + 1 + 1 + 1 + 1 + 1 + 1 + 1 + 1) ((x3 >>> (0 &&& 31)) &&& 255))))] H := hP
    have hD : va_D A_ [(mo, .inr (8, [.int 0, .int (nI (n + 1 + 1 + 1 + 1 + 1 + 1 + 1 + 1 + 1 + 1 + 1 + 1)), .ref m_row, .ref m_shelves, .ref m_many, .ref m_widths, .int (nI mk), .ref m_mark, .int z_shown, .ref m_shownMark, .int z_wasRun, .int z_wrong, .int z_ended, .int (nI sp), .int z_hints, .int z_hasWidth, .int z_width, .int z_first, .int z_moved, .int z_deepest, .int z_x, .int z_y, .int (nI t), .ref m_stack, .ref m_places, .int (nI d), .ref m_kinds, .ref m_ats, .ref m_ends])), (m_row, .inl (cI, 16384, .inl (upd (upd (upd (upd (upd (upd (upd (upd (upd (upd (upd (upd g_row n ((x1 >>> (24 &&& 31)) &&& 255)) (n + 1) ((x1 >>> (16 &&& 31)) &&& 255)) (n + 1 + 1) ((x1 >>> (8 &&& 31)) &&& 255)) (n + 1 + 1 + 1) ((x1 >>> (0 &&& 31)) &&& 255)) (n + 1 + 1 + 1 + 1) ((x2 >>> (24 &&& 31)) &&& 255)) (n + 1 + 1 + 1 + 1 + 1) ((x2 >>> (16 &&& 31)) &&& 255)) (n + 1 + 1 + 1 + 1 + 1 + 1) ((x2 >>> (8 &&& 31)) &&& 255)) (n + 1 + 1 + 1 + 1 + 1 + 1 + 1) ((x2 >>> (0 &&& 31)) &&& 255)) (n + 1 + 1 + 1 + 1 + 1 + 1 + 1 + 1) ((x3 >>> (24 &&& 31)) &&& 255)) (n + 1 + 1 + 1 + 1 + 1 + 1 + 1 + 1 + 1) ((x3 >>> (16 &&& 31)) &&& 255)) (n + 1 + 1 + 1 + 1 + 1 + 1 + 1 + 1 + 1 + 1) ((x3 >>> (8 &&& 31)) &&& 255)) (n + 1 + 1 + 1 + 1 + 1 + 1 + 1 + 1 + 1 + 1 + 1) ((x3 >>> (0 &&& 31)) &&& 255))))] := hD
    refine lv_iinc (v := 12) (lv' := [(6, .int 12), (7, .int x3), (0, .ref mo), (1, .int x1), (2, .int x2), (3, .int x3), (4, .int x4), (5, .int x5)]) hx hb d_Mo_feed_114 hl (k := 1) rfl (by decide) (by decide) rfl (fun ls hl => ?_)
    refine lv_goto (tgt := 23) hx hb d_Mo_feed_117 (by decide) ?_
    refine lv_iload hx hb d_Mo_feed_23 (lv_at hl 0 rfl) ?_
    refine lv_bipush (v := 20) hx hb d_Mo_feed_25 (by decide) ?_
    refine lv_icmp_ge (tgt := 120) hx hb d_Mo_feed_27 (by decide) (fun c_27 => absurd c_27 (by decide)) (fun c_27 => ?_)
    clear c_27
    refine lv_iload hx hb d_Mo_feed_30 (lv_at hl 0 rfl) ?_
    refine lv_iconst (v := 4) hx hb d_Mo_feed_32 (by decide) ?_
    refine lv_icmp_ge (tgt := 40) hx hb d_Mo_feed_33 (by decide) (fun c_33 => ?_) (fun c_33 => absurd (by decide) c_33)
    clear c_33
    refine lv_iload hx hb d_Mo_feed_40 (lv_at hl 0 rfl) ?_
    refine lv_bipush (v := 8) hx hb d_Mo_feed_42 (by decide) ?_
    refine lv_icmp_ge (tgt := 51) hx hb d_Mo_feed_44 (by decide) (fun c_44 => ?_) (fun c_44 => absurd (by decide) c_44)
    clear c_44
    refine lv_iload hx hb d_Mo_feed_51 (lv_at hl 0 rfl) ?_
    refine lv_bipush (v := 12) hx hb d_Mo_feed_53 (by decide) ?_
    refine lv_icmp_ge (tgt := 62) hx hb d_Mo_feed_55 (by decide) (fun c_55 => ?_) (fun c_55 => absurd (by decide) c_55)
    clear c_55
    refine lv_iload hx hb d_Mo_feed_62 (lv_at hl 0 rfl) ?_
    refine lv_bipush (v := 16) hx hb d_Mo_feed_64 (by decide) ?_
    refine lv_icmp_ge (tgt := 74) hx hb d_Mo_feed_66 (by decide) (fun c_66 => absurd c_66 (by decide)) (fun c_66 => ?_)
    clear c_66
    refine lv_iload hx hb d_Mo_feed_69 (lv_at hl 6 rfl) ?_
    refine lv_goto (tgt := 76) hx hb d_Mo_feed_71 (by decide) ?_
    refine lv_istore (lv' := [(7, .int x4), (6, .int 12), (0, .ref mo), (1, .int x1), (2, .int x2), (3, .int x3), (4, .int x4), (5, .int x5)]) hx hb d_Mo_feed_76 hl (by decide) rfl (fun ls hl => ?_)
    refine lv_aload_n hx hb d_Mo_feed_78 rfl (lv_at hl 2 rfl) ?_
    refine va_get (D := D) (ci := 8) (v := .ref m_row) (C := R_Mo) (T := F_Mo) (N := 29) hx hb hts i_Mo hown hZ.1 hP 0 rfl rfl 2 (by decide) (hts _ fl_Mo_7) (fun _ h9 => h9) rfl d_Mo_feed_79 ?_
    refine lv_aload_n hx hb d_Mo_feed_82 rfl (lv_at hl 2 rfl) ?_
    refine va_get (D := D) (ci := 8) (v := .int (nI (n + 1 + 1 + 1 + 1 + 1 + 1 + 1 + 1 + 1 + 1 + 1 + 1))) (C := R_Mo) (T := F_Mo) (N := 29) hx hb hts i_Mo hown hZ.1 hP 0 rfl rfl 1 (by decide) (hts _ fl_Mo_48) (fun _ h9 => h9) rfl d_Mo_feed_83 ?_
    refine lv_iload hx hb d_Mo_feed_86 (lv_at hl 0 rfl) ?_
    refine lv_bipush (v := 24) hx hb d_Mo_feed_88 (by decide) ?_
    refine lv_bipush (v := 8) hx hb d_Mo_feed_90 (by decide) ?_
    refine lv_iload hx hb d_Mo_feed_92 (lv_at hl 1 rfl) ?_
    refine lv_iconst (v := 4) hx hb d_Mo_feed_94 (by decide) ?_
    refine lv_irem hx hb d_Mo_feed_95 (by decide) ?_
    refine lv_tv (y := 0) (by decide) ?_
    refine lv_imul hx hb d_Mo_feed_96 ?_
    refine lv_tv (y := 0) (by decide) ?_
    refine lv_isub hx hb d_Mo_feed_97 ?_
    refine lv_tv (y := 24) (by decide) ?_
    refine lv_ishr hx hb d_Mo_feed_98 ?_
    refine lv_sipush (v := 255) hx hb d_Mo_feed_99 (by decide) ?_
    refine lv_iand hx hb d_Mo_feed_102 ?_
    refine va_iast hx hb hZ.1 hP hD hS 1 1 rfl rfl (vp_in_nI (by omega) (by omega)) d_Mo_feed_103 (fun H locs hP hD hS => ?_)
    rw [show ((nI (n + 1 + 1 + 1 + 1 + 1 + 1 + 1 + 1 + 1 + 1 + 1 + 1)).toNatClampNeg) = n + 1 + 1 + 1 + 1 + 1 + 1 + 1 + 1 + 1 + 1 + 1 + 1 from nI_clamp (by omega)] at hP hD
    have hP : va_P D classes [(mo, .inr (8, [.int 0, .int (nI (n + 1 + 1 + 1 + 1 + 1 + 1 + 1 + 1 + 1 + 1 + 1 + 1)), .ref m_row, .ref m_shelves, .ref m_many, .ref m_widths, .int (nI mk), .ref m_mark, .int z_shown, .ref m_shownMark, .int z_wasRun, .int z_wrong, .int z_ended, .int (nI sp), .int z_hints, .int z_hasWidth, .int z_width, .int z_first, .int z_moved, .int z_deepest, .int z_x, .int z_y, .int (nI t), .ref m_stack, .ref m_places, .int (nI d), .ref m_kinds, .ref m_ats, .ref m_ends])), (m_row, .inl (cI, 16384, .inl (upd (upd (upd (upd (upd (upd (upd (upd (upd (upd (upd (upd (upd g_row n ((x1 >>> (24 &&& 31)) &&& 255)) (n + 1) ((x1 >>> (16 &&& 31)) &&& 255)) (n + 1 + 1) ((x1 >>> (8 &&& 31)) &&& 255)) (n + 1 + 1 + 1) ((x1 >>> (0 &&& 31)) &&& 255)) (n + 1 + 1 + 1 + 1) ((x2 >>> (24 &&& 31)) &&& 255)) (n + 1 + 1 + 1 + 1 + 1) ((x2 >>> (16 &&& 31)) &&& 255)) (n + 1 + 1 + 1 + 1 + 1 + 1) ((x2 >>> (8 &&& 31)) &&& 255)) (n + 1 + 1 + 1 + 1 + 1 + 1 + 1) ((x2 >>> (0 &&& 31)) &&& 255)) (n + 1 + 1 + 1 + 1 + 1 + 1 + 1 + 1) ((x3 >>> (24 &&& 31)) &&& 255)) (n + 1 + 1 + 1 + 1 + 1 + 1 + 1 + 1 + 1) ((x3 >>> (16 &&& 31)) &&& 255)) (n + 1 + 1 + 1 + 1 + 1 + 1 + 1 + 1 + 1 + 1) ((x3 >>> (8 &&& 31)) &&& 255)) (n + 1 + 1 + 1 + 1 + 1 + 1 + 1 + 1 + 1 + 1 + 1) ((x3 >>> (0 &&& 31)) &&& 255)) (n + 1 + 1 + 1 + 1 + 1 + 1 + 1 + 1 + 1 + 1 + 1 + 1) ((x4 >>> (24 &&& 31)) &&& 255))))] H := hP
    have hD : va_D A_ [(mo, .inr (8, [.int 0, .int (nI (n + 1 + 1 + 1 + 1 + 1 + 1 + 1 + 1 + 1 + 1 + 1 + 1)), .ref m_row, .ref m_shelves, .ref m_many, .ref m_widths, .int (nI mk), .ref m_mark, .int z_shown, .ref m_shownMark, .int z_wasRun, .int z_wrong, .int z_ended, .int (nI sp), .int z_hints, .int z_hasWidth, .int z_width, .int z_first, .int z_moved, .int z_deepest, .int z_x, .int z_y, .int (nI t), .ref m_stack, .ref m_places, .int (nI d), .ref m_kinds, .ref m_ats, .ref m_ends])), (m_row, .inl (cI, 16384, .inl (upd (upd (upd (upd (upd (upd (upd (upd (upd (upd (upd (upd (upd g_row n ((x1 >>> (24 &&& 31)) &&& 255)) (n + 1) ((x1 >>> (16 &&& 31)) &&& 255)) (n + 1 + 1) ((x1 >>> (8 &&& 31)) &&& 255)) (n + 1 + 1 + 1) ((x1 >>> (0 &&& 31)) &&& 255)) (n + 1 + 1 + 1 + 1) ((x2 >>> (24 &&& 31)) &&& 255)) (n + 1 + 1 + 1 + 1 + 1) ((x2 >>> (16 &&& 31)) &&& 255)) (n + 1 + 1 + 1 + 1 + 1 + 1) ((x2 >>> (8 &&& 31)) &&& 255)) (n + 1 + 1 + 1 + 1 + 1 + 1 + 1) ((x2 >>> (0 &&& 31)) &&& 255)) (n + 1 + 1 + 1 + 1 + 1 + 1 + 1 + 1) ((x3 >>> (24 &&& 31)) &&& 255)) (n + 1 + 1 + 1 + 1 + 1 + 1 + 1 + 1 + 1) ((x3 >>> (16 &&& 31)) &&& 255)) (n + 1 + 1 + 1 + 1 + 1 + 1 + 1 + 1 + 1 + 1) ((x3 >>> (8 &&& 31)) &&& 255)) (n + 1 + 1 + 1 + 1 + 1 + 1 + 1 + 1 + 1 + 1 + 1) ((x3 >>> (0 &&& 31)) &&& 255)) (n + 1 + 1 + 1 + 1 + 1 + 1 + 1 + 1 + 1 + 1 + 1 + 1) ((x4 >>> (24 &&& 31)) &&& 255))))] := hD
    refine lv_aload_n hx hb d_Mo_feed_104 rfl (lv_at hl 2 rfl) ?_
    refine lv_dup hx hb d_Mo_feed_105 rfl ?_
    refine va_get (D := D) (ci := 8) (v := .int (nI (n + 1 + 1 + 1 + 1 + 1 + 1 + 1 + 1 + 1 + 1 + 1 + 1))) (C := R_Mo) (T := F_Mo) (N := 29) hx hb hts i_Mo hown hZ.1 hP 0 rfl rfl 1 (by decide) (hts _ fl_Mo_48) (fun _ h9 => h9) rfl d_Mo_feed_106 ?_
    refine lv_iconst (v := 1) hx hb d_Mo_feed_109 (by decide) ?_
    refine lv_iadd hx hb d_Mo_feed_110 ?_
    refine lv_tv (y := nI (n + 1 + 1 + 1 + 1 + 1 + 1 + 1 + 1 + 1 + 1 + 1 + 1 + 1)) (nI_add (n + 1 + 1 + 1 + 1 + 1 + 1 + 1 + 1 + 1 + 1 + 1 + 1) 1) ?_
    refine va_put (D := D) (ci := 8) (v := .int (nI (n + 1 + 1 + 1 + 1 + 1 + 1 + 1 + 1 + 1 + 1 + 1 + 1 + 1))) (ty := .int) (C := R_Mo) (T := F_Mo) (N := 29) hx hb hts i_Mo t_Mo t_Mo_ok n_Mo hown hZ.1 hP hD hS 0 rfl rfl 1 (by decide) (hts _ fl_Mo_48) (fun _ h9 => h9) rfl (by decide +kernel) rfl rfl (Nat.le_of_ble_eq_true rfl) d_Mo_feed_111 (fun H locs hP hD hS => ?_)
    have hP : va_P D classes [(mo, .inr (8, [.int 0, .int (nI (n + 1 + 1 + 1 + 1 + 1 + 1 + 1 + 1 + 1 + 1 + 1 + 1 + 1)), .ref m_row, .ref m_shelves, .ref m_many, .ref m_widths, .int (nI mk), .ref m_mark, .int z_shown, .ref m_shownMark, .int z_wasRun, .int z_wrong, .int z_ended, .int (nI sp), .int z_hints, .int z_hasWidth, .int z_width, .int z_first, .int z_moved, .int z_deepest, .int z_x, .int z_y, .int (nI t), .ref m_stack, .ref m_places, .int (nI d), .ref m_kinds, .ref m_ats, .ref m_ends])), (m_row, .inl (cI, 16384, .inl (upd (upd (upd (upd (upd (upd (upd (upd (upd (upd (upd (upd (upd g_row n ((x1 >>> (24 &&& 31)) &&& 255)) (n + 1) ((x1 >>> (16 &&& 31)) &&& 255)) (n + 1 + 1) ((x1 >>> (8 &&& 31)) &&& 255)) (n + 1 + 1 + 1) ((x1 >>> (0 &&& 31)) &&& 255)) (n + 1 + 1 + 1 + 1) ((x2 >>> (24 &&& 31)) &&& 255)) (n + 1 + 1 + 1 + 1 + 1) ((x2 >>> (16 &&& 31)) &&& 255)) (n + 1 + 1 + 1 + 1 + 1 + 1) ((x2 >>> (8 &&& 31)) &&& 255)) (n + 1 + 1 + 1 + 1 + 1 + 1 + 1) ((x2 >>> (0 &&& 31)) &&& 255)) (n + 1 + 1 + 1 + 1 + 1 + 1 + 1 + 1) ((x3 >>> (24 &&& 31)) &&& 255)) (n + 1 + 1 + 1 + 1 + 1 + 1 + 1 + 1 + 1) ((x3 >>> (16 &&& 31)) &&& 255)) (n + 1 + 1 + 1 + 1 + 1 + 1 + 1 + 1 + 1 + 1) ((x3 >>> (8 &&& 31)) &&& 255)) (n + 1 + 1 + 1 + 1 + 1 + 1 + 1 + 1 + 1 + 1 + 1) ((x3 >>> (0 &&& 31)) &&& 255)) (n + 1 + 1 + 1 + 1 + 1 + 1 + 1 + 1 + 1 + 1 + 1 + 1) ((x4 >>> (24 &&& 31)) &&& 255))))] H := hP
    have hD : va_D A_ [(mo, .inr (8, [.int 0, .int (nI (n + 1 + 1 + 1 + 1 + 1 + 1 + 1 + 1 + 1 + 1 + 1 + 1 + 1)), .ref m_row, .ref m_shelves, .ref m_many, .ref m_widths, .int (nI mk), .ref m_mark, .int z_shown, .ref m_shownMark, .int z_wasRun, .int z_wrong, .int z_ended, .int (nI sp), .int z_hints, .int z_hasWidth, .int z_width, .int z_first, .int z_moved, .int z_deepest, .int z_x, .int z_y, .int (nI t), .ref m_stack, .ref m_places, .int (nI d), .ref m_kinds, .ref m_ats, .ref m_ends])), (m_row, .inl (cI, 16384, .inl (upd (upd (upd (upd (upd (upd (upd (upd (upd (upd (upd (upd (upd g_row n ((x1 >>> (24 &&& 31)) &&& 255)) (n + 1) ((x1 >>> (16 &&& 31)) &&& 255)) (n + 1 + 1) ((x1 >>> (8 &&& 31)) &&& 255)) (n + 1 + 1 + 1) ((x1 >>> (0 &&& 31)) &&& 255)) (n + 1 + 1 + 1 + 1) ((x2 >>> (24 &&& 31)) &&& 255)) (n + 1 + 1 + 1 + 1 + 1) ((x2 >>> (16 &&& 31)) &&& 255)) (n + 1 + 1 + 1 + 1 + 1 + 1) ((x2 >>> (8 &&& 31)) &&& 255)) (n + 1 + 1 + 1 + 1 + 1 + 1 + 1) ((x2 >>> (0 &&& 31)) &&& 255)) (n + 1 + 1 + 1 + 1 + 1 + 1 + 1 + 1) ((x3 >>> (24 &&& 31)) &&& 255)) (n + 1 + 1 + 1 + 1 + 1 + 1 + 1 + 1 + 1) ((x3 >>> (16 &&& 31)) &&& 255)) (n + 1 + 1 + 1 + 1 + 1 + 1 + 1 + 1 + 1 + 1) ((x3 >>> (8 &&& 31)) &&& 255)) (n + 1 + 1 + 1 + 1 + 1 + 1 + 1 + 1 + 1 + 1 + 1) ((x3 >>> (0 &&& 31)) &&& 255)) (n + 1 + 1 + 1 + 1 + 1 + 1 + 1 + 1 + 1 + 1 + 1 + 1) ((x4 >>> (24 &&& 31)) &&& 255))))] := hD
    refine lv_iinc (v := 13) (lv' := [(6, .int 13), (7, .int x4), (0, .ref mo), (1, .int x1), (2, .int x2), (3, .int x3), (4, .int x4), (5, .int x5)]) hx hb d_Mo_feed_114 hl (k := 1) rfl (by decide) (by decide) rfl (fun ls hl => ?_)
    refine lv_goto (tgt := 23) hx hb d_Mo_feed_117 (by decide) ?_
    refine lv_iload hx hb d_Mo_feed_23 (lv_at hl 0 rfl) ?_
    refine lv_bipush (v := 20) hx hb d_Mo_feed_25 (by decide) ?_
    refine lv_icmp_ge (tgt := 120) hx hb d_Mo_feed_27 (by decide) (fun c_27 => absurd c_27 (by decide)) (fun c_27 => ?_)
    clear c_27
    refine lv_iload hx hb d_Mo_feed_30 (lv_at hl 0 rfl) ?_
    refine lv_iconst (v := 4) hx hb d_Mo_feed_32 (by decide) ?_
    refine lv_icmp_ge (tgt := 40) hx hb d_Mo_feed_33 (by decide) (fun c_33 => ?_) (fun c_33 => absurd (by decide) c_33)
    clear c_33
    refine lv_iload hx hb d_Mo_feed_40 (lv_at hl 0 rfl) ?_
    refine lv_bipush (v := 8) hx hb d_Mo_feed_42 (by decide) ?_
    refine lv_icmp_ge (tgt := 51) hx hb d_Mo_feed_44 (by decide) (fun c_44 => ?_) (fun c_44 => absurd (by decide) c_44)
    clear c_44
    refine lv_iload hx hb d_Mo_feed_51 (lv_at hl 0 rfl) ?_
    refine lv_bipush (v := 12) hx hb d_Mo_feed_53 (by decide) ?_
    refine lv_icmp_ge (tgt := 62) hx hb d_Mo_feed_55 (by decide) (fun c_55 => ?_) (fun c_55 => absurd (by decide) c_55)
    clear c_55
    refine lv_iload hx hb d_Mo_feed_62 (lv_at hl 0 rfl) ?_
    refine lv_bipush (v := 16) hx hb d_Mo_feed_64 (by decide) ?_
    refine lv_icmp_ge (tgt := 74) hx hb d_Mo_feed_66 (by decide) (fun c_66 => absurd c_66 (by decide)) (fun c_66 => ?_)
    clear c_66
    refine lv_iload hx hb d_Mo_feed_69 (lv_at hl 6 rfl) ?_
    refine lv_goto (tgt := 76) hx hb d_Mo_feed_71 (by decide) ?_
    refine lv_istore (lv' := [(7, .int x4), (6, .int 13), (0, .ref mo), (1, .int x1), (2, .int x2), (3, .int x3), (4, .int x4), (5, .int x5)]) hx hb d_Mo_feed_76 hl (by decide) rfl (fun ls hl => ?_)
    refine lv_aload_n hx hb d_Mo_feed_78 rfl (lv_at hl 2 rfl) ?_
    refine va_get (D := D) (ci := 8) (v := .ref m_row) (C := R_Mo) (T := F_Mo) (N := 29) hx hb hts i_Mo hown hZ.1 hP 0 rfl rfl 2 (by decide) (hts _ fl_Mo_7) (fun _ h9 => h9) rfl d_Mo_feed_79 ?_
    refine lv_aload_n hx hb d_Mo_feed_82 rfl (lv_at hl 2 rfl) ?_
    refine va_get (D := D) (ci := 8) (v := .int (nI (n + 1 + 1 + 1 + 1 + 1 + 1 + 1 + 1 + 1 + 1 + 1 + 1 + 1))) (C := R_Mo) (T := F_Mo) (N := 29) hx hb hts i_Mo hown hZ.1 hP 0 rfl rfl 1 (by decide) (hts _ fl_Mo_48) (fun _ h9 => h9) rfl d_Mo_feed_83 ?_
    refine lv_iload hx hb d_Mo_feed_86 (lv_at hl 0 rfl) ?_
    refine lv_bipush (v := 24) hx hb d_Mo_feed_88 (by decide) ?_
    refine lv_bipush (v := 8) hx hb d_Mo_feed_90 (by decide) ?_
    refine lv_iload hx hb d_Mo_feed_92 (lv_at hl 1 rfl) ?_
    refine lv_iconst (v := 4) hx hb d_Mo_feed_94 (by decide) ?_
    refine lv_irem hx hb d_Mo_feed_95 (by decide) ?_
    refine lv_tv (y := 1) (by decide) ?_
    refine lv_imul hx hb d_Mo_feed_96 ?_
    refine lv_tv (y := 8) (by decide) ?_
    refine lv_isub hx hb d_Mo_feed_97 ?_
    refine lv_tv (y := 16) (by decide) ?_
    refine lv_ishr hx hb d_Mo_feed_98 ?_
    refine lv_sipush (v := 255) hx hb d_Mo_feed_99 (by decide) ?_
    refine lv_iand hx hb d_Mo_feed_102 ?_
    refine va_iast hx hb hZ.1 hP hD hS 1 1 rfl rfl (vp_in_nI (by omega) (by omega)) d_Mo_feed_103 (fun H locs hP hD hS => ?_)
    rw [show ((nI (n + 1 + 1 + 1 + 1 + 1 + 1 + 1 + 1 + 1 + 1 + 1 + 1 + 1)).toNatClampNeg) = n + 1 + 1 + 1 + 1 + 1 + 1 + 1 + 1 + 1 + 1 + 1 + 1 + 1 from nI_clamp (by omega)] at hP hD
    have hP : va_P D classes [(mo, .inr (8, [.int 0, .int (nI (n + 1 + 1 + 1 + 1 + 1 + 1 + 1 + 1 + 1 + 1 + 1 + 1 + 1)), .ref m_row, .ref m_shelves, .ref m_many, .ref m_widths, .int (nI mk), .ref m_mark, .int z_shown, .ref m_shownMark, .int z_wasRun, .int z_wrong, .int z_ended, .int (nI sp), .int z_hints, .int z_hasWidth, .int z_width, .int z_first, .int z_moved, .int z_deepest, .int z_x, .int z_y, .int (nI t), .ref m_stack, .ref m_places, .int (nI d), .ref m_kinds, .ref m_ats, .ref m_ends])), (m_row, .inl (cI, 16384, .inl (upd (upd (upd (upd (upd (upd (upd (upd (upd (upd (upd (upd (upd (upd g_row n ((x1 >>> (24 &&& 31)) &&& 255)) (n + 1) ((x1 >>> (16 &&& 31)) &&& 255)) (n + 1 + 1) ((x1 >>> (8 &&& 31)) &&& 255)) (n + 1 + 1 + 1) ((x1 >>> (0 &&& 31)) &&& 255)) (n + 1 + 1 + 1 + 1) ((x2 >>> (24 &&& 31)) &&& 255)) (n + 1 + 1 + 1 + 1 + 1) ((x2 >>> (16 &&& 31)) &&& 255)) (n + 1 + 1 + 1 + 1 + 1 + 1) ((x2 >>> (8 &&& 31)) &&& 255)) (n + 1 + 1 + 1 + 1 + 1 + 1 + 1) ((x2 >>> (0 &&& 31)) &&& 255)) (n + 1 + 1 + 1 + 1 + 1 + 1 + 1 + 1) ((x3 >>> (24 &&& 31)) &&& 255)) (n + 1 + 1 + 1 + 1 + 1 + 1 + 1 + 1 + 1) ((x3 >>> (16 &&& 31)) &&& 255)) (n + 1 + 1 + 1 + 1 + 1 + 1 + 1 + 1 + 1 + 1) ((x3 >>> (8 &&& 31)) &&& 255)) (n + 1 + 1 + 1 + 1 + 1 + 1 + 1 + 1 + 1 + 1 + 1) ((x3 >>> (0 &&& 31)) &&& 255)) (n + 1 + 1 + 1 + 1 + 1 + 1 + 1 + 1 + 1 + 1 + 1 + 1) ((x4 >>> (24 &&& 31)) &&& 255)) (n + 1 + 1 + 1 + 1 + 1 + 1 + 1 + 1 + 1 + 1 + 1 + 1 + 1) ((x4 >>> (16 &&& 31)) &&& 255))))] H := hP
    have hD : va_D A_ [(mo, .inr (8, [.int 0, .int (nI (n + 1 + 1 + 1 + 1 + 1 + 1 + 1 + 1 + 1 + 1 + 1 + 1 + 1)), .ref m_row, .ref m_shelves, .ref m_many, .ref m_widths, .int (nI mk), .ref m_mark, .int z_shown, .ref m_shownMark, .int z_wasRun, .int z_wrong, .int z_ended, .int (nI sp), .int z_hints, .int z_hasWidth, .int z_width, .int z_first, .int z_moved, .int z_deepest, .int z_x, .int z_y, .int (nI t), .ref m_stack, .ref m_places, .int (nI d), .ref m_kinds, .ref m_ats, .ref m_ends])), (m_row, .inl (cI, 16384, .inl (upd (upd (upd (upd (upd (upd (upd (upd (upd (upd (upd (upd (upd (upd g_row n ((x1 >>> (24 &&& 31)) &&& 255)) (n + 1) ((x1 >>> (16 &&& 31)) &&& 255)) (n + 1 + 1) ((x1 >>> (8 &&& 31)) &&& 255)) (n + 1 + 1 + 1) ((x1 >>> (0 &&& 31)) &&& 255)) (n + 1 + 1 + 1 + 1) ((x2 >>> (24 &&& 31)) &&& 255)) (n + 1 + 1 + 1 + 1 + 1) ((x2 >>> (16 &&& 31)) &&& 255)) (n + 1 + 1 + 1 + 1 + 1 + 1) ((x2 >>> (8 &&& 31)) &&& 255)) (n + 1 + 1 + 1 + 1 + 1 + 1 + 1) ((x2 >>> (0 &&& 31)) &&& 255)) (n + 1 + 1 + 1 + 1 + 1 + 1 + 1 + 1) ((x3 >>> (24 &&& 31)) &&& 255)) (n + 1 + 1 + 1 + 1 + 1 + 1 + 1 + 1 + 1) ((x3 >>> (16 &&& 31)) &&& 255)) (n + 1 + 1 + 1 + 1 + 1 + 1 + 1 + 1 + 1 + 1) ((x3 >>> (8 &&& 31)) &&& 255)) (n + 1 + 1 + 1 + 1 + 1 + 1 + 1 + 1 + 1 + 1 + 1) ((x3 >>> (0 &&& 31)) &&& 255)) (n + 1 + 1 + 1 + 1 + 1 + 1 + 1 + 1 + 1 + 1 + 1 + 1) ((x4 >>> (24 &&& 31)) &&& 255)) (n + 1 + 1 + 1 + 1 + 1 + 1 + 1 + 1 + 1 + 1 + 1 + 1 + 1) ((x4 >>> (16 &&& 31)) &&& 255))))] := hD
    refine lv_aload_n hx hb d_Mo_feed_104 rfl (lv_at hl 2 rfl) ?_
    refine lv_dup hx hb d_Mo_feed_105 rfl ?_
    refine va_get (D := D) (ci := 8) (v := .int (nI (n + 1 + 1 + 1 + 1 + 1 + 1 + 1 + 1 + 1 + 1 + 1 + 1 + 1))) (C := R_Mo) (T := F_Mo) (N := 29) hx hb hts i_Mo hown hZ.1 hP 0 rfl rfl 1 (by decide) (hts _ fl_Mo_48) (fun _ h9 => h9) rfl d_Mo_feed_106 ?_
    refine lv_iconst (v := 1) hx hb d_Mo_feed_109 (by decide) ?_
    refine lv_iadd hx hb d_Mo_feed_110 ?_
    refine lv_tv (y := nI (n + 1 + 1 + 1 + 1 + 1 + 1 + 1 + 1 + 1 + 1 + 1 + 1 + 1 + 1)) (nI_add (n + 1 + 1 + 1 + 1 + 1 + 1 + 1 + 1 + 1 + 1 + 1 + 1 + 1) 1) ?_
    refine va_put (D := D) (ci := 8) (v := .int (nI (n + 1 + 1 + 1 + 1 + 1 + 1 + 1 + 1 + 1 + 1 + 1 + 1 + 1 + 1))) (ty := .int) (C := R_Mo) (T := F_Mo) (N := 29) hx hb hts i_Mo t_Mo t_Mo_ok n_Mo hown hZ.1 hP hD hS 0 rfl rfl 1 (by decide) (hts _ fl_Mo_48) (fun _ h9 => h9) rfl (by decide +kernel) rfl rfl (Nat.le_of_ble_eq_true rfl) d_Mo_feed_111 (fun H locs hP hD hS => ?_)
    have hP : va_P D classes [(mo, .inr (8, [.int 0, .int (nI (n + 1 + 1 + 1 + 1 + 1 + 1 + 1 + 1 + 1 + 1 + 1 + 1 + 1 + 1)), .ref m_row, .ref m_shelves, .ref m_many, .ref m_widths, .int (nI mk), .ref m_mark, .int z_shown, .ref m_shownMark, .int z_wasRun, .int z_wrong, .int z_ended, .int (nI sp), .int z_hints, .int z_hasWidth, .int z_width, .int z_first, .int z_moved, .int z_deepest, .int z_x, .int z_y, .int (nI t), .ref m_stack, .ref m_places, .int (nI d), .ref m_kinds, .ref m_ats, .ref m_ends])), (m_row, .inl (cI, 16384, .inl (upd (upd (upd (upd (upd (upd (upd (upd (upd (upd (upd (upd (upd (upd g_row n ((x1 >>> (24 &&& 31)) &&& 255)) (n + 1) ((x1 >>> (16 &&& 31)) &&& 255)) (n + 1 + 1) ((x1 >>> (8 &&& 31)) &&& 255)) (n + 1 + 1 + 1) ((x1 >>> (0 &&& 31)) &&& 255)) (n + 1 + 1 + 1 + 1) ((x2 >>> (24 &&& 31)) &&& 255)) (n + 1 + 1 + 1 + 1 + 1) ((x2 >>> (16 &&& 31)) &&& 255)) (n + 1 + 1 + 1 + 1 + 1 + 1) ((x2 >>> (8 &&& 31)) &&& 255)) (n + 1 + 1 + 1 + 1 + 1 + 1 + 1) ((x2 >>> (0 &&& 31)) &&& 255)) (n + 1 + 1 + 1 + 1 + 1 + 1 + 1 + 1) ((x3 >>> (24 &&& 31)) &&& 255)) (n + 1 + 1 + 1 + 1 + 1 + 1 + 1 + 1 + 1) ((x3 >>> (16 &&& 31)) &&& 255)) (n + 1 + 1 + 1 + 1 + 1 + 1 + 1 + 1 + 1 + 1) ((x3 >>> (8 &&& 31)) &&& 255)) (n + 1 + 1 + 1 + 1 + 1 + 1 + 1 + 1 + 1 + 1 + 1) ((x3 >>> (0 &&& 31)) &&& 255)) (n + 1 + 1 + 1 + 1 + 1 + 1 + 1 + 1 + 1 + 1 + 1 + 1) ((x4 >>> (24 &&& 31)) &&& 255)) (n + 1 + 1 + 1 + 1 + 1 + 1 + 1 + 1 + 1 + 1 + 1 + 1 + 1) ((x4 >>> (16 &&& 31)) &&& 255))))] H := hP
    have hD : va_D A_ [(mo, .inr (8, [.int 0, .int (nI (n + 1 + 1 + 1 + 1 + 1 + 1 + 1 + 1 + 1 + 1 + 1 + 1 + 1 + 1)), .ref m_row, .ref m_shelves, .ref m_many, .ref m_widths, .int (nI mk), .ref m_mark, .int z_shown, .ref m_shownMark, .int z_wasRun, .int z_wrong, .int z_ended, .int (nI sp), .int z_hints, .int z_hasWidth, .int z_width, .int z_first, .int z_moved, .int z_deepest, .int z_x, .int z_y, .int (nI t), .ref m_stack, .ref m_places, .int (nI d), .ref m_kinds, .ref m_ats, .ref m_ends])), (m_row, .inl (cI, 16384, .inl (upd (upd (upd (upd (upd (upd (upd (upd (upd (upd (upd (upd (upd (upd g_row n ((x1 >>> (24 &&& 31)) &&& 255)) (n + 1) ((x1 >>> (16 &&& 31)) &&& 255)) (n + 1 + 1) ((x1 >>> (8 &&& 31)) &&& 255)) (n + 1 + 1 + 1) ((x1 >>> (0 &&& 31)) &&& 255)) (n + 1 + 1 + 1 + 1) ((x2 >>> (24 &&& 31)) &&& 255)) (n + 1 + 1 + 1 + 1 + 1) ((x2 >>> (16 &&& 31)) &&& 255)) (n + 1 + 1 + 1 + 1 + 1 + 1) ((x2 >>> (8 &&& 31)) &&& 255)) (n + 1 + 1 + 1 + 1 + 1 + 1 + 1) ((x2 >>> (0 &&& 31)) &&& 255)) (n + 1 + 1 + 1 + 1 + 1 + 1 + 1 + 1) ((x3 >>> (24 &&& 31)) &&& 255)) (n + 1 + 1 + 1 + 1 + 1 + 1 + 1 + 1 + 1) ((x3 >>> (16 &&& 31)) &&& 255)) (n + 1 + 1 + 1 + 1 + 1 + 1 + 1 + 1 + 1 + 1) ((x3 >>> (8 &&& 31)) &&& 255)) (n + 1 + 1 + 1 + 1 + 1 + 1 + 1 + 1 + 1 + 1 + 1) ((x3 >>> (0 &&& 31)) &&& 255)) (n + 1 + 1 + 1 + 1 + 1 + 1 + 1 + 1 + 1 + 1 + 1 + 1) ((x4 >>> (24 &&& 31)) &&& 255)) (n + 1 + 1 + 1 + 1 + 1 + 1 + 1 + 1 + 1 + 1 + 1 + 1 + 1) ((x4 >>> (16 &&& 31)) &&& 255))))] := hD
    refine lv_iinc (v := 14) (lv' := [(6, .int 14), (7, .int x4), (0, .ref mo), (1, .int x1), (2, .int x2), (3, .int x3), (4, .int x4), (5, .int x5)]) hx hb d_Mo_feed_114 hl (k := 1) rfl (by decide) (by decide) rfl (fun ls hl => ?_)
    refine lv_goto (tgt := 23) hx hb d_Mo_feed_117 (by decide) ?_
    refine lv_iload hx hb d_Mo_feed_23 (lv_at hl 0 rfl) ?_
    refine lv_bipush (v := 20) hx hb d_Mo_feed_25 (by decide) ?_
    refine lv_icmp_ge (tgt := 120) hx hb d_Mo_feed_27 (by decide) (fun c_27 => absurd c_27 (by decide)) (fun c_27 => ?_)
    clear c_27
    refine lv_iload hx hb d_Mo_feed_30 (lv_at hl 0 rfl) ?_
    refine lv_iconst (v := 4) hx hb d_Mo_feed_32 (by decide) ?_
    refine lv_icmp_ge (tgt := 40) hx hb d_Mo_feed_33 (by decide) (fun c_33 => ?_) (fun c_33 => absurd (by decide) c_33)
    clear c_33
    refine lv_iload hx hb d_Mo_feed_40 (lv_at hl 0 rfl) ?_
    refine lv_bipush (v := 8) hx hb d_Mo_feed_42 (by decide) ?_
    refine lv_icmp_ge (tgt := 51) hx hb d_Mo_feed_44 (by decide) (fun c_44 => ?_) (fun c_44 => absurd (by decide) c_44)
    clear c_44
    refine lv_iload hx hb d_Mo_feed_51 (lv_at hl 0 rfl) ?_
    refine lv_bipush (v := 12) hx hb d_Mo_feed_53 (by decide) ?_
    refine lv_icmp_ge (tgt := 62) hx hb d_Mo_feed_55 (by decide) (fun c_55 => ?_) (fun c_55 => absurd (by decide) c_55)
    clear c_55
    refine lv_iload hx hb d_Mo_feed_62 (lv_at hl 0 rfl) ?_
    refine lv_bipush (v := 16) hx hb d_Mo_feed_64 (by decide) ?_
    refine lv_icmp_ge (tgt := 74) hx hb d_Mo_feed_66 (by decide) (fun c_66 => absurd c_66 (by decide)) (fun c_66 => ?_)
    clear c_66
    refine lv_iload hx hb d_Mo_feed_69 (lv_at hl 6 rfl) ?_
    refine lv_goto (tgt := 76) hx hb d_Mo_feed_71 (by decide) ?_
    refine lv_istore (lv' := [(7, .int x4), (6, .int 14), (0, .ref mo), (1, .int x1), (2, .int x2), (3, .int x3), (4, .int x4), (5, .int x5)]) hx hb d_Mo_feed_76 hl (by decide) rfl (fun ls hl => ?_)
    refine lv_aload_n hx hb d_Mo_feed_78 rfl (lv_at hl 2 rfl) ?_
    refine va_get (D := D) (ci := 8) (v := .ref m_row) (C := R_Mo) (T := F_Mo) (N := 29) hx hb hts i_Mo hown hZ.1 hP 0 rfl rfl 2 (by decide) (hts _ fl_Mo_7) (fun _ h9 => h9) rfl d_Mo_feed_79 ?_
    refine lv_aload_n hx hb d_Mo_feed_82 rfl (lv_at hl 2 rfl) ?_
    refine va_get (D := D) (ci := 8) (v := .int (nI (n + 1 + 1 + 1 + 1 + 1 + 1 + 1 + 1 + 1 + 1 + 1 + 1 + 1 + 1))) (C := R_Mo) (T := F_Mo) (N := 29) hx hb hts i_Mo hown hZ.1 hP 0 rfl rfl 1 (by decide) (hts _ fl_Mo_48) (fun _ h9 => h9) rfl d_Mo_feed_83 ?_
    refine lv_iload hx hb d_Mo_feed_86 (lv_at hl 0 rfl) ?_
    refine lv_bipush (v := 24) hx hb d_Mo_feed_88 (by decide) ?_
    refine lv_bipush (v := 8) hx hb d_Mo_feed_90 (by decide) ?_
    refine lv_iload hx hb d_Mo_feed_92 (lv_at hl 1 rfl) ?_
    refine lv_iconst (v := 4) hx hb d_Mo_feed_94 (by decide) ?_
    refine lv_irem hx hb d_Mo_feed_95 (by decide) ?_
    refine lv_tv (y := 2) (by decide) ?_
    refine lv_imul hx hb d_Mo_feed_96 ?_
    refine lv_tv (y := 16) (by decide) ?_
    refine lv_isub hx hb d_Mo_feed_97 ?_
    refine lv_tv (y := 8) (by decide) ?_
    refine lv_ishr hx hb d_Mo_feed_98 ?_
    refine lv_sipush (v := 255) hx hb d_Mo_feed_99 (by decide) ?_
    refine lv_iand hx hb d_Mo_feed_102 ?_
    refine va_iast hx hb hZ.1 hP hD hS 1 1 rfl rfl (vp_in_nI (by omega) (by omega)) d_Mo_feed_103 (fun H locs hP hD hS => ?_)
    rw [show ((nI (n + 1 + 1 + 1 + 1 + 1 + 1 + 1 + 1 + 1 + 1 + 1 + 1 + 1 + 1)).toNatClampNeg) = n + 1 + 1 + 1 + 1 + 1 + 1 + 1 + 1 + 1 + 1 + 1 + 1 + 1 + 1 from nI_clamp (by omega)] at hP hD
    have hP : va_P D classes [(mo, .inr (8, [.int 0, .int (nI (n + 1 + 1 + 1 + 1 + 1 + 1 + 1 + 1 + 1 + 1 + 1 + 1 + 1 + 1)), .ref m_row, .ref m_shelves, .ref m_many, .ref m_widths, .int (nI mk), .ref m_mark, .int z_shown, .ref m_shownMark, .int z_wasRun, .int z_wrong, .int z_ended, .int (nI sp), .int z_hints, .int z_hasWidth, .int z_width, .int z_first, .int z_moved, .int z_deepest, .int z_x, .int z_y, .int (nI t), .ref m_stack, .ref m_places, .int (nI d), .ref m_kinds, .ref m_ats, .ref m_ends])), (m_row, .inl (cI, 16384, .inl (upd (upd (upd (upd (upd (upd (upd (upd (upd (upd (upd (upd (upd (upd (upd g_row n ((x1 >>> (24 &&& 31)) &&& 255)) (n + 1) ((x1 >>> (16 &&& 31)) &&& 255)) (n + 1 + 1) ((x1 >>> (8 &&& 31)) &&& 255)) (n + 1 + 1 + 1) ((x1 >>> (0 &&& 31)) &&& 255)) (n + 1 + 1 + 1 + 1) ((x2 >>> (24 &&& 31)) &&& 255)) (n + 1 + 1 + 1 + 1 + 1) ((x2 >>> (16 &&& 31)) &&& 255)) (n + 1 + 1 + 1 + 1 + 1 + 1) ((x2 >>> (8 &&& 31)) &&& 255)) (n + 1 + 1 + 1 + 1 + 1 + 1 + 1) ((x2 >>> (0 &&& 31)) &&& 255)) (n + 1 + 1 + 1 + 1 + 1 + 1 + 1 + 1) ((x3 >>> (24 &&& 31)) &&& 255)) (n + 1 + 1 + 1 + 1 + 1 + 1 + 1 + 1 + 1) ((x3 >>> (16 &&& 31)) &&& 255)) (n + 1 + 1 + 1 + 1 + 1 + 1 + 1 + 1 + 1 + 1) ((x3 >>> (8 &&& 31)) &&& 255)) (n + 1 + 1 + 1 + 1 + 1 + 1 + 1 + 1 + 1 + 1 + 1) ((x3 >>> (0 &&& 31)) &&& 255)) (n + 1 + 1 + 1 + 1 + 1 + 1 + 1 + 1 + 1 + 1 + 1 + 1) ((x4 >>> (24 &&& 31)) &&& 255)) (n + 1 + 1 + 1 + 1 + 1 + 1 + 1 + 1 + 1 + 1 + 1 + 1 + 1) ((x4 >>> (16 &&& 31)) &&& 255)) (n + 1 + 1 + 1 + 1 + 1 + 1 + 1 + 1 + 1 + 1 + 1 + 1 + 1 + 1) ((x4 >>> (8 &&& 31)) &&& 255))))] H := hP
    have hD : va_D A_ [(mo, .inr (8, [.int 0, .int (nI (n + 1 + 1 + 1 + 1 + 1 + 1 + 1 + 1 + 1 + 1 + 1 + 1 + 1 + 1)), .ref m_row, .ref m_shelves, .ref m_many, .ref m_widths, .int (nI mk), .ref m_mark, .int z_shown, .ref m_shownMark, .int z_wasRun, .int z_wrong, .int z_ended, .int (nI sp), .int z_hints, .int z_hasWidth, .int z_width, .int z_first, .int z_moved, .int z_deepest, .int z_x, .int z_y, .int (nI t), .ref m_stack, .ref m_places, .int (nI d), .ref m_kinds, .ref m_ats, .ref m_ends])), (m_row, .inl (cI, 16384, .inl (upd (upd (upd (upd (upd (upd (upd (upd (upd (upd (upd (upd (upd (upd (upd g_row n ((x1 >>> (24 &&& 31)) &&& 255)) (n + 1) ((x1 >>> (16 &&& 31)) &&& 255)) (n + 1 + 1) ((x1 >>> (8 &&& 31)) &&& 255)) (n + 1 + 1 + 1) ((x1 >>> (0 &&& 31)) &&& 255)) (n + 1 + 1 + 1 + 1) ((x2 >>> (24 &&& 31)) &&& 255)) (n + 1 + 1 + 1 + 1 + 1) ((x2 >>> (16 &&& 31)) &&& 255)) (n + 1 + 1 + 1 + 1 + 1 + 1) ((x2 >>> (8 &&& 31)) &&& 255)) (n + 1 + 1 + 1 + 1 + 1 + 1 + 1) ((x2 >>> (0 &&& 31)) &&& 255)) (n + 1 + 1 + 1 + 1 + 1 + 1 + 1 + 1) ((x3 >>> (24 &&& 31)) &&& 255)) (n + 1 + 1 + 1 + 1 + 1 + 1 + 1 + 1 + 1) ((x3 >>> (16 &&& 31)) &&& 255)) (n + 1 + 1 + 1 + 1 + 1 + 1 + 1 + 1 + 1 + 1) ((x3 >>> (8 &&& 31)) &&& 255)) (n + 1 + 1 + 1 + 1 + 1 + 1 + 1 + 1 + 1 + 1 + 1) ((x3 >>> (0 &&& 31)) &&& 255)) (n + 1 + 1 + 1 + 1 + 1 + 1 + 1 + 1 + 1 + 1 + 1 + 1) ((x4 >>> (24 &&& 31)) &&& 255)) (n + 1 + 1 + 1 + 1 + 1 + 1 + 1 + 1 + 1 + 1 + 1 + 1 + 1) ((x4 >>> (16 &&& 31)) &&& 255)) (n + 1 + 1 + 1 + 1 + 1 + 1 + 1 + 1 + 1 + 1 + 1 + 1 + 1 + 1) ((x4 >>> (8 &&& 31)) &&& 255))))] := hD
    refine lv_aload_n hx hb d_Mo_feed_104 rfl (lv_at hl 2 rfl) ?_
    refine lv_dup hx hb d_Mo_feed_105 rfl ?_
    refine va_get (D := D) (ci := 8) (v := .int (nI (n + 1 + 1 + 1 + 1 + 1 + 1 + 1 + 1 + 1 + 1 + 1 + 1 + 1 + 1))) (C := R_Mo) (T := F_Mo) (N := 29) hx hb hts i_Mo hown hZ.1 hP 0 rfl rfl 1 (by decide) (hts _ fl_Mo_48) (fun _ h9 => h9) rfl d_Mo_feed_106 ?_
    refine lv_iconst (v := 1) hx hb d_Mo_feed_109 (by decide) ?_
    refine lv_iadd hx hb d_Mo_feed_110 ?_
    refine lv_tv (y := nI (n + 1 + 1 + 1 + 1 + 1 + 1 + 1 + 1 + 1 + 1 + 1 + 1 + 1 + 1 + 1)) (nI_add (n + 1 + 1 + 1 + 1 + 1 + 1 + 1 + 1 + 1 + 1 + 1 + 1 + 1 + 1) 1) ?_
    refine va_put (D := D) (ci := 8) (v := .int (nI (n + 1 + 1 + 1 + 1 + 1 + 1 + 1 + 1 + 1 + 1 + 1 + 1 + 1 + 1 + 1))) (ty := .int) (C := R_Mo) (T := F_Mo) (N := 29) hx hb hts i_Mo t_Mo t_Mo_ok n_Mo hown hZ.1 hP hD hS 0 rfl rfl 1 (by decide) (hts _ fl_Mo_48) (fun _ h9 => h9) rfl (by decide +kernel) rfl rfl (Nat.le_of_ble_eq_true rfl) d_Mo_feed_111 (fun H locs hP hD hS => ?_)
    have hP : va_P D classes [(mo, .inr (8, [.int 0, .int (nI (n + 1 + 1 + 1 + 1 + 1 + 1 + 1 + 1 + 1 + 1 + 1 + 1 + 1 + 1 + 1)), .ref m_row, .ref m_shelves, .ref m_many, .ref m_widths, .int (nI mk), .ref m_mark, .int z_shown, .ref m_shownMark, .int z_wasRun, .int z_wrong, .int z_ended, .int (nI sp), .int z_hints, .int z_hasWidth, .int z_width, .int z_first, .int z_moved, .int z_deepest, .int z_x, .int z_y, .int (nI t), .ref m_stack, .ref m_places, .int (nI d), .ref m_kinds, .ref m_ats, .ref m_ends])), (m_row, .inl (cI, 16384, .inl (upd (upd (upd (upd (upd (upd (upd (upd (upd (upd (upd (upd (upd (upd (upd g_row n ((x1 >>> (24 &&& 31)) &&& 255)) (n + 1) ((x1 >>> (16 &&& 31)) &&& 255)) (n + 1 + 1) ((x1 >>> (8 &&& 31)) &&& 255)) (n + 1 + 1 + 1) ((x1 >>> (0 &&& 31)) &&& 255)) (n + 1 + 1 + 1 + 1) ((x2 >>> (24 &&& 31)) &&& 255)) (n + 1 + 1 + 1 + 1 + 1) ((x2 >>> (16 &&& 31)) &&& 255)) (n + 1 + 1 + 1 + 1 + 1 + 1) ((x2 >>> (8 &&& 31)) &&& 255)) (n + 1 + 1 + 1 + 1 + 1 + 1 + 1) ((x2 >>> (0 &&& 31)) &&& 255)) (n + 1 + 1 + 1 + 1 + 1 + 1 + 1 + 1) ((x3 >>> (24 &&& 31)) &&& 255)) (n + 1 + 1 + 1 + 1 + 1 + 1 + 1 + 1 + 1) ((x3 >>> (16 &&& 31)) &&& 255)) (n + 1 + 1 + 1 + 1 + 1 + 1 + 1 + 1 + 1 + 1) ((x3 >>> (8 &&& 31)) &&& 255)) (n + 1 + 1 + 1 + 1 + 1 + 1 + 1 + 1 + 1 + 1 + 1) ((x3 >>> (0 &&& 31)) &&& 255)) (n + 1 + 1 + 1 + 1 + 1 + 1 + 1 + 1 + 1 + 1 + 1 + 1) ((x4 >>> (24 &&& 31)) &&& 255)) (n + 1 + 1 + 1 + 1 + 1 + 1 + 1 + 1 + 1 + 1 + 1 + 1 + 1) ((x4 >>> (16 &&& 31)) &&& 255)) (n + 1 + 1 + 1 + 1 + 1 + 1 + 1 + 1 + 1 + 1 + 1 + 1 + 1 + 1) ((x4 >>> (8 &&& 31)) &&& 255))))] H := hP
    have hD : va_D A_ [(mo, .inr (8, [.int 0, .int (nI (n + 1 + 1 + 1 + 1 + 1 + 1 + 1 + 1 + 1 + 1 + 1 + 1 + 1 + 1 + 1)), .ref m_row, .ref m_shelves, .ref m_many, .ref m_widths, .int (nI mk), .ref m_mark, .int z_shown, .ref m_shownMark, .int z_wasRun, .int z_wrong, .int z_ended, .int (nI sp), .int z_hints, .int z_hasWidth, .int z_width, .int z_first, .int z_moved, .int z_deepest, .int z_x, .int z_y, .int (nI t), .ref m_stack, .ref m_places, .int (nI d), .ref m_kinds, .ref m_ats, .ref m_ends])), (m_row, .inl (cI, 16384, .inl (upd (upd (upd (upd (upd (upd (upd (upd (upd (upd (upd (upd (upd (upd (upd g_row n ((x1 >>> (24 &&& 31)) &&& 255)) (n + 1) ((x1 >>> (16 &&& 31)) &&& 255)) (n + 1 + 1) ((x1 >>> (8 &&& 31)) &&& 255)) (n + 1 + 1 + 1) ((x1 >>> (0 &&& 31)) &&& 255)) (n + 1 + 1 + 1 + 1) ((x2 >>> (24 &&& 31)) &&& 255)) (n + 1 + 1 + 1 + 1 + 1) ((x2 >>> (16 &&& 31)) &&& 255)) (n + 1 + 1 + 1 + 1 + 1 + 1) ((x2 >>> (8 &&& 31)) &&& 255)) (n + 1 + 1 + 1 + 1 + 1 + 1 + 1) ((x2 >>> (0 &&& 31)) &&& 255)) (n + 1 + 1 + 1 + 1 + 1 + 1 + 1 + 1) ((x3 >>> (24 &&& 31)) &&& 255)) (n + 1 + 1 + 1 + 1 + 1 + 1 + 1 + 1 + 1) ((x3 >>> (16 &&& 31)) &&& 255)) (n + 1 + 1 + 1 + 1 + 1 + 1 + 1 + 1 + 1 + 1) ((x3 >>> (8 &&& 31)) &&& 255)) (n + 1 + 1 + 1 + 1 + 1 + 1 + 1 + 1 + 1 + 1 + 1) ((x3 >>> (0 &&& 31)) &&& 255)) (n + 1 + 1 + 1 + 1 + 1 + 1 + 1 + 1 + 1 + 1 + 1 + 1) ((x4 >>> (24 &&& 31)) &&& 255)) (n + 1 + 1 + 1 + 1 + 1 + 1 + 1 + 1 + 1 + 1 + 1 + 1 + 1) ((x4 >>> (16 &&& 31)) &&& 255)) (n + 1 + 1 + 1 + 1 + 1 + 1 + 1 + 1 + 1 + 1 + 1 + 1 + 1 + 1) ((x4 >>> (8 &&& 31)) &&& 255))))] := hD
    refine lv_iinc (v := 15) (lv' := [(6, .int 15), (7, .int x4), (0, .ref mo), (1, .int x1), (2, .int x2), (3, .int x3), (4, .int x4), (5, .int x5)]) hx hb d_Mo_feed_114 hl (k := 1) rfl (by decide) (by decide) rfl (fun ls hl => ?_)
    refine lv_goto (tgt := 23) hx hb d_Mo_feed_117 (by decide) ?_
    refine lv_iload hx hb d_Mo_feed_23 (lv_at hl 0 rfl) ?_
    refine lv_bipush (v := 20) hx hb d_Mo_feed_25 (by decide) ?_
    refine lv_icmp_ge (tgt := 120) hx hb d_Mo_feed_27 (by decide) (fun c_27 => absurd c_27 (by decide)) (fun c_27 => ?_)
    clear c_27
    refine lv_iload hx hb d_Mo_feed_30 (lv_at hl 0 rfl) ?_
    refine lv_iconst (v := 4) hx hb d_Mo_feed_32 (by decide) ?_
    refine lv_icmp_ge (tgt := 40) hx hb d_Mo_feed_33 (by decide) (fun c_33 => ?_) (fun c_33 => absurd (by decide) c_33)
    clear c_33
    refine lv_iload hx hb d_Mo_feed_40 (lv_at hl 0 rfl) ?_
    refine lv_bipush (v := 8) hx hb d_Mo_feed_42 (by decide) ?_
    refine lv_icmp_ge (tgt := 51) hx hb d_Mo_feed_44 (by decide) (fun c_44 => ?_) (fun c_44 => absurd (by decide) c_44)
    clear c_44
    refine lv_iload hx hb d_Mo_feed_51 (lv_at hl 0 rfl) ?_
    refine lv_bipush (v := 12) hx hb d_Mo_feed_53 (by decide) ?_
    refine lv_icmp_ge (tgt := 62) hx hb d_Mo_feed_55 (by decide) (fun c_55 => ?_) (fun c_55 => absurd (by decide) c_55)
    clear c_55
    refine lv_iload hx hb d_Mo_feed_62 (lv_at hl 0 rfl) ?_
    refine lv_bipush (v := 16) hx hb d_Mo_feed_64 (by decide) ?_
    refine lv_icmp_ge (tgt := 74) hx hb d_Mo_feed_66 (by decide) (fun c_66 => absurd c_66 (by decide)) (fun c_66 => ?_)
    clear c_66
    refine lv_iload hx hb d_Mo_feed_69 (lv_at hl 6 rfl) ?_
    refine lv_goto (tgt := 76) hx hb d_Mo_feed_71 (by decide) ?_
    refine lv_istore (lv' := [(7, .int x4), (6, .int 15), (0, .ref mo), (1, .int x1), (2, .int x2), (3, .int x3), (4, .int x4), (5, .int x5)]) hx hb d_Mo_feed_76 hl (by decide) rfl (fun ls hl => ?_)
    refine lv_aload_n hx hb d_Mo_feed_78 rfl (lv_at hl 2 rfl) ?_
    refine va_get (D := D) (ci := 8) (v := .ref m_row) (C := R_Mo) (T := F_Mo) (N := 29) hx hb hts i_Mo hown hZ.1 hP 0 rfl rfl 2 (by decide) (hts _ fl_Mo_7) (fun _ h9 => h9) rfl d_Mo_feed_79 ?_
    refine lv_aload_n hx hb d_Mo_feed_82 rfl (lv_at hl 2 rfl) ?_
    refine va_get (D := D) (ci := 8) (v := .int (nI (n + 1 + 1 + 1 + 1 + 1 + 1 + 1 + 1 + 1 + 1 + 1 + 1 + 1 + 1 + 1))) (C := R_Mo) (T := F_Mo) (N := 29) hx hb hts i_Mo hown hZ.1 hP 0 rfl rfl 1 (by decide) (hts _ fl_Mo_48) (fun _ h9 => h9) rfl d_Mo_feed_83 ?_
    refine lv_iload hx hb d_Mo_feed_86 (lv_at hl 0 rfl) ?_
    refine lv_bipush (v := 24) hx hb d_Mo_feed_88 (by decide) ?_
    refine lv_bipush (v := 8) hx hb d_Mo_feed_90 (by decide) ?_
    refine lv_iload hx hb d_Mo_feed_92 (lv_at hl 1 rfl) ?_
    refine lv_iconst (v := 4) hx hb d_Mo_feed_94 (by decide) ?_
    refine lv_irem hx hb d_Mo_feed_95 (by decide) ?_
    refine lv_tv (y := 3) (by decide) ?_
    refine lv_imul hx hb d_Mo_feed_96 ?_
    refine lv_tv (y := 24) (by decide) ?_
    refine lv_isub hx hb d_Mo_feed_97 ?_
    refine lv_tv (y := 0) (by decide) ?_
    refine lv_ishr hx hb d_Mo_feed_98 ?_
    refine lv_sipush (v := 255) hx hb d_Mo_feed_99 (by decide) ?_
    refine lv_iand hx hb d_Mo_feed_102 ?_
    refine va_iast hx hb hZ.1 hP hD hS 1 1 rfl rfl (vp_in_nI (by omega) (by omega)) d_Mo_feed_103 (fun H locs hP hD hS => ?_)
    rw [show ((nI (n + 1 + 1 + 1 + 1 + 1 + 1 + 1 + 1 + 1 + 1 + 1 + 1 + 1 + 1 + 1)).toNatClampNeg) = n + 1 + 1 + 1 + 1 + 1 + 1 + 1 + 1 + 1 + 1 + 1 + 1 + 1 + 1 + 1 from nI_clamp (by omega)] at hP hD
    have hP : va_P D classes [(mo, .inr (8, [.int 0, .int (nI (n + 1 + 1 + 1 + 1 + 1 + 1 + 1 + 1 + 1 + 1 + 1 + 1 + 1 + 1 + 1)), .ref m_row, .ref m_shelves, .ref m_many, .ref m_widths, .int (nI mk), .ref m_mark, .int z_shown, .ref m_shownMark, .int z_wasRun, .int z_wrong, .int z_ended, .int (nI sp), .int z_hints, .int z_hasWidth, .int z_width, .int z_first, .int z_moved, .int z_deepest, .int z_x, .int z_y, .int (nI t), .ref m_stack, .ref m_places, .int (nI d), .ref m_kinds, .ref m_ats, .ref m_ends])), (m_row, .inl (cI, 16384, .inl (upd (upd (upd (upd (upd (upd (upd (upd (upd (upd (upd (upd (upd (upd (upd (upd g_row n ((x1 >>> (24 &&& 31)) &&& 255)) (n + 1) ((x1 >>> (16 &&& 31)) &&& 255)) (n + 1 + 1) ((x1 >>> (8 &&& 31)) &&& 255)) (n + 1 + 1 + 1) ((x1 >>> (0 &&& 31)) &&& 255)) (n + 1 + 1 + 1 + 1) ((x2 >>> (24 &&& 31)) &&& 255)) (n + 1 + 1 + 1 + 1 + 1) ((x2 >>> (16 &&& 31)) &&& 255)) (n + 1 + 1 + 1 + 1 + 1 + 1) ((x2 >>> (8 &&& 31)) &&& 255)) (n + 1 + 1 + 1 + 1 + 1 + 1 + 1) ((x2 >>> (0 &&& 31)) &&& 255)) (n + 1 + 1 + 1 + 1 + 1 + 1 + 1 + 1) ((x3 >>> (24 &&& 31)) &&& 255)) (n + 1 + 1 + 1 + 1 + 1 + 1 + 1 + 1 + 1) ((x3 >>> (16 &&& 31)) &&& 255)) (n + 1 + 1 + 1 + 1 + 1 + 1 + 1 + 1 + 1 + 1) ((x3 >>> (8 &&& 31)) &&& 255)) (n + 1 + 1 + 1 + 1 + 1 + 1 + 1 + 1 + 1 + 1 + 1) ((x3 >>> (0 &&& 31)) &&& 255)) (n + 1 + 1 + 1 + 1 + 1 + 1 + 1 + 1 + 1 + 1 + 1 + 1) ((x4 >>> (24 &&& 31)) &&& 255)) (n + 1 + 1 + 1 + 1 + 1 + 1 + 1 + 1 + 1 + 1 + 1 + 1 + 1) ((x4 >>> (16 &&& 31)) &&& 255)) (n + 1 + 1 + 1 + 1 + 1 + 1 + 1 + 1 + 1 + 1 + 1 + 1 + 1 + 1) ((x4 >>> (8 &&& 31)) &&& 255)) (n + 1 + 1 + 1 + 1 + 1 + 1 + 1 + 1 + 1 + 1 + 1 + 1 + 1 + 1 + 1) ((x4 >>> (0 &&& 31)) &&& 255))))] H := hP
    have hD : va_D A_ [(mo, .inr (8, [.int 0, .int (nI (n + 1 + 1 + 1 + 1 + 1 + 1 + 1 + 1 + 1 + 1 + 1 + 1 + 1 + 1 + 1)), .ref m_row, .ref m_shelves, .ref m_many, .ref m_widths, .int (nI mk), .ref m_mark, .int z_shown, .ref m_shownMark, .int z_wasRun, .int z_wrong, .int z_ended, .int (nI sp), .int z_hints, .int z_hasWidth, .int z_width, .int z_first, .int z_moved, .int z_deepest, .int z_x, .int z_y, .int (nI t), .ref m_stack, .ref m_places, .int (nI d), .ref m_kinds, .ref m_ats, .ref m_ends])), (m_row, .inl (cI, 16384, .inl (upd (upd (upd (upd (upd (upd (upd (upd (upd (upd (upd (upd (upd (upd (upd (upd g_row n ((x1 >>> (24 &&& 31)) &&& 255)) (n + 1) ((x1 >>> (16 &&& 31)) &&& 255)) (n + 1 + 1) ((x1 >>> (8 &&& 31)) &&& 255)) (n + 1 + 1 + 1) ((x1 >>> (0 &&& 31)) &&& 255)) (n + 1 + 1 + 1 + 1) ((x2 >>> (24 &&& 31)) &&& 255)) (n + 1 + 1 + 1 + 1 + 1) ((x2 >>> (16 &&& 31)) &&& 255)) (n + 1 + 1 + 1 + 1 + 1 + 1) ((x2 >>> (8 &&& 31)) &&& 255)) (n + 1 + 1 + 1 + 1 + 1 + 1 + 1) ((x2 >>> (0 &&& 31)) &&& 255)) (n + 1 + 1 + 1 + 1 + 1 + 1 + 1 + 1) ((x3 >>> (24 &&& 31)) &&& 255)) (n + 1 + 1 + 1 + 1 + 1 + 1 + 1 + 1 + 1) ((x3 >>> (16 &&& 31)) &&& 255)) (n + 1 + 1 + 1 + 1 + 1 + 1 + 1 + 1 + 1 + 1) ((x3 >>> (8 &&& 31)) &&& 255)) (n + 1 + 1 + 1 + 1 + 1 + 1 + 1 + 1 + 1 + 1 + 1) ((x3 >>> (0 &&& 31)) &&& 255)) (n + 1 + 1 + 1 + 1 + 1 + 1 + 1 + 1 + 1 + 1 + 1 + 1) ((x4 >>> (24 &&& 31)) &&& 255)) (n + 1 + 1 + 1 + 1 + 1 + 1 + 1 + 1 + 1 + 1 + 1 + 1 + 1) ((x4 >>> (16 &&& 31)) &&& 255)) (n + 1 + 1 + 1 + 1 + 1 + 1 + 1 + 1 + 1 + 1 + 1 + 1 + 1 + 1) ((x4 >>> (8 &&& 31)) &&& 255)) (n + 1 + 1 + 1 + 1 + 1 + 1 + 1 + 1 + 1 + 1 + 1 + 1 + 1 + 1 + 1) ((x4 >>> (0 &&& 31)) &&& 255))))] := hD
    refine lv_aload_n hx hb d_Mo_feed_104 rfl (lv_at hl 2 rfl) ?_
    refine lv_dup hx hb d_Mo_feed_105 rfl ?_
    refine va_get (D := D) (ci := 8) (v := .int (nI (n + 1 + 1 + 1 + 1 + 1 + 1 + 1 + 1 + 1 + 1 + 1 + 1 + 1 + 1 + 1))) (C := R_Mo) (T := F_Mo) (N := 29) hx hb hts i_Mo hown hZ.1 hP 0 rfl rfl 1 (by decide) (hts _ fl_Mo_48) (fun _ h9 => h9) rfl d_Mo_feed_106 ?_
    refine lv_iconst (v := 1) hx hb d_Mo_feed_109 (by decide) ?_
    refine lv_iadd hx hb d_Mo_feed_110 ?_
    refine lv_tv (y := nI (n + 1 + 1 + 1 + 1 + 1 + 1 + 1 + 1 + 1 + 1 + 1 + 1 + 1 + 1 + 1 + 1)) (nI_add (n + 1 + 1 + 1 + 1 + 1 + 1 + 1 + 1 + 1 + 1 + 1 + 1 + 1 + 1 + 1) 1) ?_
    refine va_put (D := D) (ci := 8) (v := .int (nI (n + 1 + 1 + 1 + 1 + 1 + 1 + 1 + 1 + 1 + 1 + 1 + 1 + 1 + 1 + 1 + 1))) (ty := .int) (C := R_Mo) (T := F_Mo) (N := 29) hx hb hts i_Mo t_Mo t_Mo_ok n_Mo hown hZ.1 hP hD hS 0 rfl rfl 1 (by decide) (hts _ fl_Mo_48) (fun _ h9 => h9) rfl (by decide +kernel) rfl rfl (Nat.le_of_ble_eq_true rfl) d_Mo_feed_111 (fun H locs hP hD hS => ?_)
    have hP : va_P D classes [(mo, .inr (8, [.int 0, .int (nI (n + 1 + 1 + 1 + 1 + 1 + 1 + 1 + 1 + 1 + 1 + 1 + 1 + 1 + 1 + 1 + 1)), .ref m_row, .ref m_shelves, .ref m_many, .ref m_widths, .int (nI mk), .ref m_mark, .int z_shown, .ref m_shownMark, .int z_wasRun, .int z_wrong, .int z_ended, .int (nI sp), .int z_hints, .int z_hasWidth, .int z_width, .int z_first, .int z_moved, .int z_deepest, .int z_x, .int z_y, .int (nI t), .ref m_stack, .ref m_places, .int (nI d), .ref m_kinds, .ref m_ats, .ref m_ends])), (m_row, .inl (cI, 16384, .inl (upd (upd (upd (upd (upd (upd (upd (upd (upd (upd (upd (upd (upd (upd (upd (upd g_row n ((x1 >>> (24 &&& 31)) &&& 255)) (n + 1) ((x1 >>> (16 &&& 31)) &&& 255)) (n + 1 + 1) ((x1 >>> (8 &&& 31)) &&& 255)) (n + 1 + 1 + 1) ((x1 >>> (0 &&& 31)) &&& 255)) (n + 1 + 1 + 1 + 1) ((x2 >>> (24 &&& 31)) &&& 255)) (n + 1 + 1 + 1 + 1 + 1) ((x2 >>> (16 &&& 31)) &&& 255)) (n + 1 + 1 + 1 + 1 + 1 + 1) ((x2 >>> (8 &&& 31)) &&& 255)) (n + 1 + 1 + 1 + 1 + 1 + 1 + 1) ((x2 >>> (0 &&& 31)) &&& 255)) (n + 1 + 1 + 1 + 1 + 1 + 1 + 1 + 1) ((x3 >>> (24 &&& 31)) &&& 255)) (n + 1 + 1 + 1 + 1 + 1 + 1 + 1 + 1 + 1) ((x3 >>> (16 &&& 31)) &&& 255)) (n + 1 + 1 + 1 + 1 + 1 + 1 + 1 + 1 + 1 + 1) ((x3 >>> (8 &&& 31)) &&& 255)) (n + 1 + 1 + 1 + 1 + 1 + 1 + 1 + 1 + 1 + 1 + 1) ((x3 >>> (0 &&& 31)) &&& 255)) (n + 1 + 1 + 1 + 1 + 1 + 1 + 1 + 1 + 1 + 1 + 1 + 1) ((x4 >>> (24 &&& 31)) &&& 255)) (n + 1 + 1 + 1 + 1 + 1 + 1 + 1 + 1 + 1 + 1 + 1 + 1 + 1) ((x4 >>> (16 &&& 31)) &&& 255)) (n + 1 + 1 + 1 + 1 + 1 + 1 + 1 + 1 + 1 + 1 + 1 + 1 + 1 + 1) ((x4 >>> (8 &&& 31)) &&& 255)) (n + 1 + 1 + 1 + 1 + 1 + 1 + 1 + 1 + 1 + 1 + 1 + 1 + 1 + 1 + 1) ((x4 >>> (0 &&& 31)) &&& 255))))] H := hP
    have hD : va_D A_ [(mo, .inr (8, [.int 0, .int (nI (n + 1 + 1 + 1 + 1 + 1 + 1 + 1 + 1 + 1 + 1 + 1 + 1 + 1 + 1 + 1 + 1)), .ref m_row, .ref m_shelves, .ref m_many, .ref m_widths, .int (nI mk), .ref m_mark, .int z_shown, .ref m_shownMark, .int z_wasRun, .int z_wrong, .int z_ended, .int (nI sp), .int z_hints, .int z_hasWidth, .int z_width, .int z_first, .int z_moved, .int z_deepest, .int z_x, .int z_y, .int (nI t), .ref m_stack, .ref m_places, .int (nI d), .ref m_kinds, .ref m_ats, .ref m_ends])), (m_row, .inl (cI, 16384, .inl (upd (upd (upd (upd (upd (upd (upd (upd (upd (upd (upd (upd (upd (upd (upd (upd g_row n ((x1 >>> (24 &&& 31)) &&& 255)) (n + 1) ((x1 >>> (16 &&& 31)) &&& 255)) (n + 1 + 1) ((x1 >>> (8 &&& 31)) &&& 255)) (n + 1 + 1 + 1) ((x1 >>> (0 &&& 31)) &&& 255)) (n + 1 + 1 + 1 + 1) ((x2 >>> (24 &&& 31)) &&& 255)) (n + 1 + 1 + 1 + 1 + 1) ((x2 >>> (16 &&& 31)) &&& 255)) (n + 1 + 1 + 1 + 1 + 1 + 1) ((x2 >>> (8 &&& 31)) &&& 255)) (n + 1 + 1 + 1 + 1 + 1 + 1 + 1) ((x2 >>> (0 &&& 31)) &&& 255)) (n + 1 + 1 + 1 + 1 + 1 + 1 + 1 + 1) ((x3 >>> (24 &&& 31)) &&& 255)) (n + 1 + 1 + 1 + 1 + 1 + 1 + 1 + 1 + 1) ((x3 >>> (16 &&& 31)) &&& 255)) (n + 1 + 1 + 1 + 1 + 1 + 1 + 1 + 1 + 1 + 1) ((x3 >>> (8 &&& 31)) &&& 255)) (n + 1 + 1 + 1 + 1 + 1 + 1 + 1 + 1 + 1 + 1 + 1) ((x3 >>> (0 &&& 31)) &&& 255)) (n + 1 + 1 + 1 + 1 + 1 + 1 + 1 + 1 + 1 + 1 + 1 + 1) ((x4 >>> (24 &&& 31)) &&& 255)) (n + 1 + 1 + 1 + 1 + 1 + 1 + 1 + 1 + 1 + 1 + 1 + 1 + 1) ((x4 >>> (16 &&& 31)) &&& 255)) (n + 1 + 1 + 1 + 1 + 1 + 1 + 1 + 1 + 1 + 1 + 1 + 1 + 1 + 1) ((x4 >>> (8 &&& 31)) &&& 255)) (n + 1 + 1 + 1 + 1 + 1 + 1 + 1 + 1 + 1 + 1 + 1 + 1 + 1 + 1 + 1) ((x4 >>> (0 &&& 31)) &&& 255))))] := hD
    refine lv_iinc (v := 16) (lv' := [(6, .int 16), (7, .int x4), (0, .ref mo), (1, .int x1), (2, .int x2), (3, .int x3), (4, .int x4), (5, .int x5)]) hx hb d_Mo_feed_114 hl (k := 1) rfl (by decide) (by decide) rfl (fun ls hl => ?_)
    refine lv_goto (tgt := 23) hx hb d_Mo_feed_117 (by decide) ?_
    refine lv_iload hx hb d_Mo_feed_23 (lv_at hl 0 rfl) ?_
    refine lv_bipush (v := 20) hx hb d_Mo_feed_25 (by decide) ?_
    refine lv_icmp_ge (tgt := 120) hx hb d_Mo_feed_27 (by decide) (fun c_27 => absurd c_27 (by decide)) (fun c_27 => ?_)
    clear c_27
    refine lv_iload hx hb d_Mo_feed_30 (lv_at hl 0 rfl) ?_
    refine lv_iconst (v := 4) hx hb d_Mo_feed_32 (by decide) ?_
    refine lv_icmp_ge (tgt := 40) hx hb d_Mo_feed_33 (by decide) (fun c_33 => ?_) (fun c_33 => absurd (by decide) c_33)
    clear c_33
    refine lv_iload hx hb d_Mo_feed_40 (lv_at hl 0 rfl) ?_
    refine lv_bipush (v := 8) hx hb d_Mo_feed_42 (by decide) ?_
    refine lv_icmp_ge (tgt := 51) hx hb d_Mo_feed_44 (by decide) (fun c_44 => ?_) (fun c_44 => absurd (by decide) c_44)
    clear c_44
    refine lv_iload hx hb d_Mo_feed_51 (lv_at hl 0 rfl) ?_
    refine lv_bipush (v := 12) hx hb d_Mo_feed_53 (by decide) ?_
    refine lv_icmp_ge (tgt := 62) hx hb d_Mo_feed_55 (by decide) (fun c_55 => ?_) (fun c_55 => absurd (by decide) c_55)
    clear c_55
    refine lv_iload hx hb d_Mo_feed_62 (lv_at hl 0 rfl) ?_
    refine lv_bipush (v := 16) hx hb d_Mo_feed_64 (by decide) ?_
    refine lv_icmp_ge (tgt := 74) hx hb d_Mo_feed_66 (by decide) (fun c_66 => ?_) (fun c_66 => absurd (by decide) c_66)
    clear c_66
    refine lv_iload hx hb d_Mo_feed_74 (lv_at hl 7 rfl) ?_
    refine lv_istore (lv' := [(7, .int x5), (6, .int 16), (0, .ref mo), (1, .int x1), (2, .int x2), (3, .int x3), (4, .int x4), (5, .int x5)]) hx hb d_Mo_feed_76 hl (by decide) rfl (fun ls hl => ?_)
    refine lv_aload_n hx hb d_Mo_feed_78 rfl (lv_at hl 2 rfl) ?_
    refine va_get (D := D) (ci := 8) (v := .ref m_row) (C := R_Mo) (T := F_Mo) (N := 29) hx hb hts i_Mo hown hZ.1 hP 0 rfl rfl 2 (by decide) (hts _ fl_Mo_7) (fun _ h9 => h9) rfl d_Mo_feed_79 ?_
    refine lv_aload_n hx hb d_Mo_feed_82 rfl (lv_at hl 2 rfl) ?_
    refine va_get (D := D) (ci := 8) (v := .int (nI (n + 1 + 1 + 1 + 1 + 1 + 1 + 1 + 1 + 1 + 1 + 1 + 1 + 1 + 1 + 1 + 1))) (C := R_Mo) (T := F_Mo) (N := 29) hx hb hts i_Mo hown hZ.1 hP 0 rfl rfl 1 (by decide) (hts _ fl_Mo_48) (fun _ h9 => h9) rfl d_Mo_feed_83 ?_
    refine lv_iload hx hb d_Mo_feed_86 (lv_at hl 0 rfl) ?_
    refine lv_bipush (v := 24) hx hb d_Mo_feed_88 (by decide) ?_
    refine lv_bipush (v := 8) hx hb d_Mo_feed_90 (by decide) ?_
    refine lv_iload hx hb d_Mo_feed_92 (lv_at hl 1 rfl) ?_
    refine lv_iconst (v := 4) hx hb d_Mo_feed_94 (by decide) ?_
    refine lv_irem hx hb d_Mo_feed_95 (by decide) ?_
    refine lv_tv (y := 0) (by decide) ?_
    refine lv_imul hx hb d_Mo_feed_96 ?_
    refine lv_tv (y := 0) (by decide) ?_
    refine lv_isub hx hb d_Mo_feed_97 ?_
    refine lv_tv (y := 24) (by decide) ?_
    refine lv_ishr hx hb d_Mo_feed_98 ?_
    refine lv_sipush (v := 255) hx hb d_Mo_feed_99 (by decide) ?_
    refine lv_iand hx hb d_Mo_feed_102 ?_
    refine va_iast hx hb hZ.1 hP hD hS 1 1 rfl rfl (vp_in_nI (by omega) (by omega)) d_Mo_feed_103 (fun H locs hP hD hS => ?_)
    rw [show ((nI (n + 1 + 1 + 1 + 1 + 1 + 1 + 1 + 1 + 1 + 1 + 1 + 1 + 1 + 1 + 1 + 1)).toNatClampNeg) = n + 1 + 1 + 1 + 1 + 1 + 1 + 1 + 1 + 1 + 1 + 1 + 1 + 1 + 1 + 1 + 1 from nI_clamp (by omega)] at hP hD
    have hP : va_P D classes [(mo, .inr (8, [.int 0, .int (nI (n + 1 + 1 + 1 + 1 + 1 + 1 + 1 + 1 + 1 + 1 + 1 + 1 + 1 + 1 + 1 + 1)), .ref m_row, .ref m_shelves, .ref m_many, .ref m_widths, .int (nI mk), .ref m_mark, .int z_shown, .ref m_shownMark, .int z_wasRun, .int z_wrong, .int z_ended, .int (nI sp), .int z_hints, .int z_hasWidth, .int z_width, .int z_first, .int z_moved, .int z_deepest, .int z_x, .int z_y, .int (nI t), .ref m_stack, .ref m_places, .int (nI d), .ref m_kinds, .ref m_ats, .ref m_ends])), (m_row, .inl (cI, 16384, .inl (upd (upd (upd (upd (upd (upd (upd (upd (upd (upd (upd (upd (upd (upd (upd (upd (upd g_row n ((x1 >>> (24 &&& 31)) &&& 255)) (n + 1) ((x1 >>> (16 &&& 31)) &&& 255)) (n + 1 + 1) ((x1 >>> (8 &&& 31)) &&& 255)) (n + 1 + 1 + 1) ((x1 >>> (0 &&& 31)) &&& 255)) (n + 1 + 1 + 1 + 1) ((x2 >>> (24 &&& 31)) &&& 255)) (n + 1 + 1 + 1 + 1 + 1) ((x2 >>> (16 &&& 31)) &&& 255)) (n + 1 + 1 + 1 + 1 + 1 + 1) ((x2 >>> (8 &&& 31)) &&& 255)) (n + 1 + 1 + 1 + 1 + 1 + 1 + 1) ((x2 >>> (0 &&& 31)) &&& 255)) (n + 1 + 1 + 1 + 1 + 1 + 1 + 1 + 1) ((x3 >>> (24 &&& 31)) &&& 255)) (n + 1 + 1 + 1 + 1 + 1 + 1 + 1 + 1 + 1) ((x3 >>> (16 &&& 31)) &&& 255)) (n + 1 + 1 + 1 + 1 + 1 + 1 + 1 + 1 + 1 + 1) ((x3 >>> (8 &&& 31)) &&& 255)) (n + 1 + 1 + 1 + 1 + 1 + 1 + 1 + 1 + 1 + 1 + 1) ((x3 >>> (0 &&& 31)) &&& 255)) (n + 1 + 1 + 1 + 1 + 1 + 1 + 1 + 1 + 1 + 1 + 1 + 1) ((x4 >>> (24 &&& 31)) &&& 255)) (n + 1 + 1 + 1 + 1 + 1 + 1 + 1 + 1 + 1 + 1 + 1 + 1 + 1) ((x4 >>> (16 &&& 31)) &&& 255)) (n + 1 + 1 + 1 + 1 + 1 + 1 + 1 + 1 + 1 + 1 + 1 + 1 + 1 + 1) ((x4 >>> (8 &&& 31)) &&& 255)) (n + 1 + 1 + 1 + 1 + 1 + 1 + 1 + 1 + 1 + 1 + 1 + 1 + 1 + 1 + 1) ((x4 >>> (0 &&& 31)) &&& 255)) (n + 1 + 1 + 1 + 1 + 1 + 1 + 1 + 1 + 1 + 1 + 1 + 1 + 1 + 1 + 1 + 1) ((x5 >>> (24 &&& 31)) &&& 255))))] H := hP
    have hD : va_D A_ [(mo, .inr (8, [.int 0, .int (nI (n + 1 + 1 + 1 + 1 + 1 + 1 + 1 + 1 + 1 + 1 + 1 + 1 + 1 + 1 + 1 + 1)), .ref m_row, .ref m_shelves, .ref m_many, .ref m_widths, .int (nI mk), .ref m_mark, .int z_shown, .ref m_shownMark, .int z_wasRun, .int z_wrong, .int z_ended, .int (nI sp), .int z_hints, .int z_hasWidth, .int z_width, .int z_first, .int z_moved, .int z_deepest, .int z_x, .int z_y, .int (nI t), .ref m_stack, .ref m_places, .int (nI d), .ref m_kinds, .ref m_ats, .ref m_ends])), (m_row, .inl (cI, 16384, .inl (upd (upd (upd (upd (upd (upd (upd (upd (upd (upd (upd (upd (upd (upd (upd (upd (upd g_row n ((x1 >>> (24 &&& 31)) &&& 255)) (n + 1) ((x1 >>> (16 &&& 31)) &&& 255)) (n + 1 + 1) ((x1 >>> (8 &&& 31)) &&& 255)) (n + 1 + 1 + 1) ((x1 >>> (0 &&& 31)) &&& 255)) (n + 1 + 1 + 1 + 1) ((x2 >>> (24 &&& 31)) &&& 255)) (n + 1 + 1 + 1 + 1 + 1) ((x2 >>> (16 &&& 31)) &&& 255)) (n + 1 + 1 + 1 + 1 + 1 + 1) ((x2 >>> (8 &&& 31)) &&& 255)) (n + 1 + 1 + 1 + 1 + 1 + 1 + 1) ((x2 >>> (0 &&& 31)) &&& 255)) (n + 1 + 1 + 1 + 1 + 1 + 1 + 1 + 1) ((x3 >>> (24 &&& 31)) &&& 255)) (n + 1 + 1 + 1 + 1 + 1 + 1 + 1 + 1 + 1) ((x3 >>> (16 &&& 31)) &&& 255)) (n + 1 + 1 + 1 + 1 + 1 + 1 + 1 + 1 + 1 + 1) ((x3 >>> (8 &&& 31)) &&& 255)) (n + 1 + 1 + 1 + 1 + 1 + 1 + 1 + 1 + 1 + 1 + 1) ((x3 >>> (0 &&& 31)) &&& 255)) (n + 1 + 1 + 1 + 1 + 1 + 1 + 1 + 1 + 1 + 1 + 1 + 1) ((x4 >>> (24 &&& 31)) &&& 255)) (n + 1 + 1 + 1 + 1 + 1 + 1 + 1 + 1 + 1 + 1 + 1 + 1 + 1) ((x4 >>> (16 &&& 31)) &&& 255)) (n + 1 + 1 + 1 + 1 + 1 + 1 + 1 + 1 + 1 + 1 + 1 + 1 + 1 + 1) ((x4 >>> (8 &&& 31)) &&& 255)) (n + 1 + 1 + 1 + 1 + 1 + 1 + 1 + 1 + 1 + 1 + 1 + 1 + 1 + 1 + 1) ((x4 >>> (0 &&& 31)) &&& 255)) (n + 1 + 1 + 1 + 1 + 1 + 1 + 1 + 1 + 1 + 1 + 1 + 1 + 1 + 1 + 1 + 1) ((x5 >>> (24 &&& 31)) &&& 255))))] := hD
    refine lv_aload_n hx hb d_Mo_feed_104 rfl (lv_at hl 2 rfl) ?_
    refine lv_dup hx hb d_Mo_feed_105 rfl ?_
    refine va_get (D := D) (ci := 8) (v := .int (nI (n + 1 + 1 + 1 + 1 + 1 + 1 + 1 + 1 + 1 + 1 + 1 + 1 + 1 + 1 + 1 + 1))) (C := R_Mo) (T := F_Mo) (N := 29) hx hb hts i_Mo hown hZ.1 hP 0 rfl rfl 1 (by decide) (hts _ fl_Mo_48) (fun _ h9 => h9) rfl d_Mo_feed_106 ?_
    refine lv_iconst (v := 1) hx hb d_Mo_feed_109 (by decide) ?_
    refine lv_iadd hx hb d_Mo_feed_110 ?_
    refine lv_tv (y := nI (n + 1 + 1 + 1 + 1 + 1 + 1 + 1 + 1 + 1 + 1 + 1 + 1 + 1 + 1 + 1 + 1 + 1)) (nI_add (n + 1 + 1 + 1 + 1 + 1 + 1 + 1 + 1 + 1 + 1 + 1 + 1 + 1 + 1 + 1 + 1) 1) ?_
    refine va_put (D := D) (ci := 8) (v := .int (nI (n + 1 + 1 + 1 + 1 + 1 + 1 + 1 + 1 + 1 + 1 + 1 + 1 + 1 + 1 + 1 + 1 + 1))) (ty := .int) (C := R_Mo) (T := F_Mo) (N := 29) hx hb hts i_Mo t_Mo t_Mo_ok n_Mo hown hZ.1 hP hD hS 0 rfl rfl 1 (by decide) (hts _ fl_Mo_48) (fun _ h9 => h9) rfl (by decide +kernel) rfl rfl (Nat.le_of_ble_eq_true rfl) d_Mo_feed_111 (fun H locs hP hD hS => ?_)
    have hP : va_P D classes [(mo, .inr (8, [.int 0, .int (nI (n + 1 + 1 + 1 + 1 + 1 + 1 + 1 + 1 + 1 + 1 + 1 + 1 + 1 + 1 + 1 + 1 + 1)), .ref m_row, .ref m_shelves, .ref m_many, .ref m_widths, .int (nI mk), .ref m_mark, .int z_shown, .ref m_shownMark, .int z_wasRun, .int z_wrong, .int z_ended, .int (nI sp), .int z_hints, .int z_hasWidth, .int z_width, .int z_first, .int z_moved, .int z_deepest, .int z_x, .int z_y, .int (nI t), .ref m_stack, .ref m_places, .int (nI d), .ref m_kinds, .ref m_ats, .ref m_ends])), (m_row, .inl (cI, 16384, .inl (upd (upd (upd (upd (upd (upd (upd (upd (upd (upd (upd (upd (upd (upd (upd (upd (upd g_row n ((x1 >>> (24 &&& 31)) &&& 255)) (n + 1) ((x1 >>> (16 &&& 31)) &&& 255)) (n + 1 + 1) ((x1 >>> (8 &&& 31)) &&& 255)) (n + 1 + 1 + 1) ((x1 >>> (0 &&& 31)) &&& 255)) (n + 1 + 1 + 1 + 1) ((x2 >>> (24 &&& 31)) &&& 255)) (n + 1 + 1 + 1 + 1 + 1) ((x2 >>> (16 &&& 31)) &&& 255)) (n + 1 + 1 + 1 + 1 + 1 + 1) ((x2 >>> (8 &&& 31)) &&& 255)) (n + 1 + 1 + 1 + 1 + 1 + 1 + 1) ((x2 >>> (0 &&& 31)) &&& 255)) (n + 1 + 1 + 1 + 1 + 1 + 1 + 1 + 1) ((x3 >>> (24 &&& 31)) &&& 255)) (n + 1 + 1 + 1 + 1 + 1 + 1 + 1 + 1 + 1) ((x3 >>> (16 &&& 31)) &&& 255)) (n + 1 + 1 + 1 + 1 + 1 + 1 + 1 + 1 + 1 + 1) ((x3 >>> (8 &&& 31)) &&& 255)) (n + 1 + 1 + 1 + 1 + 1 + 1 + 1 + 1 + 1 + 1 + 1) ((x3 >>> (0 &&& 31)) &&& 255)) (n + 1 + 1 + 1 + 1 + 1 + 1 + 1 + 1 + 1 + 1 + 1 + 1) ((x4 >>> (24 &&& 31)) &&& 255)) (n + 1 + 1 + 1 + 1 + 1 + 1 + 1 + 1 + 1 + 1 + 1 + 1 + 1) ((x4 >>> (16 &&& 31)) &&& 255)) (n + 1 + 1 + 1 + 1 + 1 + 1 + 1 + 1 + 1 + 1 + 1 + 1 + 1 + 1) ((x4 >>> (8 &&& 31)) &&& 255)) (n + 1 + 1 + 1 + 1 + 1 + 1 + 1 + 1 + 1 + 1 + 1 + 1 + 1 + 1 + 1) ((x4 >>> (0 &&& 31)) &&& 255)) (n + 1 + 1 + 1 + 1 + 1 + 1 + 1 + 1 + 1 + 1 + 1 + 1 + 1 + 1 + 1 + 1) ((x5 >>> (24 &&& 31)) &&& 255))))] H := hP
    have hD : va_D A_ [(mo, .inr (8, [.int 0, .int (nI (n + 1 + 1 + 1 + 1 + 1 + 1 + 1 + 1 + 1 + 1 + 1 + 1 + 1 + 1 + 1 + 1 + 1)), .ref m_row, .ref m_shelves, .ref m_many, .ref m_widths, .int (nI mk), .ref m_mark, .int z_shown, .ref m_shownMark, .int z_wasRun, .int z_wrong, .int z_ended, .int (nI sp), .int z_hints, .int z_hasWidth, .int z_width, .int z_first, .int z_moved, .int z_deepest, .int z_x, .int z_y, .int (nI t), .ref m_stack, .ref m_places, .int (nI d), .ref m_kinds, .ref m_ats, .ref m_ends])), (m_row, .inl (cI, 16384, .inl (upd (upd (upd (upd (upd (upd (upd (upd (upd (upd (upd (upd (upd (upd (upd (upd (upd g_row n ((x1 >>> (24 &&& 31)) &&& 255)) (n + 1) ((x1 >>> (16 &&& 31)) &&& 255)) (n + 1 + 1) ((x1 >>> (8 &&& 31)) &&& 255)) (n + 1 + 1 + 1) ((x1 >>> (0 &&& 31)) &&& 255)) (n + 1 + 1 + 1 + 1) ((x2 >>> (24 &&& 31)) &&& 255)) (n + 1 + 1 + 1 + 1 + 1) ((x2 >>> (16 &&& 31)) &&& 255)) (n + 1 + 1 + 1 + 1 + 1 + 1) ((x2 >>> (8 &&& 31)) &&& 255)) (n + 1 + 1 + 1 + 1 + 1 + 1 + 1) ((x2 >>> (0 &&& 31)) &&& 255)) (n + 1 + 1 + 1 + 1 + 1 + 1 + 1 + 1) ((x3 >>> (24 &&& 31)) &&& 255)) (n + 1 + 1 + 1 + 1 + 1 + 1 + 1 + 1 + 1) ((x3 >>> (16 &&& 31)) &&& 255)) (n + 1 + 1 + 1 + 1 + 1 + 1 + 1 + 1 + 1 + 1) ((x3 >>> (8 &&& 31)) &&& 255)) (n + 1 + 1 + 1 + 1 + 1 + 1 + 1 + 1 + 1 + 1 + 1) ((x3 >>> (0 &&& 31)) &&& 255)) (n + 1 + 1 + 1 + 1 + 1 + 1 + 1 + 1 + 1 + 1 + 1 + 1) ((x4 >>> (24 &&& 31)) &&& 255)) (n + 1 + 1 + 1 + 1 + 1 + 1 + 1 + 1 + 1 + 1 + 1 + 1 + 1) ((x4 >>> (16 &&& 31)) &&& 255)) (n + 1 + 1 + 1 + 1 + 1 + 1 + 1 + 1 + 1 + 1 + 1 + 1 + 1 + 1) ((x4 >>> (8 &&& 31)) &&& 255)) (n + 1 + 1 + 1 + 1 + 1 + 1 + 1 + 1 + 1 + 1 + 1 + 1 + 1 + 1 + 1) ((x4 >>> (0 &&& 31)) &&& 255)) (n + 1 + 1 + 1 + 1 + 1 + 1 + 1 + 1 + 1 + 1 + 1 + 1 + 1 + 1 + 1 + 1) ((x5 >>> (24 &&& 31)) &&& 255))))] := hD
    refine lv_iinc (v := 17) (lv' := [(6, .int 17), (7, .int x5), (0, .ref mo), (1, .int x1), (2, .int x2), (3, .int x3), (4, .int x4), (5, .int x5)]) hx hb d_Mo_feed_114 hl (k := 1) rfl (by decide) (by decide) rfl (fun ls hl => ?_)
    refine lv_goto (tgt := 23) hx hb d_Mo_feed_117 (by decide) ?_
    refine lv_iload hx hb d_Mo_feed_23 (lv_at hl 0 rfl) ?_
    refine lv_bipush (v := 20) hx hb d_Mo_feed_25 (by decide) ?_
    refine lv_icmp_ge (tgt := 120) hx hb d_Mo_feed_27 (by decide) (fun c_27 => absurd c_27 (by decide)) (fun c_27 => ?_)
    clear c_27
    refine lv_iload hx hb d_Mo_feed_30 (lv_at hl 0 rfl) ?_
    refine lv_iconst (v := 4) hx hb d_Mo_feed_32 (by decide) ?_
    refine lv_icmp_ge (tgt := 40) hx hb d_Mo_feed_33 (by decide) (fun c_33 => ?_) (fun c_33 => absurd (by decide) c_33)
    clear c_33
    refine lv_iload hx hb d_Mo_feed_40 (lv_at hl 0 rfl) ?_
    refine lv_bipush (v := 8) hx hb d_Mo_feed_42 (by decide) ?_
    refine lv_icmp_ge (tgt := 51) hx hb d_Mo_feed_44 (by decide) (fun c_44 => ?_) (fun c_44 => absurd (by decide) c_44)
    clear c_44
    refine lv_iload hx hb d_Mo_feed_51 (lv_at hl 0 rfl) ?_
    refine lv_bipush (v := 12) hx hb d_Mo_feed_53 (by decide) ?_
    refine lv_icmp_ge (tgt := 62) hx hb d_Mo_feed_55 (by decide) (fun c_55 => ?_) (fun c_55 => absurd (by decide) c_55)
    clear c_55
    refine lv_iload hx hb d_Mo_feed_62 (lv_at hl 0 rfl) ?_
    refine lv_bipush (v := 16) hx hb d_Mo_feed_64 (by decide) ?_
    refine lv_icmp_ge (tgt := 74) hx hb d_Mo_feed_66 (by decide) (fun c_66 => ?_) (fun c_66 => absurd (by decide) c_66)
    clear c_66
    refine lv_iload hx hb d_Mo_feed_74 (lv_at hl 7 rfl) ?_
    refine lv_istore (lv' := [(7, .int x5), (6, .int 17), (0, .ref mo), (1, .int x1), (2, .int x2), (3, .int x3), (4, .int x4), (5, .int x5)]) hx hb d_Mo_feed_76 hl (by decide) rfl (fun ls hl => ?_)
    refine lv_aload_n hx hb d_Mo_feed_78 rfl (lv_at hl 2 rfl) ?_
    refine va_get (D := D) (ci := 8) (v := .ref m_row) (C := R_Mo) (T := F_Mo) (N := 29) hx hb hts i_Mo hown hZ.1 hP 0 rfl rfl 2 (by decide) (hts _ fl_Mo_7) (fun _ h9 => h9) rfl d_Mo_feed_79 ?_
    refine lv_aload_n hx hb d_Mo_feed_82 rfl (lv_at hl 2 rfl) ?_
    refine va_get (D := D) (ci := 8) (v := .int (nI (n + 1 + 1 + 1 + 1 + 1 + 1 + 1 + 1 + 1 + 1 + 1 + 1 + 1 + 1 + 1 + 1 + 1))) (C := R_Mo) (T := F_Mo) (N := 29) hx hb hts i_Mo hown hZ.1 hP 0 rfl rfl 1 (by decide) (hts _ fl_Mo_48) (fun _ h9 => h9) rfl d_Mo_feed_83 ?_
    refine lv_iload hx hb d_Mo_feed_86 (lv_at hl 0 rfl) ?_
    refine lv_bipush (v := 24) hx hb d_Mo_feed_88 (by decide) ?_
    refine lv_bipush (v := 8) hx hb d_Mo_feed_90 (by decide) ?_
    refine lv_iload hx hb d_Mo_feed_92 (lv_at hl 1 rfl) ?_
    refine lv_iconst (v := 4) hx hb d_Mo_feed_94 (by decide) ?_
    refine lv_irem hx hb d_Mo_feed_95 (by decide) ?_
    refine lv_tv (y := 1) (by decide) ?_
    refine lv_imul hx hb d_Mo_feed_96 ?_
    refine lv_tv (y := 8) (by decide) ?_
    refine lv_isub hx hb d_Mo_feed_97 ?_
    refine lv_tv (y := 16) (by decide) ?_
    refine lv_ishr hx hb d_Mo_feed_98 ?_
    refine lv_sipush (v := 255) hx hb d_Mo_feed_99 (by decide) ?_
    refine lv_iand hx hb d_Mo_feed_102 ?_
    refine va_iast hx hb hZ.1 hP hD hS 1 1 rfl rfl (vp_in_nI (by omega) (by omega)) d_Mo_feed_103 (fun H locs hP hD hS => ?_)
    rw [show ((nI (n + 1 + 1 + 1 + 1 + 1 + 1 + 1 + 1 + 1 + 1 + 1 + 1 + 1 + 1 + 1 + 1 + 1)).toNatClampNeg) = n + 1 + 1 + 1 + 1 + 1 + 1 + 1 + 1 + 1 + 1 + 1 + 1 + 1 + 1 + 1 + 1 + 1 from nI_clamp (by omega)] at hP hD
    have hP : va_P D classes [(mo, .inr (8, [.int 0, .int (nI (n + 1 + 1 + 1 + 1 + 1 + 1 + 1 + 1 + 1 + 1 + 1 + 1 + 1 + 1 + 1 + 1 + 1)), .ref m_row, .ref m_shelves, .ref m_many, .ref m_widths, .int (nI mk), .ref m_mark, .int z_shown, .ref m_shownMark, .int z_wasRun, .int z_wrong, .int z_ended, .int (nI sp), .int z_hints, .int z_hasWidth, .int z_width, .int z_first, .int z_moved, .int z_deepest, .int z_x, .int z_y, .int (nI t), .ref m_stack, .ref m_places, .int (nI d), .ref m_kinds, .ref m_ats, .ref m_ends])), (m_row, .inl (cI, 16384, .inl (upd (upd (upd (upd (upd (upd (upd (upd (upd (upd (upd (upd (upd (upd (upd (upd (upd (upd g_row n ((x1 >>> (24 &&& 31)) &&& 255)) (n + 1) ((x1 >>> (16 &&& 31)) &&& 255)) (n + 1 + 1) ((x1 >>> (8 &&& 31)) &&& 255)) (n + 1 + 1 + 1) ((x1 >>> (0 &&& 31)) &&& 255)) (n + 1 + 1 + 1 + 1) ((x2 >>> (24 &&& 31)) &&& 255)) (n + 1 + 1 + 1 + 1 + 1) ((x2 >>> (16 &&& 31)) &&& 255)) (n + 1 + 1 + 1 + 1 + 1 + 1) ((x2 >>> (8 &&& 31)) &&& 255)) (n + 1 + 1 + 1 + 1 + 1 + 1 + 1) ((x2 >>> (0 &&& 31)) &&& 255)) (n + 1 + 1 + 1 + 1 + 1 + 1 + 1 + 1) ((x3 >>> (24 &&& 31)) &&& 255)) (n + 1 + 1 + 1 + 1 + 1 + 1 + 1 + 1 + 1) ((x3 >>> (16 &&& 31)) &&& 255)) (n + 1 + 1 + 1 + 1 + 1 + 1 + 1 + 1 + 1 + 1) ((x3 >>> (8 &&& 31)) &&& 255)) (n + 1 + 1 + 1 + 1 + 1 + 1 + 1 + 1 + 1 + 1 + 1) ((x3 >>> (0 &&& 31)) &&& 255)) (n + 1 + 1 + 1 + 1 + 1 + 1 + 1 + 1 + 1 + 1 + 1 + 1) ((x4 >>> (24 &&& 31)) &&& 255)) (n + 1 + 1 + 1 + 1 + 1 + 1 + 1 + 1 + 1 + 1 + 1 + 1 + 1) ((x4 >>> (16 &&& 31)) &&& 255)) (n + 1 + 1 + 1 + 1 + 1 + 1 + 1 + 1 + 1 + 1 + 1 + 1 + 1 + 1) ((x4 >>> (8 &&& 31)) &&& 255)) (n + 1 + 1 + 1 + 1 + 1 + 1 + 1 + 1 + 1 + 1 + 1 + 1 + 1 + 1 + 1) ((x4 >>> (0 &&& 31)) &&& 255)) (n + 1 + 1 + 1 + 1 + 1 + 1 + 1 + 1 + 1 + 1 + 1 + 1 + 1 + 1 + 1 + 1) ((x5 >>> (24 &&& 31)) &&& 255)) (n + 1 + 1 + 1 + 1 + 1 + 1 + 1 + 1 + 1 + 1 + 1 + 1 + 1 + 1 + 1 + 1 + 1) ((x5 >>> (16 &&& 31)) &&& 255))))] H := hP
    have hD : va_D A_ [(mo, .inr (8, [.int 0, .int (nI (n + 1 + 1 + 1 + 1 + 1 + 1 + 1 + 1 + 1 + 1 + 1 + 1 + 1 + 1 + 1 + 1 + 1)), .ref m_row, .ref m_shelves, .ref m_many, .ref m_widths, .int (nI mk), .ref m_mark, .int z_shown, .ref m_shownMark, .int z_wasRun, .int z_wrong, .int z_ended, .int (nI sp), .int z_hints, .int z_hasWidth, .int z_width, .int z_first, .int z_moved, .int z_deepest, .int z_x, .int z_y, .int (nI t), .ref m_stack, .ref m_places, .int (nI d), .ref m_kinds, .ref m_ats, .ref m_ends])), (m_row, .inl (cI, 16384, .inl (upd (upd (upd (upd (upd (upd (upd (upd (upd (upd (upd (upd (upd (upd (upd (upd (upd (upd g_row n ((x1 >>> (24 &&& 31)) &&& 255)) (n + 1) ((x1 >>> (16 &&& 31)) &&& 255)) (n + 1 + 1) ((x1 >>> (8 &&& 31)) &&& 255)) (n + 1 + 1 + 1) ((x1 >>> (0 &&& 31)) &&& 255)) (n + 1 + 1 + 1 + 1) ((x2 >>> (24 &&& 31)) &&& 255)) (n + 1 + 1 + 1 + 1 + 1) ((x2 >>> (16 &&& 31)) &&& 255)) (n + 1 + 1 + 1 + 1 + 1 + 1) ((x2 >>> (8 &&& 31)) &&& 255)) (n + 1 + 1 + 1 + 1 + 1 + 1 + 1) ((x2 >>> (0 &&& 31)) &&& 255)) (n + 1 + 1 + 1 + 1 + 1 + 1 + 1 + 1) ((x3 >>> (24 &&& 31)) &&& 255)) (n + 1 + 1 + 1 + 1 + 1 + 1 + 1 + 1 + 1) ((x3 >>> (16 &&& 31)) &&& 255)) (n + 1 + 1 + 1 + 1 + 1 + 1 + 1 + 1 + 1 + 1) ((x3 >>> (8 &&& 31)) &&& 255)) (n + 1 + 1 + 1 + 1 + 1 + 1 + 1 + 1 + 1 + 1 + 1) ((x3 >>> (0 &&& 31)) &&& 255)) (n + 1 + 1 + 1 + 1 + 1 + 1 + 1 + 1 + 1 + 1 + 1 + 1) ((x4 >>> (24 &&& 31)) &&& 255)) (n + 1 + 1 + 1 + 1 + 1 + 1 + 1 + 1 + 1 + 1 + 1 + 1 + 1) ((x4 >>> (16 &&& 31)) &&& 255)) (n + 1 + 1 + 1 + 1 + 1 + 1 + 1 + 1 + 1 + 1 + 1 + 1 + 1 + 1) ((x4 >>> (8 &&& 31)) &&& 255)) (n + 1 + 1 + 1 + 1 + 1 + 1 + 1 + 1 + 1 + 1 + 1 + 1 + 1 + 1 + 1) ((x4 >>> (0 &&& 31)) &&& 255)) (n + 1 + 1 + 1 + 1 + 1 + 1 + 1 + 1 + 1 + 1 + 1 + 1 + 1 + 1 + 1 + 1) ((x5 >>> (24 &&& 31)) &&& 255)) (n + 1 + 1 + 1 + 1 + 1 + 1 + 1 + 1 + 1 + 1 + 1 + 1 + 1 + 1 + 1 + 1 + 1) ((x5 >>> (16 &&& 31)) &&& 255))))] := hD
    refine lv_aload_n hx hb d_Mo_feed_104 rfl (lv_at hl 2 rfl) ?_
    refine lv_dup hx hb d_Mo_feed_105 rfl ?_
    refine va_get (D := D) (ci := 8) (v := .int (nI (n + 1 + 1 + 1 + 1 + 1 + 1 + 1 + 1 + 1 + 1 + 1 + 1 + 1 + 1 + 1 + 1 + 1))) (C := R_Mo) (T := F_Mo) (N := 29) hx hb hts i_Mo hown hZ.1 hP 0 rfl rfl 1 (by decide) (hts _ fl_Mo_48) (fun _ h9 => h9) rfl d_Mo_feed_106 ?_
    refine lv_iconst (v := 1) hx hb d_Mo_feed_109 (by decide) ?_
    refine lv_iadd hx hb d_Mo_feed_110 ?_
    refine lv_tv (y := nI (n + 1 + 1 + 1 + 1 + 1 + 1 + 1 + 1 + 1 + 1 + 1 + 1 + 1 + 1 + 1 + 1 + 1 + 1)) (nI_add (n + 1 + 1 + 1 + 1 + 1 + 1 + 1 + 1 + 1 + 1 + 1 + 1 + 1 + 1 + 1 + 1 + 1) 1) ?_
    refine va_put (D := D) (ci := 8) (v := .int (nI (n + 1 + 1 + 1 + 1 + 1 + 1 + 1 + 1 + 1 + 1 + 1 + 1 + 1 + 1 + 1 + 1 + 1 + 1))) (ty := .int) (C := R_Mo) (T := F_Mo) (N := 29) hx hb hts i_Mo t_Mo t_Mo_ok n_Mo hown hZ.1 hP hD hS 0 rfl rfl 1 (by decide) (hts _ fl_Mo_48) (fun _ h9 => h9) rfl (by decide +kernel) rfl rfl (Nat.le_of_ble_eq_true rfl) d_Mo_feed_111 (fun H locs hP hD hS => ?_)
    have hP : va_P D classes [(mo, .inr (8, [.int 0, .int (nI (n + 1 + 1 + 1 + 1 + 1 + 1 + 1 + 1 + 1 + 1 + 1 + 1 + 1 + 1 + 1 + 1 + 1 + 1)), .ref m_row, .ref m_shelves, .ref m_many, .ref m_widths, .int (nI mk), .ref m_mark, .int z_shown, .ref m_shownMark, .int z_wasRun, .int z_wrong, .int z_ended, .int (nI sp), .int z_hints, .int z_hasWidth, .int z_width, .int z_first, .int z_moved, .int z_deepest, .int z_x, .int z_y, .int (nI t), .ref m_stack, .ref m_places, .int (nI d), .ref m_kinds, .ref m_ats, .ref m_ends])), (m_row, .inl (cI, 16384, .inl (upd (upd (upd (upd (upd (upd (upd (upd (upd (upd (upd (upd (upd (upd (upd (upd (upd (upd g_row n ((x1 >>> (24 &&& 31)) &&& 255)) (n + 1) ((x1 >>> (16 &&& 31)) &&& 255)) (n + 1 + 1) ((x1 >>> (8 &&& 31)) &&& 255)) (n + 1 + 1 + 1) ((x1 >>> (0 &&& 31)) &&& 255)) (n + 1 + 1 + 1 + 1) ((x2 >>> (24 &&& 31)) &&& 255)) (n + 1 + 1 + 1 + 1 + 1) ((x2 >>> (16 &&& 31)) &&& 255)) (n + 1 + 1 + 1 + 1 + 1 + 1) ((x2 >>> (8 &&& 31)) &&& 255)) (n + 1 + 1 + 1 + 1 + 1 + 1 + 1) ((x2 >>> (0 &&& 31)) &&& 255)) (n + 1 + 1 + 1 + 1 + 1 + 1 + 1 + 1) ((x3 >>> (24 &&& 31)) &&& 255)) (n + 1 + 1 + 1 + 1 + 1 + 1 + 1 + 1 + 1) ((x3 >>> (16 &&& 31)) &&& 255)) (n + 1 + 1 + 1 + 1 + 1 + 1 + 1 + 1 + 1 + 1) ((x3 >>> (8 &&& 31)) &&& 255)) (n + 1 + 1 + 1 + 1 + 1 + 1 + 1 + 1 + 1 + 1 + 1) ((x3 >>> (0 &&& 31)) &&& 255)) (n + 1 + 1 + 1 + 1 + 1 + 1 + 1 + 1 + 1 + 1 + 1 + 1) ((x4 >>> (24 &&& 31)) &&& 255)) (n + 1 + 1 + 1 + 1 + 1 + 1 + 1 + 1 + 1 + 1 + 1 + 1 + 1) ((x4 >>> (16 &&& 31)) &&& 255)) (n + 1 + 1 + 1 + 1 + 1 + 1 + 1 + 1 + 1 + 1 + 1 + 1 + 1 + 1) ((x4 >>> (8 &&& 31)) &&& 255)) (n + 1 + 1 + 1 + 1 + 1 + 1 + 1 + 1 + 1 + 1 + 1 + 1 + 1 + 1 + 1) ((x4 >>> (0 &&& 31)) &&& 255)) (n + 1 + 1 + 1 + 1 + 1 + 1 + 1 + 1 + 1 + 1 + 1 + 1 + 1 + 1 + 1 + 1) ((x5 >>> (24 &&& 31)) &&& 255)) (n + 1 + 1 + 1 + 1 + 1 + 1 + 1 + 1 + 1 + 1 + 1 + 1 + 1 + 1 + 1 + 1 + 1) ((x5 >>> (16 &&& 31)) &&& 255))))] H := hP
    have hD : va_D A_ [(mo, .inr (8, [.int 0, .int (nI (n + 1 + 1 + 1 + 1 + 1 + 1 + 1 + 1 + 1 + 1 + 1 + 1 + 1 + 1 + 1 + 1 + 1 + 1)), .ref m_row, .ref m_shelves, .ref m_many, .ref m_widths, .int (nI mk), .ref m_mark, .int z_shown, .ref m_shownMark, .int z_wasRun, .int z_wrong, .int z_ended, .int (nI sp), .int z_hints, .int z_hasWidth, .int z_width, .int z_first, .int z_moved, .int z_deepest, .int z_x, .int z_y, .int (nI t), .ref m_stack, .ref m_places, .int (nI d), .ref m_kinds, .ref m_ats, .ref m_ends])), (m_row, .inl (cI, 16384, .inl (upd (upd (upd (upd (upd (upd (upd (upd (upd (upd (upd (upd (upd (upd (upd (upd (upd (upd g_row n ((x1 >>> (24 &&& 31)) &&& 255)) (n + 1) ((x1 >>> (16 &&& 31)) &&& 255)) (n + 1 + 1) ((x1 >>> (8 &&& 31)) &&& 255)) (n + 1 + 1 + 1) ((x1 >>> (0 &&& 31)) &&& 255)) (n + 1 + 1 + 1 + 1) ((x2 >>> (24 &&& 31)) &&& 255)) (n + 1 + 1 + 1 + 1 + 1) ((x2 >>> (16 &&& 31)) &&& 255)) (n + 1 + 1 + 1 + 1 + 1 + 1) ((x2 >>> (8 &&& 31)) &&& 255)) (n + 1 + 1 + 1 + 1 + 1 + 1 + 1) ((x2 >>> (0 &&& 31)) &&& 255)) (n + 1 + 1 + 1 + 1 + 1 + 1 + 1 + 1) ((x3 >>> (24 &&& 31)) &&& 255)) (n + 1 + 1 + 1 + 1 + 1 + 1 + 1 + 1 + 1) ((x3 >>> (16 &&& 31)) &&& 255)) (n + 1 + 1 + 1 + 1 + 1 + 1 + 1 + 1 + 1 + 1) ((x3 >>> (8 &&& 31)) &&& 255)) (n + 1 + 1 + 1 + 1 + 1 + 1 + 1 + 1 + 1 + 1 + 1) ((x3 >>> (0 &&& 31)) &&& 255)) (n + 1 + 1 + 1 + 1 + 1 + 1 + 1 + 1 + 1 + 1 + 1 + 1) ((x4 >>> (24 &&& 31)) &&& 255)) (n + 1 + 1 + 1 + 1 + 1 + 1 + 1 + 1 + 1 + 1 + 1 + 1 + 1) ((x4 >>> (16 &&& 31)) &&& 255)) (n + 1 + 1 + 1 + 1 + 1 + 1 + 1 + 1 + 1 + 1 + 1 + 1 + 1 + 1) ((x4 >>> (8 &&& 31)) &&& 255)) (n + 1 + 1 + 1 + 1 + 1 + 1 + 1 + 1 + 1 + 1 + 1 + 1 + 1 + 1 + 1) ((x4 >>> (0 &&& 31)) &&& 255)) (n + 1 + 1 + 1 + 1 + 1 + 1 + 1 + 1 + 1 + 1 + 1 + 1 + 1 + 1 + 1 + 1) ((x5 >>> (24 &&& 31)) &&& 255)) (n + 1 + 1 + 1 + 1 + 1 + 1 + 1 + 1 + 1 + 1 + 1 + 1 + 1 + 1 + 1 + 1 + 1) ((x5 >>> (16 &&& 31)) &&& 255))))] := hD
    refine lv_iinc (v := 18) (lv' := [(6, .int 18), (7, .int x5), (0, .ref mo), (1, .int x1), (2, .int x2), (3, .int x3), (4, .int x4), (5, .int x5)]) hx hb d_Mo_feed_114 hl (k := 1) rfl (by decide) (by decide) rfl (fun ls hl => ?_)
    refine lv_goto (tgt := 23) hx hb d_Mo_feed_117 (by decide) ?_
    refine lv_iload hx hb d_Mo_feed_23 (lv_at hl 0 rfl) ?_
    refine lv_bipush (v := 20) hx hb d_Mo_feed_25 (by decide) ?_
    refine lv_icmp_ge (tgt := 120) hx hb d_Mo_feed_27 (by decide) (fun c_27 => absurd c_27 (by decide)) (fun c_27 => ?_)
    clear c_27
    refine lv_iload hx hb d_Mo_feed_30 (lv_at hl 0 rfl) ?_
    refine lv_iconst (v := 4) hx hb d_Mo_feed_32 (by decide) ?_
    refine lv_icmp_ge (tgt := 40) hx hb d_Mo_feed_33 (by decide) (fun c_33 => ?_) (fun c_33 => absurd (by decide) c_33)
    clear c_33
    refine lv_iload hx hb d_Mo_feed_40 (lv_at hl 0 rfl) ?_
    refine lv_bipush (v := 8) hx hb d_Mo_feed_42 (by decide) ?_
    refine lv_icmp_ge (tgt := 51) hx hb d_Mo_feed_44 (by decide) (fun c_44 => ?_) (fun c_44 => absurd (by decide) c_44)
    clear c_44
    refine lv_iload hx hb d_Mo_feed_51 (lv_at hl 0 rfl) ?_
    refine lv_bipush (v := 12) hx hb d_Mo_feed_53 (by decide) ?_
    refine lv_icmp_ge (tgt := 62) hx hb d_Mo_feed_55 (by decide) (fun c_55 => ?_) (fun c_55 => absurd (by decide) c_55)
    clear c_55
    refine lv_iload hx hb d_Mo_feed_62 (lv_at hl 0 rfl) ?_
    refine lv_bipush (v := 16) hx hb d_Mo_feed_64 (by decide) ?_
    refine lv_icmp_ge (tgt := 74) hx hb d_Mo_feed_66 (by decide) (fun c_66 => ?_) (fun c_66 => absurd (by decide) c_66)
    clear c_66
    refine lv_iload hx hb d_Mo_feed_74 (lv_at hl 7 rfl) ?_
    refine lv_istore (lv' := [(7, .int x5), (6, .int 18), (0, .ref mo), (1, .int x1), (2, .int x2), (3, .int x3), (4, .int x4), (5, .int x5)]) hx hb d_Mo_feed_76 hl (by decide) rfl (fun ls hl => ?_)
    refine lv_aload_n hx hb d_Mo_feed_78 rfl (lv_at hl 2 rfl) ?_
    refine va_get (D := D) (ci := 8) (v := .ref m_row) (C := R_Mo) (T := F_Mo) (N := 29) hx hb hts i_Mo hown hZ.1 hP 0 rfl rfl 2 (by decide) (hts _ fl_Mo_7) (fun _ h9 => h9) rfl d_Mo_feed_79 ?_
    refine lv_aload_n hx hb d_Mo_feed_82 rfl (lv_at hl 2 rfl) ?_
    refine va_get (D := D) (ci := 8) (v := .int (nI (n + 1 + 1 + 1 + 1 + 1 + 1 + 1 + 1 + 1 + 1 + 1 + 1 + 1 + 1 + 1 + 1 + 1 + 1))) (C := R_Mo) (T := F_Mo) (N := 29) hx hb hts i_Mo hown hZ.1 hP 0 rfl rfl 1 (by decide) (hts _ fl_Mo_48) (fun _ h9 => h9) rfl d_Mo_feed_83 ?_
    refine lv_iload hx hb d_Mo_feed_86 (lv_at hl 0 rfl) ?_
    refine lv_bipush (v := 24) hx hb d_Mo_feed_88 (by decide) ?_
    refine lv_bipush (v := 8) hx hb d_Mo_feed_90 (by decide) ?_
    refine lv_iload hx hb d_Mo_feed_92 (lv_at hl 1 rfl) ?_
    refine lv_iconst (v := 4) hx hb d_Mo_feed_94 (by decide) ?_
    refine lv_irem hx hb d_Mo_feed_95 (by decide) ?_
    refine lv_tv (y := 2) (by decide) ?_
    refine lv_imul hx hb d_Mo_feed_96 ?_
    refine lv_tv (y := 16) (by decide) ?_
    refine lv_isub hx hb d_Mo_feed_97 ?_
    refine lv_tv (y := 8) (by decide) ?_
    refine lv_ishr hx hb d_Mo_feed_98 ?_
    refine lv_sipush (v := 255) hx hb d_Mo_feed_99 (by decide) ?_
    refine lv_iand hx hb d_Mo_feed_102 ?_
    refine va_iast hx hb hZ.1 hP hD hS 1 1 rfl rfl (vp_in_nI (by omega) (by omega)) d_Mo_feed_103 (fun H locs hP hD hS => ?_)
    rw [show ((nI (n + 1 + 1 + 1 + 1 + 1 + 1 + 1 + 1 + 1 + 1 + 1 + 1 + 1 + 1 + 1 + 1 + 1 + 1)).toNatClampNeg) = n + 1 + 1 + 1 + 1 + 1 + 1 + 1 + 1 + 1 + 1 + 1 + 1 + 1 + 1 + 1 + 1 + 1 + 1 from nI_clamp (by omega)] at hP hD
    have hP : va_P D classes [(mo, .inr (8, [.int 0, .int (nI (n + 1 + 1 + 1 + 1 + 1 + 1 + 1 + 1 + 1 + 1 + 1 + 1 + 1 + 1 + 1 + 1 + 1 + 1)), .ref m_row, .ref m_shelves, .ref m_many, .ref m_widths, .int (nI mk), .ref m_mark, .int z_shown, .ref m_shownMark, .int z_wasRun, .int z_wrong, .int z_ended, .int (nI sp), .int z_hints, .int z_hasWidth, .int z_width, .int z_first, .int z_moved, .int z_deepest, .int z_x, .int z_y, .int (nI t), .ref m_stack, .ref m_places, .int (nI d), .ref m_kinds, .ref m_ats, .ref m_ends])), (m_row, .inl (cI, 16384, .inl (upd (upd (upd (upd (upd (upd (upd (upd (upd (upd (upd (upd (upd (upd (upd (upd (upd (upd (upd g_row n ((x1 >>> (24 &&& 31)) &&& 255)) (n + 1) ((x1 >>> (16 &&& 31)) &&& 255)) (n + 1 + 1) ((x1 >>> (8 &&& 31)) &&& 255)) (n + 1 + 1 + 1) ((x1 >>> (0 &&& 31)) &&& 255)) (n + 1 + 1 + 1 + 1) ((x2 >>> (24 &&& 31)) &&& 255)) (n + 1 + 1 + 1 + 1 + 1) ((x2 >>> (16 &&& 31)) &&& 255)) (n + 1 + 1 + 1 + 1 + 1 + 1) ((x2 >>> (8 &&& 31)) &&& 255)) (n + 1 + 1 + 1 + 1 + 1 + 1 + 1) ((x2 >>> (0 &&& 31)) &&& 255)) (n + 1 + 1 + 1 + 1 + 1 + 1 + 1 + 1) ((x3 >>> (24 &&& 31)) &&& 255)) (n + 1 + 1 + 1 + 1 + 1 + 1 + 1 + 1 + 1) ((x3 >>> (16 &&& 31)) &&& 255)) (n + 1 + 1 + 1 + 1 + 1 + 1 + 1 + 1 + 1 + 1) ((x3 >>> (8 &&& 31)) &&& 255)) (n + 1 + 1 + 1 + 1 + 1 + 1 + 1 + 1 + 1 + 1 + 1) ((x3 >>> (0 &&& 31)) &&& 255)) (n + 1 + 1 + 1 + 1 + 1 + 1 + 1 + 1 + 1 + 1 + 1 + 1) ((x4 >>> (24 &&& 31)) &&& 255)) (n + 1 + 1 + 1 + 1 + 1 + 1 + 1 + 1 + 1 + 1 + 1 + 1 + 1) ((x4 >>> (16 &&& 31)) &&& 255)) (n + 1 + 1 + 1 + 1 + 1 + 1 + 1 + 1 + 1 + 1 + 1 + 1 + 1 + 1) ((x4 >>> (8 &&& 31)) &&& 255)) (n + 1 + 1 + 1 + 1 + 1 + 1 + 1 + 1 + 1 + 1 + 1 + 1 + 1 + 1 + 1) ((x4 >>> (0 &&& 31)) &&& 255)) (n + 1 + 1 + 1 + 1 + 1 + 1 + 1 + 1 + 1 + 1 + 1 + 1 + 1 + 1 + 1 + 1) ((x5 >>> (24 &&& 31)) &&& 255)) (n + 1 + 1 + 1 + 1 + 1 + 1 + 1 + 1 + 1 + 1 + 1 + 1 + 1 + 1 + 1 + 1 + 1) ((x5 >>> (16 &&& 31)) &&& 255)) (n + 1 + 1 + 1 + 1 + 1 + 1 + 1 + 1 + 1 + 1 + 1 + 1 + 1 + 1 + 1 + 1 + 1 + 1) ((x5 >>> (8 &&& 31)) &&& 255))))] H := hP
    have hD : va_D A_ [(mo, .inr (8, [.int 0, .int (nI (n + 1 + 1 + 1 + 1 + 1 + 1 + 1 + 1 + 1 + 1 + 1 + 1 + 1 + 1 + 1 + 1 + 1 + 1)), .ref m_row, .ref m_shelves, .ref m_many, .ref m_widths, .int (nI mk), .ref m_mark, .int z_shown, .ref m_shownMark, .int z_wasRun, .int z_wrong, .int z_ended, .int (nI sp), .int z_hints, .int z_hasWidth, .int z_width, .int z_first, .int z_moved, .int z_deepest, .int z_x, .int z_y, .int (nI t), .ref m_stack, .ref m_places, .int (nI d), .ref m_kinds, .ref m_ats, .ref m_ends])), (m_row, .inl (cI, 16384, .inl (upd (upd (upd (upd (upd (upd (upd (upd (upd (upd (upd (upd (upd (upd (upd (upd (upd (upd (upd g_row n ((x1 >>> (24 &&& 31)) &&& 255)) (n + 1) ((x1 >>> (16 &&& 31)) &&& 255)) (n + 1 + 1) ((x1 >>> (8 &&& 31)) &&& 255)) (n + 1 + 1 + 1) ((x1 >>> (0 &&& 31)) &&& 255)) (n + 1 + 1 + 1 + 1) ((x2 >>> (24 &&& 31)) &&& 255)) (n + 1 + 1 + 1 + 1 + 1) ((x2 >>> (16 &&& 31)) &&& 255)) (n + 1 + 1 + 1 + 1 + 1 + 1) ((x2 >>> (8 &&& 31)) &&& 255)) (n + 1 + 1 + 1 + 1 + 1 + 1 + 1) ((x2 >>> (0 &&& 31)) &&& 255)) (n + 1 + 1 + 1 + 1 + 1 + 1 + 1 + 1) ((x3 >>> (24 &&& 31)) &&& 255)) (n + 1 + 1 + 1 + 1 + 1 + 1 + 1 + 1 + 1) ((x3 >>> (16 &&& 31)) &&& 255)) (n + 1 + 1 + 1 + 1 + 1 + 1 + 1 + 1 + 1 + 1) ((x3 >>> (8 &&& 31)) &&& 255)) (n + 1 + 1 + 1 + 1 + 1 + 1 + 1 + 1 + 1 + 1 + 1) ((x3 >>> (0 &&& 31)) &&& 255)) (n + 1 + 1 + 1 + 1 + 1 + 1 + 1 + 1 + 1 + 1 + 1 + 1) ((x4 >>> (24 &&& 31)) &&& 255)) (n + 1 + 1 + 1 + 1 + 1 + 1 + 1 + 1 + 1 + 1 + 1 + 1 + 1) ((x4 >>> (16 &&& 31)) &&& 255)) (n + 1 + 1 + 1 + 1 + 1 + 1 + 1 + 1 + 1 + 1 + 1 + 1 + 1 + 1) ((x4 >>> (8 &&& 31)) &&& 255)) (n + 1 + 1 + 1 + 1 + 1 + 1 + 1 + 1 + 1 + 1 + 1 + 1 + 1 + 1 + 1) ((x4 >>> (0 &&& 31)) &&& 255)) (n + 1 + 1 + 1 + 1 + 1 + 1 + 1 + 1 + 1 + 1 + 1 + 1 + 1 + 1 + 1 + 1) ((x5 >>> (24 &&& 31)) &&& 255)) (n + 1 + 1 + 1 + 1 + 1 + 1 + 1 + 1 + 1 + 1 + 1 + 1 + 1 + 1 + 1 + 1 + 1) ((x5 >>> (16 &&& 31)) &&& 255)) (n + 1 + 1 + 1 + 1 + 1 + 1 + 1 + 1 + 1 + 1 + 1 + 1 + 1 + 1 + 1 + 1 + 1 + 1) ((x5 >>> (8 &&& 31)) &&& 255))))] := hD
    refine lv_aload_n hx hb d_Mo_feed_104 rfl (lv_at hl 2 rfl) ?_
    refine lv_dup hx hb d_Mo_feed_105 rfl ?_
    refine va_get (D := D) (ci := 8) (v := .int (nI (n + 1 + 1 + 1 + 1 + 1 + 1 + 1 + 1 + 1 + 1 + 1 + 1 + 1 + 1 + 1 + 1 + 1 + 1))) (C := R_Mo) (T := F_Mo) (N := 29) hx hb hts i_Mo hown hZ.1 hP 0 rfl rfl 1 (by decide) (hts _ fl_Mo_48) (fun _ h9 => h9) rfl d_Mo_feed_106 ?_
    refine lv_iconst (v := 1) hx hb d_Mo_feed_109 (by decide) ?_
    refine lv_iadd hx hb d_Mo_feed_110 ?_
    refine lv_tv (y := nI (n + 1 + 1 + 1 + 1 + 1 + 1 + 1 + 1 + 1 + 1 + 1 + 1 + 1 + 1 + 1 + 1 + 1 + 1 + 1)) (nI_add (n + 1 + 1 + 1 + 1 + 1 + 1 + 1 + 1 + 1 + 1 + 1 + 1 + 1 + 1 + 1 + 1 + 1 + 1) 1) ?_
    refine va_put (D := D) (ci := 8) (v := .int (nI (n + 1 + 1 + 1 + 1 + 1 + 1 + 1 + 1 + 1 + 1 + 1 + 1 + 1 + 1 + 1 + 1 + 1 + 1 + 1))) (ty := .int) (C := R_Mo) (T := F_Mo) (N := 29) hx hb hts i_Mo t_Mo t_Mo_ok n_Mo hown hZ.1 hP hD hS 0 rfl rfl 1 (by decide) (hts _ fl_Mo_48) (fun _ h9 => h9) rfl (by decide +kernel) rfl rfl (Nat.le_of_ble_eq_true rfl) d_Mo_feed_111 (fun H locs hP hD hS => ?_)
    have hP : va_P D classes [(mo, .inr (8, [.int 0, .int (nI (n + 1 + 1 + 1 + 1 + 1 + 1 + 1 + 1 + 1 + 1 + 1 + 1 + 1 + 1 + 1 + 1 + 1 + 1 + 1)), .ref m_row, .ref m_shelves, .ref m_many, .ref m_widths, .int (nI mk), .ref m_mark, .int z_shown, .ref m_shownMark, .int z_wasRun, .int z_wrong, .int z_ended, .int (nI sp), .int z_hints, .int z_hasWidth, .int z_width, .int z_first, .int z_moved, .int z_deepest, .int z_x, .int z_y, .int (nI t), .ref m_stack, .ref m_places, .int (nI d), .ref m_kinds, .ref m_ats, .ref m_ends])), (m_row, .inl (cI, 16384, .inl (upd (upd (upd (upd (upd (upd (upd (upd (upd (upd (upd (upd (upd (upd (upd (upd (upd (upd (upd g_row n ((x1 >>> (24 &&& 31)) &&& 255)) (n + 1) ((x1 >>> (16 &&& 31)) &&& 255)) (n + 1 + 1) ((x1 >>> (8 &&& 31)) &&& 255)) (n + 1 + 1 + 1) ((x1 >>> (0 &&& 31)) &&& 255)) (n + 1 + 1 + 1 + 1) ((x2 >>> (24 &&& 31)) &&& 255)) (n + 1 + 1 + 1 + 1 + 1) ((x2 >>> (16 &&& 31)) &&& 255)) (n + 1 + 1 + 1 + 1 + 1 + 1) ((x2 >>> (8 &&& 31)) &&& 255)) (n + 1 + 1 + 1 + 1 + 1 + 1 + 1) ((x2 >>> (0 &&& 31)) &&& 255)) (n + 1 + 1 + 1 + 1 + 1 + 1 + 1 + 1) ((x3 >>> (24 &&& 31)) &&& 255)) (n + 1 + 1 + 1 + 1 + 1 + 1 + 1 + 1 + 1) ((x3 >>> (16 &&& 31)) &&& 255)) (n + 1 + 1 + 1 + 1 + 1 + 1 + 1 + 1 + 1 + 1) ((x3 >>> (8 &&& 31)) &&& 255)) (n + 1 + 1 + 1 + 1 + 1 + 1 + 1 + 1 + 1 + 1 + 1) ((x3 >>> (0 &&& 31)) &&& 255)) (n + 1 + 1 + 1 + 1 + 1 + 1 + 1 + 1 + 1 + 1 + 1 + 1) ((x4 >>> (24 &&& 31)) &&& 255)) (n + 1 + 1 + 1 + 1 + 1 + 1 + 1 + 1 + 1 + 1 + 1 + 1 + 1) ((x4 >>> (16 &&& 31)) &&& 255)) (n + 1 + 1 + 1 + 1 + 1 + 1 + 1 + 1 + 1 + 1 + 1 + 1 + 1 + 1) ((x4 >>> (8 &&& 31)) &&& 255)) (n + 1 + 1 + 1 + 1 + 1 + 1 + 1 + 1 + 1 + 1 + 1 + 1 + 1 + 1 + 1) ((x4 >>> (0 &&& 31)) &&& 255)) (n + 1 + 1 + 1 + 1 + 1 + 1 + 1 + 1 + 1 + 1 + 1 + 1 + 1 + 1 + 1 + 1) ((x5 >>> (24 &&& 31)) &&& 255)) (n + 1 + 1 + 1 + 1 + 1 + 1 + 1 + 1 + 1 + 1 + 1 + 1 + 1 + 1 + 1 + 1 + 1) ((x5 >>> (16 &&& 31)) &&& 255)) (n + 1 + 1 + 1 + 1 + 1 + 1 + 1 + 1 + 1 + 1 + 1 + 1 + 1 + 1 + 1 + 1 + 1 + 1) ((x5 >>> (8 &&& 31)) &&& 255))))] H := hP
    have hD : va_D A_ [(mo, .inr (8, [.int 0, .int (nI (n + 1 + 1 + 1 + 1 + 1 + 1 + 1 + 1 + 1 + 1 + 1 + 1 + 1 + 1 + 1 + 1 + 1 + 1 + 1)), .ref m_row, .ref m_shelves, .ref m_many, .ref m_widths, .int (nI mk), .ref m_mark, .int z_shown, .ref m_shownMark, .int z_wasRun, .int z_wrong, .int z_ended, .int (nI sp), .int z_hints, .int z_hasWidth, .int z_width, .int z_first, .int z_moved, .int z_deepest, .int z_x, .int z_y, .int (nI t), .ref m_stack, .ref m_places, .int (nI d), .ref m_kinds, .ref m_ats, .ref m_ends])), (m_row, .inl (cI, 16384, .inl (upd (upd (upd (upd (upd (upd (upd (upd (upd (upd (upd (upd (upd (upd (upd (upd (upd (upd (upd g_row n ((x1 >>> (24 &&& 31)) &&& 255)) (n + 1) ((x1 >>> (16 &&& 31)) &&& 255)) (n + 1 + 1) ((x1 >>> (8 &&& 31)) &&& 255)) (n + 1 + 1 + 1) ((x1 >>> (0 &&& 31)) &&& 255)) (n + 1 + 1 + 1 + 1) ((x2 >>> (24 &&& 31)) &&& 255)) (n + 1 + 1 + 1 + 1 + 1) ((x2 >>> (16 &&& 31)) &&& 255)) (n + 1 + 1 + 1 + 1 + 1 + 1) ((x2 >>> (8 &&& 31)) &&& 255)) (n + 1 + 1 + 1 + 1 + 1 + 1 + 1) ((x2 >>> (0 &&& 31)) &&& 255)) (n + 1 + 1 + 1 + 1 + 1 + 1 + 1 + 1) ((x3 >>> (24 &&& 31)) &&& 255)) (n + 1 + 1 + 1 + 1 + 1 + 1 + 1 + 1 + 1) ((x3 >>> (16 &&& 31)) &&& 255)) (n + 1 + 1 + 1 + 1 + 1 + 1 + 1 + 1 + 1 + 1) ((x3 >>> (8 &&& 31)) &&& 255)) (n + 1 + 1 + 1 + 1 + 1 + 1 + 1 + 1 + 1 + 1 + 1) ((x3 >>> (0 &&& 31)) &&& 255)) (n + 1 + 1 + 1 + 1 + 1 + 1 + 1 + 1 + 1 + 1 + 1 + 1) ((x4 >>> (24 &&& 31)) &&& 255)) (n + 1 + 1 + 1 + 1 + 1 + 1 + 1 + 1 + 1 + 1 + 1 + 1 + 1) ((x4 >>> (16 &&& 31)) &&& 255)) (n + 1 + 1 + 1 + 1 + 1 + 1 + 1 + 1 + 1 + 1 + 1 + 1 + 1 + 1) ((x4 >>> (8 &&& 31)) &&& 255)) (n + 1 + 1 + 1 + 1 + 1 + 1 + 1 + 1 + 1 + 1 + 1 + 1 + 1 + 1 + 1) ((x4 >>> (0 &&& 31)) &&& 255)) (n + 1 + 1 + 1 + 1 + 1 + 1 + 1 + 1 + 1 + 1 + 1 + 1 + 1 + 1 + 1 + 1) ((x5 >>> (24 &&& 31)) &&& 255)) (n + 1 + 1 + 1 + 1 + 1 + 1 + 1 + 1 + 1 + 1 + 1 + 1 + 1 + 1 + 1 + 1 + 1) ((x5 >>> (16 &&& 31)) &&& 255)) (n + 1 + 1 + 1 + 1 + 1 + 1 + 1 + 1 + 1 + 1 + 1 + 1 + 1 + 1 + 1 + 1 + 1 + 1) ((x5 >>> (8 &&& 31)) &&& 255))))] := hD
    refine lv_iinc (v := 19) (lv' := [(6, .int 19), (7, .int x5), (0, .ref mo), (1, .int x1), (2, .int x2), (3, .int x3), (4, .int x4), (5, .int x5)]) hx hb d_Mo_feed_114 hl (k := 1) rfl (by decide) (by decide) rfl (fun ls hl => ?_)
    refine lv_goto (tgt := 23) hx hb d_Mo_feed_117 (by decide) ?_
    refine lv_iload hx hb d_Mo_feed_23 (lv_at hl 0 rfl) ?_
    refine lv_bipush (v := 20) hx hb d_Mo_feed_25 (by decide) ?_
    refine lv_icmp_ge (tgt := 120) hx hb d_Mo_feed_27 (by decide) (fun c_27 => absurd c_27 (by decide)) (fun c_27 => ?_)
    clear c_27
    refine lv_iload hx hb d_Mo_feed_30 (lv_at hl 0 rfl) ?_
    refine lv_iconst (v := 4) hx hb d_Mo_feed_32 (by decide) ?_
    refine lv_icmp_ge (tgt := 40) hx hb d_Mo_feed_33 (by decide) (fun c_33 => ?_) (fun c_33 => absurd (by decide) c_33)
    clear c_33
    refine lv_iload hx hb d_Mo_feed_40 (lv_at hl 0 rfl) ?_
    refine lv_bipush (v := 8) hx hb d_Mo_feed_42 (by decide) ?_
    refine lv_icmp_ge (tgt := 51) hx hb d_Mo_feed_44 (by decide) (fun c_44 => ?_) (fun c_44 => absurd (by decide) c_44)
    clear c_44
    refine lv_iload hx hb d_Mo_feed_51 (lv_at hl 0 rfl) ?_
    refine lv_bipush (v := 12) hx hb d_Mo_feed_53 (by decide) ?_
    refine lv_icmp_ge (tgt := 62) hx hb d_Mo_feed_55 (by decide) (fun c_55 => ?_) (fun c_55 => absurd (by decide) c_55)
    clear c_55
    refine lv_iload hx hb d_Mo_feed_62 (lv_at hl 0 rfl) ?_
    refine lv_bipush (v := 16) hx hb d_Mo_feed_64 (by decide) ?_
    refine lv_icmp_ge (tgt := 74) hx hb d_Mo_feed_66 (by decide) (fun c_66 => ?_) (fun c_66 => absurd (by decide) c_66)
    clear c_66
    refine lv_iload hx hb d_Mo_feed_74 (lv_at hl 7 rfl) ?_
    refine lv_istore (lv' := [(7, .int x5), (6, .int 19), (0, .ref mo), (1, .int x1), (2, .int x2), (3, .int x3), (4, .int x4), (5, .int x5)]) hx hb d_Mo_feed_76 hl (by decide) rfl (fun ls hl => ?_)
    refine lv_aload_n hx hb d_Mo_feed_78 rfl (lv_at hl 2 rfl) ?_
    refine va_get (D := D) (ci := 8) (v := .ref m_row) (C := R_Mo) (T := F_Mo) (N := 29) hx hb hts i_Mo hown hZ.1 hP 0 rfl rfl 2 (by decide) (hts _ fl_Mo_7) (fun _ h9 => h9) rfl d_Mo_feed_79 ?_
    refine lv_aload_n hx hb d_Mo_feed_82 rfl (lv_at hl 2 rfl) ?_
    refine va_get (D := D) (ci := 8) (v := .int (nI (n + 1 + 1 + 1 + 1 + 1 + 1 + 1 + 1 + 1 + 1 + 1 + 1 + 1 + 1 + 1 + 1 + 1 + 1 + 1))) (C := R_Mo) (T := F_Mo) (N := 29) hx hb hts i_Mo hown hZ.1 hP 0 rfl rfl 1 (by decide) (hts _ fl_Mo_48) (fun _ h9 => h9) rfl d_Mo_feed_83 ?_
    refine lv_iload hx hb d_Mo_feed_86 (lv_at hl 0 rfl) ?_
    refine lv_bipush (v := 24) hx hb d_Mo_feed_88 (by decide) ?_
    refine lv_bipush (v := 8) hx hb d_Mo_feed_90 (by decide) ?_
    refine lv_iload hx hb d_Mo_feed_92 (lv_at hl 1 rfl) ?_
    refine lv_iconst (v := 4) hx hb d_Mo_feed_94 (by decide) ?_
    refine lv_irem hx hb d_Mo_feed_95 (by decide) ?_
    refine lv_tv (y := 3) (by decide) ?_
    refine lv_imul hx hb d_Mo_feed_96 ?_
    refine lv_tv (y := 24) (by decide) ?_
    refine lv_isub hx hb d_Mo_feed_97 ?_
    refine lv_tv (y := 0) (by decide) ?_
    refine lv_ishr hx hb d_Mo_feed_98 ?_
    refine lv_sipush (v := 255) hx hb d_Mo_feed_99 (by decide) ?_
    refine lv_iand hx hb d_Mo_feed_102 ?_
    refine va_iast hx hb hZ.1 hP hD hS 1 1 rfl rfl (vp_in_nI (by omega) (by omega)) d_Mo_feed_103 (fun H locs hP hD hS => ?_)
    rw [show ((nI (n + 1 + 1 + 1 + 1 + 1 + 1 + 1 + 1 + 1 + 1 + 1 + 1 + 1 + 1 + 1 + 1 + 1 + 1 + 1)).toNatClampNeg) = n + 1 + 1 + 1 + 1 + 1 + 1 + 1 + 1 + 1 + 1 + 1 + 1 + 1 + 1 + 1 + 1 + 1 + 1 + 1 from nI_clamp (by omega)] at hP hD
    have hP : va_P D classes [(mo, .inr (8, [.int 0, .int (nI (n + 1 + 1 + 1 + 1 + 1 + 1 + 1 + 1 + 1 + 1 + 1 + 1 + 1 + 1 + 1 + 1 + 1 + 1 + 1)), .ref m_row, .ref m_shelves, .ref m_many, .ref m_widths, .int (nI mk), .ref m_mark, .int z_shown, .ref m_shownMark, .int z_wasRun, .int z_wrong, .int z_ended, .int (nI sp), .int z_hints, .int z_hasWidth, .int z_width, .int z_first, .int z_moved, .int z_deepest, .int z_x, .int z_y, .int (nI t), .ref m_stack, .ref m_places, .int (nI d), .ref m_kinds, .ref m_ats, .ref m_ends])), (m_row, .inl (cI, 16384, .inl (upd (upd (upd (upd (upd (upd (upd (upd (upd (upd (upd (upd (upd (upd (upd (upd (upd (upd (upd (upd g_row n ((x1 >>> (24 &&& 31)) &&& 255)) (n + 1) ((x1 >>> (16 &&& 31)) &&& 255)) (n + 1 + 1) ((x1 >>> (8 &&& 31)) &&& 255)) (n + 1 + 1 + 1) ((x1 >>> (0 &&& 31)) &&& 255)) (n + 1 + 1 + 1 + 1) ((x2 >>> (24 &&& 31)) &&& 255)) (n + 1 + 1 + 1 + 1 + 1) ((x2 >>> (16 &&& 31)) &&& 255)) (n + 1 + 1 + 1 + 1 + 1 + 1) ((x2 >>> (8 &&& 31)) &&& 255)) (n + 1 + 1 + 1 + 1 + 1 + 1 + 1) ((x2 >>> (0 &&& 31)) &&& 255)) (n + 1 + 1 + 1 + 1 + 1 + 1 + 1 + 1) ((x3 >>> (24 &&& 31)) &&& 255)) (n + 1 + 1 + 1 + 1 + 1 + 1 + 1 + 1 + 1) ((x3 >>> (16 &&& 31)) &&& 255)) (n + 1 + 1 + 1 + 1 + 1 + 1 + 1 + 1 + 1 + 1) ((x3 >>> (8 &&& 31)) &&& 255)) (n + 1 + 1 + 1 + 1 + 1 + 1 + 1 + 1 + 1 + 1 + 1) ((x3 >>> (0 &&& 31)) &&& 255)) (n + 1 + 1 + 1 + 1 + 1 + 1 + 1 + 1 + 1 + 1 + 1 + 1) ((x4 >>> (24 &&& 31)) &&& 255)) (n + 1 + 1 + 1 + 1 + 1 + 1 + 1 + 1 + 1 + 1 + 1 + 1 + 1) ((x4 >>> (16 &&& 31)) &&& 255)) (n + 1 + 1 + 1 + 1 + 1 + 1 + 1 + 1 + 1 + 1 + 1 + 1 + 1 + 1) ((x4 >>> (8 &&& 31)) &&& 255)) (n + 1 + 1 + 1 + 1 + 1 + 1 + 1 + 1 + 1 + 1 + 1 + 1 + 1 + 1 + 1) ((x4 >>> (0 &&& 31)) &&& 255)) (n + 1 + 1 + 1 + 1 + 1 + 1 + 1 + 1 + 1 + 1 + 1 + 1 + 1 + 1 + 1 + 1) ((x5 >>> (24 &&& 31)) &&& 255)) (n + 1 + 1 + 1 + 1 + 1 + 1 + 1 + 1 + 1 + 1 + 1 + 1 + 1 + 1 + 1 + 1 + 1) ((x5 >>> (16 &&& 31)) &&& 255)) (n + 1 + 1 + 1 + 1 + 1 + 1 + 1 + 1 + 1 + 1 + 1 + 1 + 1 + 1 + 1 + 1 + 1 + 1) ((x5 >>> (8 &&& 31)) &&& 255)) (n + 1 + 1 + 1 + 1 + 1 + 1 + 1 + 1 + 1 + 1 + 1 + 1 + 1 + 1 + 1 + 1 + 1 + 1 + 1) ((x5 >>> (0 &&& 31)) &&& 255))))] H := hP
    have hD : va_D A_ [(mo, .inr (8, [.int 0, .int (nI (n + 1 + 1 + 1 + 1 + 1 + 1 + 1 + 1 + 1 + 1 + 1 + 1 + 1 + 1 + 1 + 1 + 1 + 1 + 1)), .ref m_row, .ref m_shelves, .ref m_many, .ref m_widths, .int (nI mk), .ref m_mark, .int z_shown, .ref m_shownMark, .int z_wasRun, .int z_wrong, .int z_ended, .int (nI sp), .int z_hints, .int z_hasWidth, .int z_width, .int z_first, .int z_moved, .int z_deepest, .int z_x, .int z_y, .int (nI t), .ref m_stack, .ref m_places, .int (nI d), .ref m_kinds, .ref m_ats, .ref m_ends])), (m_row, .inl (cI, 16384, .inl (upd (upd (upd (upd (upd (upd (upd (upd (upd (upd (upd (upd (upd (upd (upd (upd (upd (upd (upd (upd g_row n ((x1 >>> (24 &&& 31)) &&& 255)) (n + 1) ((x1 >>> (16 &&& 31)) &&& 255)) (n + 1 + 1) ((x1 >>> (8 &&& 31)) &&& 255)) (n + 1 + 1 + 1) ((x1 >>> (0 &&& 31)) &&& 255)) (n + 1 + 1 + 1 + 1) ((x2 >>> (24 &&& 31)) &&& 255)) (n + 1 + 1 + 1 + 1 + 1) ((x2 >>> (16 &&& 31)) &&& 255)) (n + 1 + 1 + 1 + 1 + 1 + 1) ((x2 >>> (8 &&& 31)) &&& 255)) (n + 1 + 1 + 1 + 1 + 1 + 1 + 1) ((x2 >>> (0 &&& 31)) &&& 255)) (n + 1 + 1 + 1 + 1 + 1 + 1 + 1 + 1) ((x3 >>> (24 &&& 31)) &&& 255)) (n + 1 + 1 + 1 + 1 + 1 + 1 + 1 + 1 + 1) ((x3 >>> (16 &&& 31)) &&& 255)) (n + 1 + 1 + 1 + 1 + 1 + 1 + 1 + 1 + 1 + 1) ((x3 >>> (8 &&& 31)) &&& 255)) (n + 1 + 1 + 1 + 1 + 1 + 1 + 1 + 1 + 1 + 1 + 1) ((x3 >>> (0 &&& 31)) &&& 255)) (n + 1 + 1 + 1 + 1 + 1 + 1 + 1 + 1 + 1 + 1 + 1 + 1) ((x4 >>> (24 &&& 31)) &&& 255)) (n + 1 + 1 + 1 + 1 + 1 + 1 + 1 + 1 + 1 + 1 + 1 + 1 + 1) ((x4 >>> (16 &&& 31)) &&& 255)) (n + 1 + 1 + 1 + 1 + 1 + 1 + 1 + 1 + 1 + 1 + 1 + 1 + 1 + 1) ((x4 >>> (8 &&& 31)) &&& 255)) (n + 1 + 1 + 1 + 1 + 1 + 1 + 1 + 1 + 1 + 1 + 1 + 1 + 1 + 1 + 1) ((x4 >>> (0 &&& 31)) &&& 255)) (n + 1 + 1 + 1 + 1 + 1 + 1 + 1 + 1 + 1 + 1 + 1 + 1 + 1 + 1 + 1 + 1) ((x5 >>> (24 &&& 31)) &&& 255)) (n + 1 + 1 + 1 + 1 + 1 + 1 + 1 + 1 + 1 + 1 + 1 + 1 + 1 + 1 + 1 + 1 + 1) ((x5 >>> (16 &&& 31)) &&& 255)) (n + 1 + 1 + 1 + 1 + 1 + 1 + 1 + 1 + 1 + 1 + 1 + 1 + 1 + 1 + 1 + 1 + 1 + 1) ((x5 >>> (8 &&& 31)) &&& 255)) (n + 1 + 1 + 1 + 1 + 1 + 1 + 1 + 1 + 1 + 1 + 1 + 1 + 1 + 1 + 1 + 1 + 1 + 1 + 1) ((x5 >>> (0 &&& 31)) &&& 255))))] := hD
    refine lv_aload_n hx hb d_Mo_feed_104 rfl (lv_at hl 2 rfl) ?_
    refine lv_dup hx hb d_Mo_feed_105 rfl ?_
    refine va_get (D := D) (ci := 8) (v := .int (nI (n + 1 + 1 + 1 + 1 + 1 + 1 + 1 + 1 + 1 + 1 + 1 + 1 + 1 + 1 + 1 + 1 + 1 + 1 + 1))) (C := R_Mo) (T := F_Mo) (N := 29) hx hb hts i_Mo hown hZ.1 hP 0 rfl rfl 1 (by decide) (hts _ fl_Mo_48) (fun _ h9 => h9) rfl d_Mo_feed_106 ?_
    refine lv_iconst (v := 1) hx hb d_Mo_feed_109 (by decide) ?_
    refine lv_iadd hx hb d_Mo_feed_110 ?_
    refine lv_tv (y := nI (n + 1 + 1 + 1 + 1 + 1 + 1 + 1 + 1 + 1 + 1 + 1 + 1 + 1 + 1 + 1 + 1 + 1 + 1 + 1 + 1)) (nI_add (n + 1 + 1 + 1 + 1 + 1 + 1 + 1 + 1 + 1 + 1 + 1 + 1 + 1 + 1 + 1 + 1 + 1 + 1 + 1) 1) ?_
    refine va_put (D := D) (ci := 8) (v := .int (nI (n + 1 + 1 + 1 + 1 + 1 + 1 + 1 + 1 + 1 + 1 + 1 + 1 + 1 + 1 + 1 + 1 + 1 + 1 + 1 + 1))) (ty := .int) (C := R_Mo) (T := F_Mo) (N := 29) hx hb hts i_Mo t_Mo t_Mo_ok n_Mo hown hZ.1 hP hD hS 0 rfl rfl 1 (by decide) (hts _ fl_Mo_48) (fun _ h9 => h9) rfl (by decide +kernel) rfl rfl (Nat.le_of_ble_eq_true rfl) d_Mo_feed_111 (fun H locs hP hD hS => ?_)
    have hP : va_P D classes [(mo, .inr (8, [.int 0, .int (nI (n + 1 + 1 + 1 + 1 + 1 + 1 + 1 + 1 + 1 + 1 + 1 + 1 + 1 + 1 + 1 + 1 + 1 + 1 + 1 + 1)), .ref m_row, .ref m_shelves, .ref m_many, .ref m_widths, .int (nI mk), .ref m_mark, .int z_shown, .ref m_shownMark, .int z_wasRun, .int z_wrong, .int z_ended, .int (nI sp), .int z_hints, .int z_hasWidth, .int z_width, .int z_first, .int z_moved, .int z_deepest, .int z_x, .int z_y, .int (nI t), .ref m_stack, .ref m_places, .int (nI d), .ref m_kinds, .ref m_ats, .ref m_ends])), (m_row, .inl (cI, 16384, .inl (upd (upd (upd (upd (upd (upd (upd (upd (upd (upd (upd (upd (upd (upd (upd (upd (upd (upd (upd (upd g_row n ((x1 >>> (24 &&& 31)) &&& 255)) (n + 1) ((x1 >>> (16 &&& 31)) &&& 255)) (n + 1 + 1) ((x1 >>> (8 &&& 31)) &&& 255)) (n + 1 + 1 + 1) ((x1 >>> (0 &&& 31)) &&& 255)) (n + 1 + 1 + 1 + 1) ((x2 >>> (24 &&& 31)) &&& 255)) (n + 1 + 1 + 1 + 1 + 1) ((x2 >>> (16 &&& 31)) &&& 255)) (n + 1 + 1 + 1 + 1 + 1 + 1) ((x2 >>> (8 &&& 31)) &&& 255)) (n + 1 + 1 + 1 + 1 + 1 + 1 + 1) ((x2 >>> (0 &&& 31)) &&& 255)) (n + 1 + 1 + 1 + 1 + 1 + 1 + 1 + 1) ((x3 >>> (24 &&& 31)) &&& 255)) (n + 1 + 1 + 1 + 1 + 1 + 1 + 1 + 1 + 1) ((x3 >>> (16 &&& 31)) &&& 255)) (n + 1 + 1 + 1 + 1 + 1 + 1 + 1 + 1 + 1 + 1) ((x3 >>> (8 &&& 31)) &&& 255)) (n + 1 + 1 + 1 + 1 + 1 + 1 + 1 + 1 + 1 + 1 + 1) ((x3 >>> (0 &&& 31)) &&& 255)) (n + 1 + 1 + 1 + 1 + 1 + 1 + 1 + 1 + 1 + 1 + 1 + 1) ((x4 >>> (24 &&& 31)) &&& 255)) (n + 1 + 1 + 1 + 1 + 1 + 1 + 1 + 1 + 1 + 1 + 1 + 1 + 1) ((x4 >>> (16 &&& 31)) &&& 255)) (n + 1 + 1 + 1 + 1 + 1 + 1 + 1 + 1 + 1 + 1 + 1 + 1 + 1 + 1) ((x4 >>> (8 &&& 31)) &&& 255)) (n + 1 + 1 + 1 + 1 + 1 + 1 + 1 + 1 + 1 + 1 + 1 + 1 + 1 + 1 + 1) ((x4 >>> (0 &&& 31)) &&& 255)) (n + 1 + 1 + 1 + 1 + 1 + 1 + 1 + 1 + 1 + 1 + 1 + 1 + 1 + 1 + 1 + 1) ((x5 >>> (24 &&& 31)) &&& 255)) (n + 1 + 1 + 1 + 1 + 1 + 1 + 1 + 1 + 1 + 1 + 1 + 1 + 1 + 1 + 1 + 1 + 1) ((x5 >>> (16 &&& 31)) &&& 255)) (n + 1 + 1 + 1 + 1 + 1 + 1 + 1 + 1 + 1 + 1 + 1 + 1 + 1 + 1 + 1 + 1 + 1 + 1) ((x5 >>> (8 &&& 31)) &&& 255)) (n + 1 + 1 + 1 + 1 + 1 + 1 + 1 + 1 + 1 + 1 + 1 + 1 + 1 + 1 + 1 + 1 + 1 + 1 + 1) ((x5 >>> (0 &&& 31)) &&& 255))))] H := hP
    have hD : va_D A_ [(mo, .inr (8, [.int 0, .int (nI (n + 1 + 1 + 1 + 1 + 1 + 1 + 1 + 1 + 1 + 1 + 1 + 1 + 1 + 1 + 1 + 1 + 1 + 1 + 1 + 1)), .ref m_row, .ref m_shelves, .ref m_many, .ref m_widths, .int (nI mk), .ref m_mark, .int z_shown, .ref m_shownMark, .int z_wasRun, .int z_wrong, .int z_ended, .int (nI sp), .int z_hints, .int z_hasWidth, .int z_width, .int z_first, .int z_moved, .int z_deepest, .int z_x, .int z_y, .int (nI t), .ref m_stack, .ref m_places, .int (nI d), .ref m_kinds, .ref m_ats, .ref m_ends])), (m_row, .inl (cI, 16384, .inl (upd (upd (upd (upd (upd (upd (upd (upd (upd (upd (upd (upd (upd (upd (upd (upd (upd (upd (upd (upd g_row n ((x1 >>> (24 &&& 31)) &&& 255)) (n + 1) ((x1 >>> (16 &&& 31)) &&& 255)) (n + 1 + 1) ((x1 >>> (8 &&& 31)) &&& 255)) (n + 1 + 1 + 1) ((x1 >>> (0 &&& 31)) &&& 255)) (n + 1 + 1 + 1 + 1) ((x2 >>> (24 &&& 31)) &&& 255)) (n + 1 + 1 + 1 + 1 + 1) ((x2 >>> (16 &&& 31)) &&& 255)) (n + 1 + 1 + 1 + 1 + 1 + 1) ((x2 >>> (8 &&& 31)) &&& 255)) (n + 1 + 1 + 1 + 1 + 1 + 1 + 1) ((x2 >>> (0 &&& 31)) &&& 255)) (n + 1 + 1 + 1 + 1 + 1 + 1 + 1 + 1) ((x3 >>> (24 &&& 31)) &&& 255)) (n + 1 + 1 + 1 + 1 + 1 + 1 + 1 + 1 + 1) ((x3 >>> (16 &&& 31)) &&& 255)) (n + 1 + 1 + 1 + 1 + 1 + 1 + 1 + 1 + 1 + 1) ((x3 >>> (8 &&& 31)) &&& 255)) (n + 1 + 1 + 1 + 1 + 1 + 1 + 1 + 1 + 1 + 1 + 1) ((x3 >>> (0 &&& 31)) &&& 255)) (n + 1 + 1 + 1 + 1 + 1 + 1 + 1 + 1 + 1 + 1 + 1 + 1) ((x4 >>> (24 &&& 31)) &&& 255)) (n + 1 + 1 + 1 + 1 + 1 + 1 + 1 + 1 + 1 + 1 + 1 + 1 + 1) ((x4 >>> (16 &&& 31)) &&& 255)) (n + 1 + 1 + 1 + 1 + 1 + 1 + 1 + 1 + 1 + 1 + 1 + 1 + 1 + 1) ((x4 >>> (8 &&& 31)) &&& 255)) (n + 1 + 1 + 1 + 1 + 1 + 1 + 1 + 1 + 1 + 1 + 1 + 1 + 1 + 1 + 1) ((x4 >>> (0 &&& 31)) &&& 255)) (n + 1 + 1 + 1 + 1 + 1 + 1 + 1 + 1 + 1 + 1 + 1 + 1 + 1 + 1 + 1 + 1) ((x5 >>> (24 &&& 31)) &&& 255)) (n + 1 + 1 + 1 + 1 + 1 + 1 + 1 + 1 + 1 + 1 + 1 + 1 + 1 + 1 + 1 + 1 + 1) ((x5 >>> (16 &&& 31)) &&& 255)) (n + 1 + 1 + 1 + 1 + 1 + 1 + 1 + 1 + 1 + 1 + 1 + 1 + 1 + 1 + 1 + 1 + 1 + 1) ((x5 >>> (8 &&& 31)) &&& 255)) (n + 1 + 1 + 1 + 1 + 1 + 1 + 1 + 1 + 1 + 1 + 1 + 1 + 1 + 1 + 1 + 1 + 1 + 1 + 1) ((x5 >>> (0 &&& 31)) &&& 255))))] := hD
    refine lv_iinc (v := 20) (lv' := [(6, .int 20), (7, .int x5), (0, .ref mo), (1, .int x1), (2, .int x2), (3, .int x3), (4, .int x4), (5, .int x5)]) hx hb d_Mo_feed_114 hl (k := 1) rfl (by decide) (by decide) rfl (fun ls hl => ?_)
    refine lv_goto (tgt := 23) hx hb d_Mo_feed_117 (by decide) ?_
    refine lv_iload hx hb d_Mo_feed_23 (lv_at hl 0 rfl) ?_
    refine lv_bipush (v := 20) hx hb d_Mo_feed_25 (by decide) ?_
    refine lv_icmp_ge (tgt := 120) hx hb d_Mo_feed_27 (by decide) (fun c_27 => ?_) (fun c_27 => absurd (by decide) c_27)
    clear c_27
    refine lv_aload_n hx hb d_Mo_feed_120 rfl (lv_at hl 2 rfl) ?_
    refine va_get (D := D) (ci := 8) (v := .int (nI (n + 1 + 1 + 1 + 1 + 1 + 1 + 1 + 1 + 1 + 1 + 1 + 1 + 1 + 1 + 1 + 1 + 1 + 1 + 1 + 1))) (C := R_Mo) (T := F_Mo) (N := 29) hx hb hts i_Mo hown hZ.1 hP 0 rfl rfl 1 (by decide) (hts _ fl_Mo_48) (fun _ h9 => h9) rfl d_Mo_feed_121 ?_
    exact t_iret hx hb hr hlk d_Mo_feed_124 hP hD hS ⟨_, rfl, rfl, rfl, Or.inr ⟨by omega, rfl, _, rfl, fun i hi => by rw [pk_un (by omega), pk_un (by omega), pk_un (by omega), pk_un (by omega), pk_un (by omega), pk_un (by omega), pk_un (by omega), pk_un (by omega), pk_un (by omega), pk_un (by omega), pk_un (by omega), pk_un (by omega), pk_un (by omega), pk_un (by omega), pk_un (by omega), pk_un (by omega), pk_un (by omega), pk_un (by omega), pk_un (by omega), pk_un (by omega)], fun i hi => by
            rcases (show i = 0 ∨ i = 1 ∨ i = 2 ∨ i = 3 ∨ i = 4 ∨ i = 5 ∨ i = 6 ∨ i = 7 ∨ i = 8 ∨ i = 9 ∨ i = 10 ∨ i = 11 ∨ i = 12 ∨ i = 13 ∨ i = 14 ∨ i = 15 ∨ i = 16 ∨ i = 17 ∨ i = 18 ∨ i = 19 by omega) with rfl | rfl | rfl | rfl | rfl | rfl | rfl | rfl | rfl | rfl | rfl | rfl | rfl | rfl | rfl | rfl | rfl | rfl | rfl | rfl
            · rw [pk_un (by omega), pk_un (by omega), pk_un (by omega), pk_un (by omega), pk_un (by omega), pk_un (by omega), pk_un (by omega), pk_un (by omega), pk_un (by omega), pk_un (by omega), pk_un (by omega), pk_un (by omega), pk_un (by omega), pk_un (by omega), pk_un (by omega), pk_un (by omega), pk_un (by omega), pk_un (by omega), pk_un (by omega), upd_eq (by omega)]; rfl
            · rw [pk_un (by omega), pk_un (by omega), pk_un (by omega), pk_un (by omega), pk_un (by omega), pk_un (by omega), pk_un (by omega), pk_un (by omega), pk_un (by omega), pk_un (by omega), pk_un (by omega), pk_un (by omega), pk_un (by omega), pk_un (by omega), pk_un (by omega), pk_un (by omega), pk_un (by omega), pk_un (by omega), upd_eq (by omega)]; rfl
            · rw [pk_un (by omega), pk_un (by omega), pk_un (by omega), pk_un (by omega), pk_un (by omega), pk_un (by omega), pk_un (by omega), pk_un (by omega), pk_un (by omega), pk_un (by omega), pk_un (by omega), pk_un (by omega), pk_un (by omega), pk_un (by omega), pk_un (by omega), pk_un (by omega), pk_un (by omega), upd_eq (by omega)]; rfl
            · rw [pk_un (by omega), pk_un (by omega), pk_un (by omega), pk_un (by omega), pk_un (by omega), pk_un (by omega), pk_un (by omega), pk_un (by omega), pk_un (by omega), pk_un (by omega), pk_un (by omega), pk_un (by omega), pk_un (by omega), pk_un (by omega), pk_un (by omega), pk_un (by omega), upd_eq (by omega)]; rfl
            · rw [pk_un (by omega), pk_un (by omega), pk_un (by omega), pk_un (by omega), pk_un (by omega), pk_un (by omega), pk_un (by omega), pk_un (by omega), pk_un (by omega), pk_un (by omega), pk_un (by omega), pk_un (by omega), pk_un (by omega), pk_un (by omega), pk_un (by omega), upd_eq (by omega)]; rfl
            · rw [pk_un (by omega), pk_un (by omega), pk_un (by omega), pk_un (by omega), pk_un (by omega), pk_un (by omega), pk_un (by omega), pk_un (by omega), pk_un (by omega), pk_un (by omega), pk_un (by omega), pk_un (by omega), pk_un (by omega), pk_un (by omega), upd_eq (by omega)]; rfl
            · rw [pk_un (by omega), pk_un (by omega), pk_un (by omega), pk_un (by omega), pk_un (by omega), pk_un (by omega), pk_un (by omega), pk_un (by omega), pk_un (by omega), pk_un (by omega), pk_un (by omega), pk_un (by omega), pk_un (by omega), upd_eq (by omega)]; rfl
            · rw [pk_un (by omega), pk_un (by omega), pk_un (by omega), pk_un (by omega), pk_un (by omega), pk_un (by omega), pk_un (by omega), pk_un (by omega), pk_un (by omega), pk_un (by omega), pk_un (by omega), pk_un (by omega), upd_eq (by omega)]; rfl
            · rw [pk_un (by omega), pk_un (by omega), pk_un (by omega), pk_un (by omega), pk_un (by omega), pk_un (by omega), pk_un (by omega), pk_un (by omega), pk_un (by omega), pk_un (by omega), pk_un (by omega), upd_eq (by omega)]; rfl
            · rw [pk_un (by omega), pk_un (by omega), pk_un (by omega), pk_un (by omega), pk_un (by omega), pk_un (by omega), pk_un (by omega), pk_un (by omega), pk_un (by omega), pk_un (by omega), upd_eq (by omega)]; rfl
            · rw [pk_un (by omega), pk_un (by omega), pk_un (by omega), pk_un (by omega), pk_un (by omega), pk_un (by omega), pk_un (by omega), pk_un (by omega), pk_un (by omega), upd_eq (by omega)]; rfl
            · rw [pk_un (by omega), pk_un (by omega), pk_un (by omega), pk_un (by omega), pk_un (by omega), pk_un (by omega), pk_un (by omega), pk_un (by omega), upd_eq (by omega)]; rfl
            · rw [pk_un (by omega), pk_un (by omega), pk_un (by omega), pk_un (by omega), pk_un (by omega), pk_un (by omega), pk_un (by omega), upd_eq (by omega)]; rfl
            · rw [pk_un (by omega), pk_un (by omega), pk_un (by omega), pk_un (by omega), pk_un (by omega), pk_un (by omega), upd_eq (by omega)]; rfl
            · rw [pk_un (by omega), pk_un (by omega), pk_un (by omega), pk_un (by omega), pk_un (by omega), upd_eq (by omega)]; rfl
            · rw [pk_un (by omega), pk_un (by omega), pk_un (by omega), pk_un (by omega), upd_eq (by omega)]; rfl
            · rw [pk_un (by omega), pk_un (by omega), pk_un (by omega), upd_eq (by omega)]; rfl
            · rw [pk_un (by omega), pk_un (by omega), upd_eq (by omega)]; rfl
            · rw [pk_un (by omega), upd_eq (by omega)]; rfl
            · rw [upd_eq (by omega)]; rfl⟩⟩
  · have n_15 : ¬ (n + 20) ≤ (16384) := fun z => c_15 ((nI_leI (a := n + 20) (b := 16384) (by omega) (by omega)).mpr z)
    refine lv_iconst (v := (-1)) hx hb d_Mo_feed_18 (by decide) ?_
    exact t_iret hx hb hr hlk d_Mo_feed_19 hP hD hS ⟨_, rfl, rfl, rfl, Or.inl ⟨by omega, rfl, rfl⟩⟩
set_option maxHeartbeats 1000000 in
set_option maxRecDepth 100000 in
theorem c_Mo_put (l : Launch) (D : va_G) (cB cI cJ : ClassId) (mo m_row m_shelves m_many m_widths m_mark m_shownMark m_stack m_places m_kinds m_ats m_ends : Nat) (mk sp t d : Nat) (z_fault z_size z_shown z_wasRun z_wrong z_ended z_hints z_hasWidth z_width z_first z_moved z_deepest z_x z_y : Int32) (g_row : Nat → Int32) (n : Nat) (i b : Int32) (hn : n ≤ 16384) : Tr l D classes (TY cB cI cJ) gd_tbl nx_tbl y_Mo_put b_Mo_put 4 (some .int) ({ frames := 1, cells := 0, slots := 0, locals := 21 }) [.ref mo, .int i, .int b] [(mo, .inr (8, [.int z_fault, .int (nI n), .ref m_row, .ref m_shelves, .ref m_many, .ref m_widths, .int (nI mk), .ref m_mark, .int z_shown, .ref m_shownMark, .int z_wasRun, .int z_wrong, .int z_ended, .int (nI sp), .int z_hints, .int z_hasWidth, .int z_width, .int z_first, .int z_moved, .int z_deepest, .int z_x, .int z_y, .int (nI t), .ref m_stack, .ref m_places, .int (nI d), .ref m_kinds, .ref m_ats, .ref m_ends])), (m_row, .inl (cI, 16384, .inl g_row))] (pI0 (fun r w => (¬ okI n i ∧ r = 0 ∧ w = [(mo, .inr (8, [.int 1, .int (nI n), .ref m_row, .ref m_shelves, .ref m_many, .ref m_widths, .int (nI mk), .ref m_mark, .int z_shown, .ref m_shownMark, .int z_wasRun, .int z_wrong, .int z_ended, .int (nI sp), .int z_hints, .int z_hasWidth, .int z_width, .int z_first, .int z_moved, .int z_deepest, .int z_x, .int z_y, .int (nI t), .ref m_stack, .ref m_places, .int (nI d), .ref m_kinds, .ref m_ats, .ref m_ends])), (m_row, .inl (cI, 16384, .inl g_row))]) ∨ (okI n i ∧ ¬ okB b ∧ r = 0 ∧ w = [(mo, .inr (8, [.int 2, .int (nI n), .ref m_row, .ref m_shelves, .ref m_many, .ref m_widths, .int (nI mk), .ref m_mark, .int z_shown, .ref m_shownMark, .int z_wasRun, .int z_wrong, .int z_ended, .int (nI sp), .int z_hints, .int z_hasWidth, .int z_width, .int z_first, .int z_moved, .int z_deepest, .int z_x, .int z_y, .int (nI t), .ref m_stack, .ref m_places, .int (nI d), .ref m_kinds, .ref m_ats, .ref m_ends])), (m_row, .inl (cI, 16384, .inl g_row))]) ∨ ∃ j : Nat, i = nI j ∧ j < n ∧ okB b ∧ r = g_row j ∧ w = [(mo, .inr (8, [.int 0, .int (nI n), .ref m_row, .ref m_shelves, .ref m_many, .ref m_widths, .int (nI mk), .ref m_mark, .int z_shown, .ref m_shownMark, .int z_wasRun, .int z_wrong, .int z_ended, .int (nI sp), .int z_hints, .int z_hasWidth, .int z_width, .int z_first, .int z_moved, .int z_deepest, .int z_x, .int z_y, .int (nI t), .ref m_stack, .ref m_places, .int (nI d), .ref m_kinds, .ref m_ats, .ref m_ends])), (m_row, .inl (cI, 16384, .inl (upd g_row j b)))])) := by
  refine Tr.intro (by decide +kernel) nx_ok (Nat.le_of_ble_eq_true rfl) ?_
  intro p_ e_ s_ m_ args_ below_ meth_ c_ A_ ls hx hb hml hown hts hr hlk hnm hZ hP hD hS hl
  have hl : lv_has ls 4 [(0, .ref mo), (1, .int i), (2, .int b)] := hl
  refine lv_aload_n hx hb d_Mo_put_0 rfl (lv_at hl 0 rfl) ?_
  refine lv_iload_n hx hb d_Mo_put_1 rfl (lv_at hl 1 rfl) ?_
  refine lv_if_lt (tgt := 13) hx hb d_Mo_put_2 (by decide) (fun c_2 => ?_) (fun c_2 => ?_)
  · refine lv_iconst (v := 1) hx hb d_Mo_put_13 (by decide) ?_
    refine lv_goto (tgt := 33) hx hb d_Mo_put_14 (by decide) ?_
    have hC : Cut [(mo, .inr (8, [.int z_fault, .int (nI n), .ref m_row, .ref m_shelves, .ref m_many, .ref m_widths, .int (nI mk), .ref m_mark, .int z_shown, .ref m_shownMark, .int z_wasRun, .int z_wrong, .int z_ended, .int (nI sp), .int z_hints, .int z_hasWidth, .int z_width, .int z_first, .int z_moved, .int z_deepest, .int z_x, .int z_y, .int (nI t), .ref m_stack, .ref m_places, .int (nI d), .ref m_kinds, .ref m_ats, .ref m_ends])), (m_row, .inl (cI, 16384, .inl g_row))] [(mo, .inr (8, [.int z_fault, .int (nI n), .ref m_row, .ref m_shelves, .ref m_many, .ref m_widths, .int (nI mk), .ref m_mark, .int z_shown, .ref m_shownMark, .int z_wasRun, .int z_wrong, .int z_ended, .int (nI sp), .int z_hints, .int z_hasWidth, .int z_width, .int z_first, .int z_moved, .int z_deepest, .int z_x, .int z_y, .int (nI t), .ref m_stack, .ref m_places, .int (nI d), .ref m_kinds, .ref m_ats, .ref m_ends]))] [(m_row, .inl (cI, 16384, .inl g_row))] [0] [1] := ⟨rfl, rfl, rfl, rfl, by decide⟩
    refine goI0 (trV (As := [.int 1]) (rest := []) ⟨hx, hb, hml, hown, hts⟩ gd_good (c_Mo_refused l D cB cI cJ mo m_row m_shelves m_many m_widths m_mark m_shownMark m_stack m_places m_kinds m_ats m_ends mk sp t d z_fault (nI n) z_shown z_wasRun z_wrong z_ended z_hints z_hasWidth z_width z_first z_moved z_deepest z_x z_y 1) cal_Mo_refused ml_Mo_51 ⟨Nat.le_of_ble_eq_true rfl, Nat.le_of_ble_eq_true rfl⟩ hZ hP hD hC 0 (ci := 8) rfl rfl rfl rfl hl.1 rfl (Nat.le_of_ble_eq_true rfl) d_Mo_put_33 ⟨Nat.le_of_ble_eq_true rfl, Nat.le_of_ble_eq_true rfl⟩) hZ hP hD hS hC (fun r_33 w1 H locs hq hP hD hS => ?_)
    obtain ⟨rq_33, rfl⟩ := hq
    have rq_33 : r_33 = 1 := rq_33
    subst rq_33
    have hP : va_P D classes [(m_row, .inl (cI, 16384, .inl g_row)), (mo, .inr (8, [.int 1, .int (nI n), .ref m_row, .ref m_shelves, .ref m_many, .ref m_widths, .int (nI mk), .ref m_mark, .int z_shown, .ref m_shownMark, .int z_wasRun, .int z_wrong, .int z_ended, .int (nI sp), .int z_hints, .int z_hasWidth, .int z_width, .int z_first, .int z_moved, .int z_deepest, .int z_x, .int z_y, .int (nI t), .ref m_stack, .ref m_places, .int (nI d), .ref m_kinds, .ref m_ats, .ref m_ends]))] H := hP
    have hD : va_D A_ [(m_row, .inl (cI, 16384, .inl g_row)), (mo, .inr (8, [.int 1, .int (nI n), .ref m_row, .ref m_shelves, .ref m_many, .ref m_widths, .int (nI mk), .ref m_mark, .int z_shown, .ref m_shownMark, .int z_wasRun, .int z_wrong, .int z_ended, .int (nI sp), .int z_hints, .int z_hasWidth, .int z_width, .int z_first, .int z_moved, .int z_deepest, .int z_x, .int z_y, .int (nI t), .ref m_stack, .ref m_places, .int (nI d), .ref m_kinds, .ref m_ats, .ref m_ends]))] := hD
    refine lv_if_eq (tgt := 41) hx hb d_Mo_put_36 (by decide) (fun c_36 => absurd c_36 (by decide)) (fun c_36 => ?_)
    clear c_36
    refine lv_iconst (v := 0) hx hb d_Mo_put_39 (by decide) ?_
    exact t_iret hx hb hr hlk d_Mo_put_40 (hP.subm (ws' := [(mo, .inr (8, [.int 1, .int (nI n), .ref m_row, .ref m_shelves, .ref m_many, .ref m_widths, .int (nI mk), .ref m_mark, .int z_shown, .ref m_shownMark, .int z_wasRun, .int z_wrong, .int z_ended, .int (nI sp), .int z_hints, .int z_hasWidth, .int z_width, .int z_first, .int z_moved, .int z_deepest, .int z_x, .int z_y, .int (nI t), .ref m_stack, .ref m_places, .int (nI d), .ref m_kinds, .ref m_ats, .ref m_ends])), (m_row, .inl (cI, 16384, .inl g_row))]) [1, 0] rfl) (hD.sub (ws' := [(mo, .inr (8, [.int 1, .int (nI n), .ref m_row, .ref m_shelves, .ref m_many, .ref m_widths, .int (nI mk), .ref m_mark, .int z_shown, .ref m_shownMark, .int z_wasRun, .int z_wrong, .int z_ended, .int (nI sp), .int z_hints, .int z_hasWidth, .int z_width, .int z_first, .int z_moved, .int z_deepest, .int z_x, .int z_y, .int (nI t), .ref m_stack, .ref m_places, .int (nI d), .ref m_kinds, .ref m_ats, .ref m_ends])), (m_row, .inl (cI, 16384, .inl g_row))]) [1, 0] rfl rfl) hS ⟨_, rfl, rfl, rfl, Or.inl ⟨fun z => z.1 c_2, rfl, rfl⟩⟩
  · refine lv_iload_n hx hb d_Mo_put_5 rfl (lv_at hl 1 rfl) ?_
    refine lv_aload_n hx hb d_Mo_put_6 rfl (lv_at hl 0 rfl) ?_
    refine va_get (D := D) (ci := 8) (v := .int (nI n)) (C := R_Mo) (T := F_Mo) (N := 29) hx hb hts i_Mo hown hZ.1 hP 0 rfl rfl 1 (by decide) (hts _ fl_Mo_48) (fun _ h9 => h9) rfl d_Mo_put_7 ?_
    refine lv_icmp_lt (tgt := 17) hx hb d_Mo_put_10 (by decide) (fun c_10 => ?_) (fun c_10 => ?_)
    · refine lv_iload_n hx hb d_Mo_put_17 rfl (lv_at hl 2 rfl) ?_
      refine lv_if_lt (tgt := 28) hx hb d_Mo_put_18 (by decide) (fun c_18 => ?_) (fun c_18 => ?_)
      · refine lv_iconst (v := 2) hx hb d_Mo_put_28 (by decide) ?_
        refine lv_goto (tgt := 33) hx hb d_Mo_put_29 (by decide) ?_
        have hC : Cut [(mo, .inr (8, [.int z_fault, .int (nI n), .ref m_row, .ref m_shelves, .ref m_many, .ref m_widths, .int (nI mk), .ref m_mark, .int z_shown, .ref m_shownMark, .int z_wasRun, .int z_wrong, .int z_ended, .int (nI sp), .int z_hints, .int z_hasWidth, .int z_width, .int z_first, .int z_moved, .int z_deepest, .int z_x, .int z_y, .int (nI t), .ref m_stack, .ref m_places, .int (nI d), .ref m_kinds, .ref m_ats, .ref m_ends])), (m_row, .inl (cI, 16384, .inl g_row))] [(mo, .inr (8, [.int z_fault, .int (nI n), .ref m_row, .ref m_shelves, .ref m_many, .ref m_widths, .int (nI mk), .ref m_mark, .int z_shown, .ref m_shownMark, .int z_wasRun, .int z_wrong, .int z_ended, .int (nI sp), .int z_hints, .int z_hasWidth, .int z_width, .int z_first, .int z_moved, .int z_deepest, .int z_x, .int z_y, .int (nI t), .ref m_stack, .ref m_places, .int (nI d), .ref m_kinds, .ref m_ats, .ref m_ends]))] [(m_row, .inl (cI, 16384, .inl g_row))] [0] [1] := ⟨rfl, rfl, rfl, rfl, by decide⟩
        refine goI0 (trV (As := [.int 2]) (rest := []) ⟨hx, hb, hml, hown, hts⟩ gd_good (c_Mo_refused l D cB cI cJ mo m_row m_shelves m_many m_widths m_mark m_shownMark m_stack m_places m_kinds m_ats m_ends mk sp t d z_fault (nI n) z_shown z_wasRun z_wrong z_ended z_hints z_hasWidth z_width z_first z_moved z_deepest z_x z_y 2) cal_Mo_refused ml_Mo_51 ⟨Nat.le_of_ble_eq_true rfl, Nat.le_of_ble_eq_true rfl⟩ hZ hP hD hC 0 (ci := 8) rfl rfl rfl rfl hl.1 rfl (Nat.le_of_ble_eq_true rfl) d_Mo_put_33 ⟨Nat.le_of_ble_eq_true rfl, Nat.le_of_ble_eq_true rfl⟩) hZ hP hD hS hC (fun r_33 w1 H locs hq hP hD hS => ?_)
        obtain ⟨rq_33, rfl⟩ := hq
        have rq_33 : r_33 = 1 := rq_33
        subst rq_33
        have hP : va_P D classes [(m_row, .inl (cI, 16384, .inl g_row)), (mo, .inr (8, [.int 2, .int (nI n), .ref m_row, .ref m_shelves, .ref m_many, .ref m_widths, .int (nI mk), .ref m_mark, .int z_shown, .ref m_shownMark, .int z_wasRun, .int z_wrong, .int z_ended, .int (nI sp), .int z_hints, .int z_hasWidth, .int z_width, .int z_first, .int z_moved, .int z_deepest, .int z_x, .int z_y, .int (nI t), .ref m_stack, .ref m_places, .int (nI d), .ref m_kinds, .ref m_ats, .ref m_ends]))] H := hP
        have hD : va_D A_ [(m_row, .inl (cI, 16384, .inl g_row)), (mo, .inr (8, [.int 2, .int (nI n), .ref m_row, .ref m_shelves, .ref m_many, .ref m_widths, .int (nI mk), .ref m_mark, .int z_shown, .ref m_shownMark, .int z_wasRun, .int z_wrong, .int z_ended, .int (nI sp), .int z_hints, .int z_hasWidth, .int z_width, .int z_first, .int z_moved, .int z_deepest, .int z_x, .int z_y, .int (nI t), .ref m_stack, .ref m_places, .int (nI d), .ref m_kinds, .ref m_ats, .ref m_ends]))] := hD
        refine lv_if_eq (tgt := 41) hx hb d_Mo_put_36 (by decide) (fun c_36 => absurd c_36 (by decide)) (fun c_36 => ?_)
        clear c_36
        refine lv_iconst (v := 0) hx hb d_Mo_put_39 (by decide) ?_
        exact t_iret hx hb hr hlk d_Mo_put_40 (hP.subm (ws' := [(mo, .inr (8, [.int 2, .int (nI n), .ref m_row, .ref m_shelves, .ref m_many, .ref m_widths, .int (nI mk), .ref m_mark, .int z_shown, .ref m_shownMark, .int z_wasRun, .int z_wrong, .int z_ended, .int (nI sp), .int z_hints, .int z_hasWidth, .int z_width, .int z_first, .int z_moved, .int z_deepest, .int z_x, .int z_y, .int (nI t), .ref m_stack, .ref m_places, .int (nI d), .ref m_kinds, .ref m_ats, .ref m_ends])), (m_row, .inl (cI, 16384, .inl g_row))]) [1, 0] rfl) (hD.sub (ws' := [(mo, .inr (8, [.int 2, .int (nI n), .ref m_row, .ref m_shelves, .ref m_many, .ref m_widths, .int (nI mk), .ref m_mark, .int z_shown, .ref m_shownMark, .int z_wasRun, .int z_wrong, .int z_ended, .int (nI sp), .int z_hints, .int z_hasWidth, .int z_width, .int z_first, .int z_moved, .int z_deepest, .int z_x, .int z_y, .int (nI t), .ref m_stack, .ref m_places, .int (nI d), .ref m_kinds, .ref m_ats, .ref m_ends])), (m_row, .inl (cI, 16384, .inl g_row))]) [1, 0] rfl rfl) hS ⟨_, rfl, rfl, rfl, Or.inr (Or.inl ⟨⟨c_2, c_10⟩, fun z => z.1 c_18, rfl, rfl⟩)⟩
      · refine lv_iload_n hx hb d_Mo_put_21 rfl (lv_at hl 2 rfl) ?_
        refine lv_sipush (v := 255) hx hb d_Mo_put_22 (by decide) ?_
        refine lv_icmp_le (tgt := 32) hx hb d_Mo_put_25 (by decide) (fun c_25 => ?_) (fun c_25 => ?_)
        · refine lv_iconst (v := 0) hx hb d_Mo_put_32 (by decide) ?_
          have hC : Cut [(mo, .inr (8, [.int z_fault, .int (nI n), .ref m_row, .ref m_shelves, .ref m_many, .ref m_widths, .int (nI mk), .ref m_mark, .int z_shown, .ref m_shownMark, .int z_wasRun, .int z_wrong, .int z_ended, .int (nI sp), .int z_hints, .int z_hasWidth, .int z_width, .int z_first, .int z_moved, .int z_deepest, .int z_x, .int z_y, .int (nI t), .ref m_stack, .ref m_places, .int (nI d), .ref m_kinds, .ref m_ats, .ref m_ends])), (m_row, .inl (cI, 16384, .inl g_row))] [(mo, .inr (8, [.int z_fault, .int (nI n), .ref m_row, .ref m_shelves, .ref m_many, .ref m_widths, .int (nI mk), .ref m_mark, .int z_shown, .ref m_shownMark, .int z_wasRun, .int z_wrong, .int z_ended, .int (nI sp), .int z_hints, .int z_hasWidth, .int z_width, .int z_first, .int z_moved, .int z_deepest, .int z_x, .int z_y, .int (nI t), .ref m_stack, .ref m_places, .int (nI d), .ref m_kinds, .ref m_ats, .ref m_ends]))] [(m_row, .inl (cI, 16384, .inl g_row))] [0] [1] := ⟨rfl, rfl, rfl, rfl, by decide⟩
          refine goI0 (trV (As := [.int 0]) (rest := []) ⟨hx, hb, hml, hown, hts⟩ gd_good (c_Mo_refused l D cB cI cJ mo m_row m_shelves m_many m_widths m_mark m_shownMark m_stack m_places m_kinds m_ats m_ends mk sp t d z_fault (nI n) z_shown z_wasRun z_wrong z_ended z_hints z_hasWidth z_width z_first z_moved z_deepest z_x z_y 0) cal_Mo_refused ml_Mo_51 ⟨Nat.le_of_ble_eq_true rfl, Nat.le_of_ble_eq_true rfl⟩ hZ hP hD hC 0 (ci := 8) rfl rfl rfl rfl hl.1 rfl (Nat.le_of_ble_eq_true rfl) d_Mo_put_33 ⟨Nat.le_of_ble_eq_true rfl, Nat.le_of_ble_eq_true rfl⟩) hZ hP hD hS hC (fun r_33 w1 H locs hq hP hD hS => ?_)
          obtain ⟨rq_33, rfl⟩ := hq
          have rq_33 : r_33 = 0 := rq_33
          subst rq_33
          have hP : va_P D classes [(m_row, .inl (cI, 16384, .inl g_row)), (mo, .inr (8, [.int 0, .int (nI n), .ref m_row, .ref m_shelves, .ref m_many, .ref m_widths, .int (nI mk), .ref m_mark, .int z_shown, .ref m_shownMark, .int z_wasRun, .int z_wrong, .int z_ended, .int (nI sp), .int z_hints, .int z_hasWidth, .int z_width, .int z_first, .int z_moved, .int z_deepest, .int z_x, .int z_y, .int (nI t), .ref m_stack, .ref m_places, .int (nI d), .ref m_kinds, .ref m_ats, .ref m_ends]))] H := hP
          have hD : va_D A_ [(m_row, .inl (cI, 16384, .inl g_row)), (mo, .inr (8, [.int 0, .int (nI n), .ref m_row, .ref m_shelves, .ref m_many, .ref m_widths, .int (nI mk), .ref m_mark, .int z_shown, .ref m_shownMark, .int z_wasRun, .int z_wrong, .int z_ended, .int (nI sp), .int z_hints, .int z_hasWidth, .int z_width, .int z_first, .int z_moved, .int z_deepest, .int z_x, .int z_y, .int (nI t), .ref m_stack, .ref m_places, .int (nI d), .ref m_kinds, .ref m_ats, .ref m_ends]))] := hD
          refine lv_if_eq (tgt := 41) hx hb d_Mo_put_36 (by decide) (fun c_36 => ?_) (fun c_36 => absurd (by decide) c_36)
          clear c_36
          obtain ⟨j, hj, ej⟩ := in_ok c_2 c_10 (by omega)
          subst ej
          refine lv_aload_n hx hb d_Mo_put_41 rfl (lv_at hl 0 rfl) ?_
          refine va_get (D := D) (ci := 8) (v := .ref m_row) (C := R_Mo) (T := F_Mo) (N := 29) hx hb hts i_Mo hown hZ.1 hP 1 rfl rfl 2 (by decide) (hts _ fl_Mo_7) (fun _ h9 => h9) rfl d_Mo_put_42 ?_
          refine lv_iload_n hx hb d_Mo_put_45 rfl (lv_at hl 1 rfl) ?_
          refine va_iald hx hb hZ.1 hP 0 1 rfl rfl (vp_in_nI (by omega) (by omega)) d_Mo_put_46 ?_
          refine lv_tv (y := g_row j) (by rw [nI_clamp (by omega)]) ?_
          refine lv_istore_n (lv' := [(3, .int (g_row j)), (0, .ref mo), (1, .int (nI j)), (2, .int b)]) hx hb d_Mo_put_47 rfl hl (by decide) rfl (fun ls hl => ?_)
          refine lv_aload_n hx hb d_Mo_put_48 rfl (lv_at hl 1 rfl) ?_
          refine va_get (D := D) (ci := 8) (v := .ref m_row) (C := R_Mo) (T := F_Mo) (N := 29) hx hb hts i_Mo hown hZ.1 hP 1 rfl rfl 2 (by decide) (hts _ fl_Mo_7) (fun _ h9 => h9) rfl d_Mo_put_49 ?_
          refine lv_iload_n hx hb d_Mo_put_52 rfl (lv_at hl 2 rfl) ?_
          refine lv_iload_n hx hb d_Mo_put_53 rfl (lv_at hl 3 rfl) ?_
          refine va_iast hx hb hZ.1 hP hD hS 0 1 rfl rfl (vp_in_nI (by omega) (by omega)) d_Mo_put_54 (fun H locs hP hD hS => ?_)
          rw [show ((nI j).toNatClampNeg) = j from nI_clamp (by omega)] at hP hD
          have hP : va_P D classes [(m_row, .inl (cI, 16384, .inl (upd g_row j b))), (mo, .inr (8, [.int 0, .int (nI n), .ref m_row, .ref m_shelves, .ref m_many, .ref m_widths, .int (nI mk), .ref m_mark, .int z_shown, .ref m_shownMark, .int z_wasRun, .int z_wrong, .int z_ended, .int (nI sp), .int z_hints, .int z_hasWidth, .int z_width, .int z_first, .int z_moved, .int z_deepest, .int z_x, .int z_y, .int (nI t), .ref m_stack, .ref m_places, .int (nI d), .ref m_kinds, .ref m_ats, .ref m_ends]))] H := hP
          have hD : va_D A_ [(m_row, .inl (cI, 16384, .inl (upd g_row j b))), (mo, .inr (8, [.int 0, .int (nI n), .ref m_row, .ref m_shelves, .ref m_many, .ref m_widths, .int (nI mk), .ref m_mark, .int z_shown, .ref m_shownMark, .int z_wasRun, .int z_wrong, .int z_ended, .int (nI sp), .int z_hints, .int z_hasWidth, .int z_width, .int z_first, .int z_moved, .int z_deepest, .int z_x, .int z_y, .int (nI t), .ref m_stack, .ref m_places, .int (nI d), .ref m_kinds, .ref m_ats, .ref m_ends]))] := hD
          refine lv_iload_n hx hb d_Mo_put_55 rfl (lv_at hl 0 rfl) ?_
          exact t_iret hx hb hr hlk d_Mo_put_56 (hP.subm (ws' := [(mo, .inr (8, [.int 0, .int (nI n), .ref m_row, .ref m_shelves, .ref m_many, .ref m_widths, .int (nI mk), .ref m_mark, .int z_shown, .ref m_shownMark, .int z_wasRun, .int z_wrong, .int z_ended, .int (nI sp), .int z_hints, .int z_hasWidth, .int z_width, .int z_first, .int z_moved, .int z_deepest, .int z_x, .int z_y, .int (nI t), .ref m_stack, .ref m_places, .int (nI d), .ref m_kinds, .ref m_ats, .ref m_ends])), (m_row, .inl (cI, 16384, .inl (upd g_row j b)))]) [1, 0] rfl) (hD.sub (ws' := [(mo, .inr (8, [.int 0, .int (nI n), .ref m_row, .ref m_shelves, .ref m_many, .ref m_widths, .int (nI mk), .ref m_mark, .int z_shown, .ref m_shownMark, .int z_wasRun, .int z_wrong, .int z_ended, .int (nI sp), .int z_hints, .int z_hasWidth, .int z_width, .int z_first, .int z_moved, .int z_deepest, .int z_x, .int z_y, .int (nI t), .ref m_stack, .ref m_places, .int (nI d), .ref m_kinds, .ref m_ats, .ref m_ends])), (m_row, .inl (cI, 16384, .inl (upd g_row j b)))]) [1, 0] rfl rfl) hS ⟨_, rfl, rfl, rfl, Or.inr (Or.inr ⟨j, rfl, hj, ⟨c_18, c_25⟩, rfl, rfl⟩)⟩
        · refine lv_iconst (v := 2) hx hb d_Mo_put_28 (by decide) ?_
          refine lv_goto (tgt := 33) hx hb d_Mo_put_29 (by decide) ?_
          have hC : Cut [(mo, .inr (8, [.int z_fault, .int (nI n), .ref m_row, .ref m_shelves, .ref m_many, .ref m_widths, .int (nI mk), .ref m_mark, .int z_shown, .ref m_shownMark, .int z_wasRun, .int z_wrong, .int z_ended, .int (nI sp), .int z_hints, .int z_hasWidth, .int z_width, .int z_first, .int z_moved, .int z_deepest, .int z_x, .int z_y, .int (nI t), .ref m_stack, .ref m_places, .int (nI d), .ref m_kinds, .ref m_ats, .ref m_ends])), (m_row, .inl (cI, 16384, .inl g_row))] [(mo, .inr (8, [.int z_fault, .int (nI n), .ref m_row, .ref m_shelves, .ref m_many, .ref m_widths, .int (nI mk), .ref m_mark, .int z_shown, .ref m_shownMark, .int z_wasRun, .int z_wrong, .int z_ended, .int (nI sp), .int z_hints, .int z_hasWidth, .int z_width, .int z_first, .int z_moved, .int z_deepest, .int z_x, .int z_y, .int (nI t), .ref m_stack, .ref m_places, .int (nI d), .ref m_kinds, .ref m_ats, .ref m_ends]))] [(m_row, .inl (cI, 16384, .inl g_row))] [0] [1] := ⟨rfl, rfl, rfl, rfl, by decide⟩
          refine goI0 (trV (As := [.int 2]) (rest := []) ⟨hx, hb, hml, hown, hts⟩ gd_good (c_Mo_refused l D cB cI cJ mo m_row m_shelves m_many m_widths m_mark m_shownMark m_stack m_places m_kinds m_ats m_ends mk sp t d z_fault (nI n) z_shown z_wasRun z_wrong z_ended z_hints z_hasWidth z_width z_first z_moved z_deepest z_x z_y 2) cal_Mo_refused ml_Mo_51 ⟨Nat.le_of_ble_eq_true rfl, Nat.le_of_ble_eq_true rfl⟩ hZ hP hD hC 0 (ci := 8) rfl rfl rfl rfl hl.1 rfl (Nat.le_of_ble_eq_true rfl) d_Mo_put_33 ⟨Nat.le_of_ble_eq_true rfl, Nat.le_of_ble_eq_true rfl⟩) hZ hP hD hS hC (fun r_33 w1 H locs hq hP hD hS => ?_)
          obtain ⟨rq_33, rfl⟩ := hq
          have rq_33 : r_33 = 1 := rq_33
          subst rq_33
          have hP : va_P D classes [(m_row, .inl (cI, 16384, .inl g_row)), (mo, .inr (8, [.int 2, .int (nI n), .ref m_row, .ref m_shelves, .ref m_many, .ref m_widths, .int (nI mk), .ref m_mark, .int z_shown, .ref m_shownMark, .int z_wasRun, .int z_wrong, .int z_ended, .int (nI sp), .int z_hints, .int z_hasWidth, .int z_width, .int z_first, .int z_moved, .int z_deepest, .int z_x, .int z_y, .int (nI t), .ref m_stack, .ref m_places, .int (nI d), .ref m_kinds, .ref m_ats, .ref m_ends]))] H := hP
          have hD : va_D A_ [(m_row, .inl (cI, 16384, .inl g_row)), (mo, .inr (8, [.int 2, .int (nI n), .ref m_row, .ref m_shelves, .ref m_many, .ref m_widths, .int (nI mk), .ref m_mark, .int z_shown, .ref m_shownMark, .int z_wasRun, .int z_wrong, .int z_ended, .int (nI sp), .int z_hints, .int z_hasWidth, .int z_width, .int z_first, .int z_moved, .int z_deepest, .int z_x, .int z_y, .int (nI t), .ref m_stack, .ref m_places, .int (nI d), .ref m_kinds, .ref m_ats, .ref m_ends]))] := hD
          refine lv_if_eq (tgt := 41) hx hb d_Mo_put_36 (by decide) (fun c_36 => absurd c_36 (by decide)) (fun c_36 => ?_)
          clear c_36
          refine lv_iconst (v := 0) hx hb d_Mo_put_39 (by decide) ?_
          exact t_iret hx hb hr hlk d_Mo_put_40 (hP.subm (ws' := [(mo, .inr (8, [.int 2, .int (nI n), .ref m_row, .ref m_shelves, .ref m_many, .ref m_widths, .int (nI mk), .ref m_mark, .int z_shown, .ref m_shownMark, .int z_wasRun, .int z_wrong, .int z_ended, .int (nI sp), .int z_hints, .int z_hasWidth, .int z_width, .int z_first, .int z_moved, .int z_deepest, .int z_x, .int z_y, .int (nI t), .ref m_stack, .ref m_places, .int (nI d), .ref m_kinds, .ref m_ats, .ref m_ends])), (m_row, .inl (cI, 16384, .inl g_row))]) [1, 0] rfl) (hD.sub (ws' := [(mo, .inr (8, [.int 2, .int (nI n), .ref m_row, .ref m_shelves, .ref m_many, .ref m_widths, .int (nI mk), .ref m_mark, .int z_shown, .ref m_shownMark, .int z_wasRun, .int z_wrong, .int z_ended, .int (nI sp), .int z_hints, .int z_hasWidth, .int z_width, .int z_first, .int z_moved, .int z_deepest, .int z_x, .int z_y, .int (nI t), .ref m_stack, .ref m_places, .int (nI d), .ref m_kinds, .ref m_ats, .ref m_ends])), (m_row, .inl (cI, 16384, .inl g_row))]) [1, 0] rfl rfl) hS ⟨_, rfl, rfl, rfl, Or.inr (Or.inl ⟨⟨c_2, c_10⟩, fun z => c_25 z.2, rfl, rfl⟩)⟩
    · refine lv_iconst (v := 1) hx hb d_Mo_put_13 (by decide) ?_
      refine lv_goto (tgt := 33) hx hb d_Mo_put_14 (by decide) ?_
      have hC : Cut [(mo, .inr (8, [.int z_fault, .int (nI n), .ref m_row, .ref m_shelves, .ref m_many, .ref m_widths, .int (nI mk), .ref m_mark, .int z_shown, .ref m_shownMark, .int z_wasRun, .int z_wrong, .int z_ended, .int (nI sp), .int z_hints, .int z_hasWidth, .int z_width, .int z_first, .int z_moved, .int z_deepest, .int z_x, .int z_y, .int (nI t), .ref m_stack, .ref m_places, .int (nI d), .ref m_kinds, .ref m_ats, .ref m_ends])), (m_row, .inl (cI, 16384, .inl g_row))] [(mo, .inr (8, [.int z_fault, .int (nI n), .ref m_row, .ref m_shelves, .ref m_many, .ref m_widths, .int (nI mk), .ref m_mark, .int z_shown, .ref m_shownMark, .int z_wasRun, .int z_wrong, .int z_ended, .int (nI sp), .int z_hints, .int z_hasWidth, .int z_width, .int z_first, .int z_moved, .int z_deepest, .int z_x, .int z_y, .int (nI t), .ref m_stack, .ref m_places, .int (nI d), .ref m_kinds, .ref m_ats, .ref m_ends]))] [(m_row, .inl (cI, 16384, .inl g_row))] [0] [1] := ⟨rfl, rfl, rfl, rfl, by decide⟩
      refine goI0 (trV (As := [.int 1]) (rest := []) ⟨hx, hb, hml, hown, hts⟩ gd_good (c_Mo_refused l D cB cI cJ mo m_row m_shelves m_many m_widths m_mark m_shownMark m_stack m_places m_kinds m_ats m_ends mk sp t d z_fault (nI n) z_shown z_wasRun z_wrong z_ended z_hints z_hasWidth z_width z_first z_moved z_deepest z_x z_y 1) cal_Mo_refused ml_Mo_51 ⟨Nat.le_of_ble_eq_true rfl, Nat.le_of_ble_eq_true rfl⟩ hZ hP hD hC 0 (ci := 8) rfl rfl rfl rfl hl.1 rfl (Nat.le_of_ble_eq_true rfl) d_Mo_put_33 ⟨Nat.le_of_ble_eq_true rfl, Nat.le_of_ble_eq_true rfl⟩) hZ hP hD hS hC (fun r_33 w1 H locs hq hP hD hS => ?_)
      obtain ⟨rq_33, rfl⟩ := hq
      have rq_33 : r_33 = 1 := rq_33
      subst rq_33
      have hP : va_P D classes [(m_row, .inl (cI, 16384, .inl g_row)), (mo, .inr (8, [.int 1, .int (nI n), .ref m_row, .ref m_shelves, .ref m_many, .ref m_widths, .int (nI mk), .ref m_mark, .int z_shown, .ref m_shownMark, .int z_wasRun, .int z_wrong, .int z_ended, .int (nI sp), .int z_hints, .int z_hasWidth, .int z_width, .int z_first, .int z_moved, .int z_deepest, .int z_x, .int z_y, .int (nI t), .ref m_stack, .ref m_places, .int (nI d), .ref m_kinds, .ref m_ats, .ref m_ends]))] H := hP
      have hD : va_D A_ [(m_row, .inl (cI, 16384, .inl g_row)), (mo, .inr (8, [.int 1, .int (nI n), .ref m_row, .ref m_shelves, .ref m_many, .ref m_widths, .int (nI mk), .ref m_mark, .int z_shown, .ref m_shownMark, .int z_wasRun, .int z_wrong, .int z_ended, .int (nI sp), .int z_hints, .int z_hasWidth, .int z_width, .int z_first, .int z_moved, .int z_deepest, .int z_x, .int z_y, .int (nI t), .ref m_stack, .ref m_places, .int (nI d), .ref m_kinds, .ref m_ats, .ref m_ends]))] := hD
      refine lv_if_eq (tgt := 41) hx hb d_Mo_put_36 (by decide) (fun c_36 => absurd c_36 (by decide)) (fun c_36 => ?_)
      clear c_36
      refine lv_iconst (v := 0) hx hb d_Mo_put_39 (by decide) ?_
      exact t_iret hx hb hr hlk d_Mo_put_40 (hP.subm (ws' := [(mo, .inr (8, [.int 1, .int (nI n), .ref m_row, .ref m_shelves, .ref m_many, .ref m_widths, .int (nI mk), .ref m_mark, .int z_shown, .ref m_shownMark, .int z_wasRun, .int z_wrong, .int z_ended, .int (nI sp), .int z_hints, .int z_hasWidth, .int z_width, .int z_first, .int z_moved, .int z_deepest, .int z_x, .int z_y, .int (nI t), .ref m_stack, .ref m_places, .int (nI d), .ref m_kinds, .ref m_ats, .ref m_ends])), (m_row, .inl (cI, 16384, .inl g_row))]) [1, 0] rfl) (hD.sub (ws' := [(mo, .inr (8, [.int 1, .int (nI n), .ref m_row, .ref m_shelves, .ref m_many, .ref m_widths, .int (nI mk), .ref m_mark, .int z_shown, .ref m_shownMark, .int z_wasRun, .int z_wrong, .int z_ended, .int (nI sp), .int z_hints, .int z_hasWidth, .int z_width, .int z_first, .int z_moved, .int z_deepest, .int z_x, .int z_y, .int (nI t), .ref m_stack, .ref m_places, .int (nI d), .ref m_kinds, .ref m_ats, .ref m_ends])), (m_row, .inl (cI, 16384, .inl g_row))]) [1, 0] rfl rfl) hS ⟨_, rfl, rfl, rfl, Or.inl ⟨fun z => c_10 z.2, rfl, rfl⟩⟩
set_option maxHeartbeats 1000000 in
set_option maxRecDepth 100000 in
theorem c_Mo_cut (l : Launch) (D : va_G) (cB cI cJ : ClassId) (mo m_row m_shelves m_many m_widths m_mark m_shownMark m_stack m_places m_kinds m_ats m_ends : Nat) (mk sp t d : Nat) (z_fault z_size z_shown z_wasRun z_wrong z_ended z_hints z_hasWidth z_width z_first z_moved z_deepest z_x z_y : Int32) (n : Nat) (y : Int32) (hn : n ≤ 16384) : Tr l D classes (TY cB cI cJ) gd_tbl nx_tbl y_Mo_cut b_Mo_cut 3 (some .int) ({ frames := 1, cells := 0, slots := 0, locals := 21 }) [.ref mo, .int y] [(mo, .inr (8, [.int z_fault, .int (nI n), .ref m_row, .ref m_shelves, .ref m_many, .ref m_widths, .int (nI mk), .ref m_mark, .int z_shown, .ref m_shownMark, .int z_wasRun, .int z_wrong, .int z_ended, .int (nI sp), .int z_hints, .int z_hasWidth, .int z_width, .int z_first, .int z_moved, .int z_deepest, .int z_x, .int z_y, .int (nI t), .ref m_stack, .ref m_places, .int (nI d), .ref m_kinds, .ref m_ats, .ref m_ends]))] (pI0 (fun r w => (y < 0 ∧ r = 0 ∧ w = [(mo, .inr (8, [.int 1, .int (nI n), .ref m_row, .ref m_shelves, .ref m_many, .ref m_widths, .int (nI mk), .ref m_mark, .int z_shown, .ref m_shownMark, .int z_wasRun, .int z_wrong, .int z_ended, .int (nI sp), .int z_hints, .int z_hasWidth, .int z_width, .int z_first, .int z_moved, .int z_deepest, .int z_x, .int z_y, .int (nI t), .ref m_stack, .ref m_places, .int (nI d), .ref m_kinds, .ref m_ats, .ref m_ends]))]) ∨ ∃ j n' : Nat, y = nI j ∧ j < 2 ^ 31 ∧ n' = min j n ∧ r = nI (n - n') ∧ w = [(mo, .inr (8, [.int 0, .int (nI n'), .ref m_row, .ref m_shelves, .ref m_many, .ref m_widths, .int (nI mk), .ref m_mark, .int z_shown, .ref m_shownMark, .int z_wasRun, .int z_wrong, .int z_ended, .int (nI sp), .int z_hints, .int z_hasWidth, .int z_width, .int z_first, .int z_moved, .int z_deepest, .int z_x, .int z_y, .int (nI t), .ref m_stack, .ref m_places, .int (nI d), .ref m_kinds, .ref m_ats, .ref m_ends]))])) := by
  refine Tr.intro (by decide +kernel) nx_ok (Nat.le_of_ble_eq_true rfl) ?_
  intro p_ e_ s_ m_ args_ below_ meth_ c_ A_ ls hx hb hml hown hts hr hlk hnm hZ hP hD hS hl
  have hl : lv_has ls 3 [(0, .ref mo), (1, .int y)] := hl
  refine lv_aload_n hx hb d_Mo_cut_0 rfl (lv_at hl 0 rfl) ?_
  refine lv_iload_n hx hb d_Mo_cut_1 rfl (lv_at hl 1 rfl) ?_
  refine lv_if_ge (tgt := 9) hx hb d_Mo_cut_2 (by decide) (fun c_2 => ?_) (fun c_2 => ?_)
  · refine lv_iconst (v := 0) hx hb d_Mo_cut_9 (by decide) ?_
    have hC : Cut [(mo, .inr (8, [.int z_fault, .int (nI n), .ref m_row, .ref m_shelves, .ref m_many, .ref m_widths, .int (nI mk), .ref m_mark, .int z_shown, .ref m_shownMark, .int z_wasRun, .int z_wrong, .int z_ended, .int (nI sp), .int z_hints, .int z_hasWidth, .int z_width, .int z_first, .int z_moved, .int z_deepest, .int z_x, .int z_y, .int (nI t), .ref m_stack, .ref m_places, .int (nI d), .ref m_kinds, .ref m_ats, .ref m_ends]))] [(mo, .inr (8, [.int z_fault, .int (nI n), .ref m_row, .ref m_shelves, .ref m_many, .ref m_widths, .int (nI mk), .ref m_mark, .int z_shown, .ref m_shownMark, .int z_wasRun, .int z_wrong, .int z_ended, .int (nI sp), .int z_hints, .int z_hasWidth, .int z_width, .int z_first, .int z_moved, .int z_deepest, .int z_x, .int z_y, .int (nI t), .ref m_stack, .ref m_places, .int (nI d), .ref m_kinds, .ref m_ats, .ref m_ends]))] [] [0] [] := ⟨rfl, rfl, rfl, rfl, by decide⟩
    refine goI0 (trV (As := [.int 0]) (rest := []) ⟨hx, hb, hml, hown, hts⟩ gd_good (c_Mo_refused l D cB cI cJ mo m_row m_shelves m_many m_widths m_mark m_shownMark m_stack m_places m_kinds m_ats m_ends mk sp t d z_fault (nI n) z_shown z_wasRun z_wrong z_ended z_hints z_hasWidth z_width z_first z_moved z_deepest z_x z_y 0) cal_Mo_refused ml_Mo_51 ⟨Nat.le_of_ble_eq_true rfl, Nat.le_of_ble_eq_true rfl⟩ hZ hP hD hC 0 (ci := 8) rfl rfl rfl rfl hl.1 rfl (Nat.le_of_ble_eq_true rfl) d_Mo_cut_10 ⟨Nat.le_of_ble_eq_true rfl, Nat.le_of_ble_eq_true rfl⟩) hZ hP hD hS hC (fun r_10 w1 H locs hq hP hD hS => ?_)
    obtain ⟨rq_10, rfl⟩ := hq
    have rq_10 : r_10 = 0 := rq_10
    subst rq_10
    have hP : va_P D classes [(mo, .inr (8, [.int 0, .int (nI n), .ref m_row, .ref m_shelves, .ref m_many, .ref m_widths, .int (nI mk), .ref m_mark, .int z_shown, .ref m_shownMark, .int z_wasRun, .int z_wrong, .int z_ended, .int (nI sp), .int z_hints, .int z_hasWidth, .int z_width, .int z_first, .int z_moved, .int z_deepest, .int z_x, .int z_y, .int (nI t), .ref m_stack, .ref m_places, .int (nI d), .ref m_kinds, .ref m_ats, .ref m_ends]))] H := hP
    have hD : va_D A_ [(mo, .inr (8, [.int 0, .int (nI n), .ref m_row, .ref m_shelves, .ref m_many, .ref m_widths, .int (nI mk), .ref m_mark, .int z_shown, .ref m_shownMark, .int z_wasRun, .int z_wrong, .int z_ended, .int (nI sp), .int z_hints, .int z_hasWidth, .int z_width, .int z_first, .int z_moved, .int z_deepest, .int z_x, .int z_y, .int (nI t), .ref m_stack, .ref m_places, .int (nI d), .ref m_kinds, .ref m_ats, .ref m_ends]))] := hD
    refine lv_if_eq (tgt := 18) hx hb d_Mo_cut_13 (by decide) (fun c_13 => ?_) (fun c_13 => absurd (by decide) c_13)
    clear c_13
    obtain ⟨j, hj, ej⟩ := nI_of (Int32.not_lt.mpr c_2)
    subst ej
    refine lv_aload_n hx hb d_Mo_cut_18 rfl (lv_at hl 0 rfl) ?_
    refine va_get (D := D) (ci := 8) (v := .int (nI n)) (C := R_Mo) (T := F_Mo) (N := 29) hx hb hts i_Mo hown hZ.1 hP 0 rfl rfl 1 (by decide) (hts _ fl_Mo_48) (fun _ h9 => h9) rfl d_Mo_cut_19 ?_
    refine lv_iload_n hx hb d_Mo_cut_22 rfl (lv_at hl 1 rfl) ?_
    refine lv_icmp_le (tgt := 35) hx hb d_Mo_cut_23 (by decide) (fun c_23 => ?_) (fun c_23 => ?_)
    · refine lv_iconst (v := 0) hx hb d_Mo_cut_35 (by decide) ?_
      refine lv_istore_n (lv' := [(2, .int 0), (0, .ref mo), (1, .int (nI j))]) hx hb d_Mo_cut_36 rfl hl (by decide) rfl (fun ls hl => ?_)
      refine lv_aload_n hx hb d_Mo_cut_37 rfl (lv_at hl 1 rfl) ?_
      refine lv_aload_n hx hb d_Mo_cut_38 rfl (lv_at hl 1 rfl) ?_
      refine va_get (D := D) (ci := 8) (v := .int (nI n)) (C := R_Mo) (T := F_Mo) (N := 29) hx hb hts i_Mo hown hZ.1 hP 0 rfl rfl 1 (by decide) (hts _ fl_Mo_48) (fun _ h9 => h9) rfl d_Mo_cut_39 ?_
      refine lv_iload_n hx hb d_Mo_cut_42 rfl (lv_at hl 0 rfl) ?_
      refine lv_isub hx hb d_Mo_cut_43 ?_
      refine lv_tv (y := nI n) (pk_m0 _) ?_
      refine va_put (D := D) (ci := 8) (v := .int (nI n)) (ty := .int) (C := R_Mo) (T := F_Mo) (N := 29) hx hb hts i_Mo t_Mo t_Mo_ok n_Mo hown hZ.1 hP hD hS 0 rfl rfl 1 (by decide) (hts _ fl_Mo_48) (fun _ h9 => h9) rfl (by decide +kernel) rfl rfl (Nat.le_of_ble_eq_true rfl) d_Mo_cut_44 (fun H locs hP hD hS => ?_)
      have hP : va_P D classes [(mo, .inr (8, [.int 0, .int (nI n), .ref m_row, .ref m_shelves, .ref m_many, .ref m_widths, .int (nI mk), .ref m_mark, .int z_shown, .ref m_shownMark, .int z_wasRun, .int z_wrong, .int z_ended, .int (nI sp), .int z_hints, .int z_hasWidth, .int z_width, .int z_first, .int z_moved, .int z_deepest, .int z_x, .int z_y, .int (nI t), .ref m_stack, .ref m_places, .int (nI d), .ref m_kinds, .ref m_ats, .ref m_ends]))] H := hP
      have hD : va_D A_ [(mo, .inr (8, [.int 0, .int (nI n), .ref m_row, .ref m_shelves, .ref m_many, .ref m_widths, .int (nI mk), .ref m_mark, .int z_shown, .ref m_shownMark, .int z_wasRun, .int z_wrong, .int z_ended, .int (nI sp), .int z_hints, .int z_hasWidth, .int z_width, .int z_first, .int z_moved, .int z_deepest, .int z_x, .int z_y, .int (nI t), .ref m_stack, .ref m_places, .int (nI d), .ref m_kinds, .ref m_ats, .ref m_ends]))] := hD
      refine lv_iload_n hx hb d_Mo_cut_47 rfl (lv_at hl 0 rfl) ?_
      exact t_iret hx hb hr hlk d_Mo_cut_48 hP hD hS ⟨_, rfl, rfl, rfl, Or.inr ⟨j, n, rfl, hj, by have := (nI_leI (by omega) hj).mp c_23; omega, by rw [Nat.sub_self]; rfl, rfl⟩⟩
    · refine lv_aload_n hx hb d_Mo_cut_26 rfl (lv_at hl 0 rfl) ?_
      refine va_get (D := D) (ci := 8) (v := .int (nI n)) (C := R_Mo) (T := F_Mo) (N := 29) hx hb hts i_Mo hown hZ.1 hP 0 rfl rfl 1 (by decide) (hts _ fl_Mo_48) (fun _ h9 => h9) rfl d_Mo_cut_27 ?_
      refine lv_iload_n hx hb d_Mo_cut_30 rfl (lv_at hl 1 rfl) ?_
      refine lv_isub hx hb d_Mo_cut_31 ?_
      refine lv_tv (y := nI (n - j)) (pk_sub (lt_le (fun q => c_23 (nI_le q hj)))) ?_
      refine lv_goto (tgt := 36) hx hb d_Mo_cut_32 (by decide) ?_
      refine lv_istore_n (lv' := [(2, .int (nI (n - j))), (0, .ref mo), (1, .int (nI j))]) hx hb d_Mo_cut_36 rfl hl (by decide) rfl (fun ls hl => ?_)
      refine lv_aload_n hx hb d_Mo_cut_37 rfl (lv_at hl 1 rfl) ?_
      refine lv_aload_n hx hb d_Mo_cut_38 rfl (lv_at hl 1 rfl) ?_
      refine va_get (D := D) (ci := 8) (v := .int (nI n)) (C := R_Mo) (T := F_Mo) (N := 29) hx hb hts i_Mo hown hZ.1 hP 0 rfl rfl 1 (by decide) (hts _ fl_Mo_48) (fun _ h9 => h9) rfl d_Mo_cut_39 ?_
      refine lv_iload_n hx hb d_Mo_cut_42 rfl (lv_at hl 0 rfl) ?_
      refine lv_isub hx hb d_Mo_cut_43 ?_
      refine lv_tv (y := nI j) (pk_s2 (lt_le (fun q => c_23 (nI_le q hj)))) ?_
      refine va_put (D := D) (ci := 8) (v := .int (nI j)) (ty := .int) (C := R_Mo) (T := F_Mo) (N := 29) hx hb hts i_Mo t_Mo t_Mo_ok n_Mo hown hZ.1 hP hD hS 0 rfl rfl 1 (by decide) (hts _ fl_Mo_48) (fun _ h9 => h9) rfl (by decide +kernel) rfl rfl (Nat.le_of_ble_eq_true rfl) d_Mo_cut_44 (fun H locs hP hD hS => ?_)
      have hP : va_P D classes [(mo, .inr (8, [.int 0, .int (nI j), .ref m_row, .ref m_shelves, .ref m_many, .ref m_widths, .int (nI mk), .ref m_mark, .int z_shown, .ref m_shownMark, .int z_wasRun, .int z_wrong, .int z_ended, .int (nI sp), .int z_hints, .int z_hasWidth, .int z_width, .int z_first, .int z_moved, .int z_deepest, .int z_x, .int z_y, .int (nI t), .ref m_stack, .ref m_places, .int (nI d), .ref m_kinds, .ref m_ats, .ref m_ends]))] H := hP
      have hD : va_D A_ [(mo, .inr (8, [.int 0, .int (nI j), .ref m_row, .ref m_shelves, .ref m_many, .ref m_widths, .int (nI mk), .ref m_mark, .int z_shown, .ref m_shownMark, .int z_wasRun, .int z_wrong, .int z_ended, .int (nI sp), .int z_hints, .int z_hasWidth, .int z_width, .int z_first, .int z_moved, .int z_deepest, .int z_x, .int z_y, .int (nI t), .ref m_stack, .ref m_places, .int (nI d), .ref m_kinds, .ref m_ats, .ref m_ends]))] := hD
      refine lv_iload_n hx hb d_Mo_cut_47 rfl (lv_at hl 0 rfl) ?_
      exact t_iret hx hb hr hlk d_Mo_cut_48 hP hD hS ⟨_, rfl, rfl, rfl, Or.inr ⟨j, j, rfl, hj, lt_min (fun q => c_23 (nI_le q hj)), rfl, rfl⟩⟩
  · refine lv_iconst (v := 1) hx hb d_Mo_cut_5 (by decide) ?_
    refine lv_goto (tgt := 10) hx hb d_Mo_cut_6 (by decide) ?_
    have hC : Cut [(mo, .inr (8, [.int z_fault, .int (nI n), .ref m_row, .ref m_shelves, .ref m_many, .ref m_widths, .int (nI mk), .ref m_mark, .int z_shown, .ref m_shownMark, .int z_wasRun, .int z_wrong, .int z_ended, .int (nI sp), .int z_hints, .int z_hasWidth, .int z_width, .int z_first, .int z_moved, .int z_deepest, .int z_x, .int z_y, .int (nI t), .ref m_stack, .ref m_places, .int (nI d), .ref m_kinds, .ref m_ats, .ref m_ends]))] [(mo, .inr (8, [.int z_fault, .int (nI n), .ref m_row, .ref m_shelves, .ref m_many, .ref m_widths, .int (nI mk), .ref m_mark, .int z_shown, .ref m_shownMark, .int z_wasRun, .int z_wrong, .int z_ended, .int (nI sp), .int z_hints, .int z_hasWidth, .int z_width, .int z_first, .int z_moved, .int z_deepest, .int z_x, .int z_y, .int (nI t), .ref m_stack, .ref m_places, .int (nI d), .ref m_kinds, .ref m_ats, .ref m_ends]))] [] [0] [] := ⟨rfl, rfl, rfl, rfl, by decide⟩
    refine goI0 (trV (As := [.int 1]) (rest := []) ⟨hx, hb, hml, hown, hts⟩ gd_good (c_Mo_refused l D cB cI cJ mo m_row m_shelves m_many m_widths m_mark m_shownMark m_stack m_places m_kinds m_ats m_ends mk sp t d z_fault (nI n) z_shown z_wasRun z_wrong z_ended z_hints z_hasWidth z_width z_first z_moved z_deepest z_x z_y 1) cal_Mo_refused ml_Mo_51 ⟨Nat.le_of_ble_eq_true rfl, Nat.le_of_ble_eq_true rfl⟩ hZ hP hD hC 0 (ci := 8) rfl rfl rfl rfl hl.1 rfl (Nat.le_of_ble_eq_true rfl) d_Mo_cut_10 ⟨Nat.le_of_ble_eq_true rfl, Nat.le_of_ble_eq_true rfl⟩) hZ hP hD hS hC (fun r_10 w1 H locs hq hP hD hS => ?_)
    obtain ⟨rq_10, rfl⟩ := hq
    have rq_10 : r_10 = 1 := rq_10
    subst rq_10
    have hP : va_P D classes [(mo, .inr (8, [.int 1, .int (nI n), .ref m_row, .ref m_shelves, .ref m_many, .ref m_widths, .int (nI mk), .ref m_mark, .int z_shown, .ref m_shownMark, .int z_wasRun, .int z_wrong, .int z_ended, .int (nI sp), .int z_hints, .int z_hasWidth, .int z_width, .int z_first, .int z_moved, .int z_deepest, .int z_x, .int z_y, .int (nI t), .ref m_stack, .ref m_places, .int (nI d), .ref m_kinds, .ref m_ats, .ref m_ends]))] H := hP
    have hD : va_D A_ [(mo, .inr (8, [.int 1, .int (nI n), .ref m_row, .ref m_shelves, .ref m_many, .ref m_widths, .int (nI mk), .ref m_mark, .int z_shown, .ref m_shownMark, .int z_wasRun, .int z_wrong, .int z_ended, .int (nI sp), .int z_hints, .int z_hasWidth, .int z_width, .int z_first, .int z_moved, .int z_deepest, .int z_x, .int z_y, .int (nI t), .ref m_stack, .ref m_places, .int (nI d), .ref m_kinds, .ref m_ats, .ref m_ends]))] := hD
    refine lv_if_eq (tgt := 18) hx hb d_Mo_cut_13 (by decide) (fun c_13 => absurd c_13 (by decide)) (fun c_13 => ?_)
    clear c_13
    refine lv_iconst (v := 0) hx hb d_Mo_cut_16 (by decide) ?_
    exact t_iret hx hb hr hlk d_Mo_cut_17 hP hD hS ⟨_, rfl, rfl, rfl, Or.inl ⟨Int32.not_le.mp c_2, rfl, rfl⟩⟩
set_option maxHeartbeats 1000000 in
set_option maxRecDepth 100000 in
theorem c_Mo_rowNumber (l : Launch) (D : va_G) (cB cI cJ : ClassId) (mo m_row m_shelves m_many m_widths m_mark m_shownMark m_stack m_places m_kinds m_ats m_ends : Nat) (mk sp t d : Nat) (z_fault z_size z_shown z_wasRun z_wrong z_ended z_hints z_hasWidth z_width z_first z_moved z_deepest z_x z_y : Int32) (g_row : Nat → Int32) (n : Nat) (b : Nat → Nat) (hn : n ≤ 16384) (hbb : ∀ j, b j ≤ 255) (hrow : rowOk n g_row b) (i w : Nat) (hi : i + w ≤ n) : Ro l D classes (TY cB cI cJ) gd_tbl nx_tbl y_Mo_rowNumber b_Mo_rowNumber 6 (some .long) ({ frames := 0, cells := 0, slots := 0, locals := 0 }) [.ref mo, .int (nI i), .int (nI w)] [(mo, .inr (8, [.int z_fault, .int (nI n), .ref m_row, .ref m_shelves, .ref m_many, .ref m_widths, .int (nI mk), .ref m_mark, .int z_shown, .ref m_shownMark, .int z_wasRun, .int z_wrong, .int z_ended, .int (nI sp), .int z_hints, .int z_hasWidth, .int z_width, .int z_first, .int z_moved, .int z_deepest, .int z_x, .int z_y, .int (nI t), .ref m_stack, .ref m_places, .int (nI d), .ref m_kinds, .ref m_ats, .ref m_ends])), (m_row, .inl (cI, 16384, .inl g_row))] (fun v => v = .long (lN (nb b i w))) := by
  refine Ro.intro (by decide +kernel) nx_ok (Nat.le_of_ble_eq_true rfl) ?_
  intro p_ e_ s_ m_ args_ below_ meth_ c_ A_ ls hx hb hml hown hts hr hlk hnm hZ hP hD hl
  have hl : lv_has ls 6 [(0, .ref mo), (1, .int (nI i)), (2, .int (nI w))] := hl
  refine lv_lconst (v := 0) hx hb d_Mo_rowNumber_0 (by decide) ?_
  refine lv_lstore_n (lv' := [(3, .long 0), (0, .ref mo), (1, .int (nI i)), (2, .int (nI w))]) hx hb d_Mo_rowNumber_1 rfl hl (by decide) rfl (fun ls hl => ?_)
  refine lv_iconst (v := 0) hx hb d_Mo_rowNumber_2 (by decide) ?_
  refine lv_istore (lv' := [(5, .int 0), (3, .long 0), (0, .ref mo), (1, .int (nI i)), (2, .int (nI w))]) hx hb d_Mo_rowNumber_3 hl (by decide) rfl (fun ls hl => ?_)
  have lp_5 : ∀ (fu : Nat) (k : Nat) (ls : Array Slot), (k ≤ w) → (w - k) < fu → lv_has ls 6 [(0, .ref mo), (1, .int (nI i)), (2, .int (nI w)), (3, .long (lN (nb b i k))), (5, .int (nI k))] → W p_ l e_ ({ frames := 0, cells := 0, slots := 0, locals := 0 }) s_ m_ args_ below_ meth_ c_ s_.heap [] 0 0 (MQR below_ (fun v => v = .long (lN (nb b i w))) s_) (F0 m_ 5 ls []) := by
    intro fu
    induction fu with
    | zero => intro k ls hinv hfu; exact absurd hfu (Nat.not_lt_zero _)
    | succ fu ih_5 =>
      intro k ls hinv hfu hl
      refine lv_iload hx hb d_Mo_rowNumber_5 (lv_at hl 4 rfl) ?_
      refine lv_iload_n hx hb d_Mo_rowNumber_7 rfl (lv_at hl 2 rfl) ?_
      refine lv_icmp_ge (tgt := 34) hx hb d_Mo_rowNumber_8 (by decide) (fun c_8 => ?_) (fun c_8 => ?_)
      · have n_8 : (w) ≤ (k) := (nI_leI (a := w) (b := k) (by omega) (by omega)).mp c_8
        refine lv_lload_n hx hb d_Mo_rowNumber_34 rfl (lv_at hl 3 rfl) ?_
        exact r_lret hx hb hr hlk d_Mo_rowNumber_35 (by rw [(by omega : k = w)])
      · have n_8 : ¬ (w) ≤ (k) := fun z => c_8 ((nI_leI (a := w) (b := k) (by omega) (by omega)).mpr z)
        refine lv_ldc2 (v := 256) hx hb hown (hts _ kl_Mo_55) d_Mo_rowNumber_11 ?_
        refine lv_lload_n hx hb d_Mo_rowNumber_14 rfl (lv_at hl 3 rfl) ?_
        refine lv_lmul hx hb d_Mo_rowNumber_15 ?_
        refine lv_aload_n hx hb d_Mo_rowNumber_16 rfl (lv_at hl 0 rfl) ?_
        refine va_get (D := D) (ci := 8) (v := .ref m_row) (C := R_Mo) (T := F_Mo) (N := 29) hx hb hts i_Mo hown hZ.1 hP 0 rfl rfl 2 (by decide) (hts _ fl_Mo_7) (fun _ h9 => h9) rfl d_Mo_rowNumber_17 ?_
        refine lv_iload_n hx hb d_Mo_rowNumber_20 rfl (lv_at hl 1 rfl) ?_
        refine lv_iload hx hb d_Mo_rowNumber_21 (lv_at hl 4 rfl) ?_
        refine lv_iadd hx hb d_Mo_rowNumber_23 ?_
        refine lv_tv (y := nI (i + k)) (nI_add i k) ?_
        refine va_iald hx hb hZ.1 hP 1 1 rfl rfl (vp_in_nI (by omega) (by omega)) d_Mo_rowNumber_24 ?_
        refine lv_tv (y := g_row (i + k)) (by rw [nI_clamp (by omega)]) ?_
        refine lv_tv (y := nI (b (i + k))) (hrow _ (by omega)) ?_
        refine lv_i2l hx hb d_Mo_rowNumber_25 rfl ?_
        refine lv_tvl (y := lN (b (i + k))) (nI_l (by have := hbb (i + k); omega)) ?_
        refine lv_ladd hx hb d_Mo_rowNumber_26 ?_
        refine lv_tvl (y := lN (nb b i (k + 1))) (by rw [show (256 : Int64) = lN 256 from rfl, lN_mul, lN_add, nb_step]) ?_
        refine lv_lstore_n (lv' := [(3, .long (lN (nb b i (k + 1)))), (0, .ref mo), (1, .int (nI i)), (2, .int (nI w)), (5, .int (nI k))]) hx hb d_Mo_rowNumber_27 rfl hl (by decide) rfl (fun ls hl => ?_)
        refine lv_iinc (v := nI (k + 1)) (lv' := [(5, .int (nI (k + 1))), (3, .long (lN (nb b i (k + 1)))), (0, .ref mo), (1, .int (nI i)), (2, .int (nI w))]) hx hb d_Mo_rowNumber_28 hl (k := 4) rfl (nI_add k 1) (by decide) rfl (fun ls hl => ?_)
        refine lv_goto (tgt := 5) hx hb d_Mo_rowNumber_31 (by decide) ?_
        exact ih_5  (k + 1) _ (by omega) (by omega) (lv_sub hl [2, 3, 4, 1, 0] rfl)
  exact lp_5 _ 0 _ (by omega) (Nat.lt_succ_self _) (lv_sub hl [2, 3, 4, 1, 0] rfl)
set_option maxHeartbeats 1000000 in
set_option maxRecDepth 100000 in
theorem c_Mo_isShelf (l : Launch) (D : va_G) (cB cI cJ : ClassId) (mo m_row m_shelves m_many m_widths m_mark m_shownMark m_stack m_places m_kinds m_ats m_ends : Nat) (mk sp t d : Nat) (z_fault z_size z_shown z_wasRun z_wrong z_ended z_hints z_hasWidth z_width z_first z_moved z_deepest z_x z_y : Int32) (g_row : Nat → Int32) (n : Nat) (b : Nat → Nat) (hn : n ≤ 16384) (hbb : ∀ j, b j ≤ 255) (hrow : rowOk n g_row b) : Ro l D classes (TY cB cI cJ) gd_tbl nx_tbl y_Mo_isShelf b_Mo_isShelf 5 (some .boolean) ({ frames := 1, cells := 0, slots := 0, locals := 25 }) [.ref mo] [(mo, .inr (8, [.int z_fault, .int (nI n), .ref m_row, .ref m_shelves, .ref m_many, .ref m_widths, .int (nI mk), .ref m_mark, .int z_shown, .ref m_shownMark, .int z_wasRun, .int z_wrong, .int z_ended, .int (nI sp), .int z_hints, .int z_hasWidth, .int z_width, .int z_first, .int z_moved, .int z_deepest, .int z_x, .int z_y, .int (nI t), .ref m_stack, .ref m_places, .int (nI d), .ref m_kinds, .ref m_ats, .ref m_ends])), (m_row, .inl (cI, 16384, .inl g_row))] (fun v => v = .int (tF (shOk n b))) := by
  refine Ro.intro (by decide +kernel) nx_ok (Nat.le_of_ble_eq_true rfl) ?_
  intro p_ e_ s_ m_ args_ below_ meth_ c_ A_ ls hx hb hml hown hts hr hlk hnm hZ hP hD hl
  have hl : lv_has ls 5 [(0, .ref mo)] := hl
  have hms := mS_le hbb
  have hb0 := hbb 0
  have hb1 := hbb 1
  have hb2 := hbb 2
  have hdw : (mS b + 1) * b 2 ≤ 65536 * 255 := Nat.mul_le_mul (by omega) (by omega)
  refine lv_aload_n hx hb d_Mo_isShelf_0 rfl (lv_at hl 0 rfl) ?_
  refine va_get (D := D) (ci := 8) (v := .int (nI n)) (C := R_Mo) (T := F_Mo) (N := 29) hx hb hts i_Mo hown hZ.1 hP 0 rfl rfl 1 (by decide) (hts _ fl_Mo_48) (fun _ h9 => h9) rfl d_Mo_isShelf_1 ?_
  refine lv_iconst (v := 2) hx hb d_Mo_isShelf_4 (by decide) ?_
  refine lv_icmp_ge (tgt := 10) hx hb d_Mo_isShelf_5 (by decide) (fun c_5 => ?_) (fun c_5 => ?_)
  · have n_5 : (2) ≤ (n) := (nI_leI (a := 2) (b := n) (by omega) (by omega)).mp c_5
    refine lv_sipush (v := 256) hx hb d_Mo_isShelf_10 (by decide) ?_
    refine lv_aload_n hx hb d_Mo_isShelf_13 rfl (lv_at hl 0 rfl) ?_
    refine va_get (D := D) (ci := 8) (v := .ref m_row) (C := R_Mo) (T := F_Mo) (N := 29) hx hb hts i_Mo hown hZ.1 hP 0 rfl rfl 2 (by decide) (hts _ fl_Mo_7) (fun _ h9 => h9) rfl d_Mo_isShelf_14 ?_
    refine lv_iconst (v := 0) hx hb d_Mo_isShelf_17 (by decide) ?_
    refine va_iald hx hb hZ.1 hP 1 1 rfl rfl (show vp_in (nI 0) 16384 from vp_in_nI (by decide) (by decide)) d_Mo_isShelf_18 ?_
    refine lv_tv (y := g_row 0) rfl ?_
    refine lv_tv (y := nI (b 0)) (hrow 0 (by omega)) ?_
    refine lv_imul hx hb d_Mo_isShelf_19 ?_
    refine lv_tv (y := nI (256 * (b 0))) (pk_mul 256 (b 0)) ?_
    refine lv_aload_n hx hb d_Mo_isShelf_20 rfl (lv_at hl 0 rfl) ?_
    refine va_get (D := D) (ci := 8) (v := .ref m_row) (C := R_Mo) (T := F_Mo) (N := 29) hx hb hts i_Mo hown hZ.1 hP 0 rfl rfl 2 (by decide) (hts _ fl_Mo_7) (fun _ h9 => h9) rfl d_Mo_isShelf_21 ?_
    refine lv_iconst (v := 1) hx hb d_Mo_isShelf_24 (by decide) ?_
    refine va_iald hx hb hZ.1 hP 1 1 rfl rfl (show vp_in (nI 1) 16384 from vp_in_nI (by decide) (by decide)) d_Mo_isShelf_25 ?_
    refine lv_tv (y := g_row 1) rfl ?_
    refine lv_tv (y := nI (b 1)) (hrow 1 (by omega)) ?_
    refine lv_iadd hx hb d_Mo_isShelf_26 ?_
    refine lv_tv (y := nI (256 * (b 0) + (b 1))) (nI_add (256 * (b 0)) (b 1)) ?_
    refine lv_tv (y := nI (mS b)) rfl ?_
    refine lv_istore_n (lv' := [(1, .int (nI (mS b))), (0, .ref mo)]) hx hb d_Mo_isShelf_27 rfl hl (by decide) rfl (fun ls hl => ?_)
    refine lv_iload_n hx hb d_Mo_isShelf_28 rfl (lv_at hl 0 rfl) ?_
    refine lv_if_ne (tgt := 34) hx hb d_Mo_isShelf_29 (by decide) (fun c_29 => ?_) (fun c_29 => ?_)
    · have n_29 : ¬ (mS b) = (0) := fun z => c_29 ((nI_eq (a := mS b) (b := 0) (by omega) (by omega)).mpr z)
      refine lv_iload_n hx hb d_Mo_isShelf_34 rfl (lv_at hl 0 rfl) ?_
      refine lv_sipush (v := 2000) hx hb d_Mo_isShelf_35 (by decide) ?_
      refine lv_icmp_gt (tgt := 69) hx hb d_Mo_isShelf_38 (by decide) (fun c_38 => ?_) (fun c_38 => ?_)
      · have n_38 : (2000) < (mS b) := (nI_ltI (a := 2000) (b := mS b) (by omega) (by omega)).mp c_38
        refine lv_iconst (v := 0) hx hb d_Mo_isShelf_69 (by decide) ?_
        exact r_zret hx hb hr hlk (by decide) d_Mo_isShelf_70 (by rw [tF_f]; intro z; exact shOk_big (by omega) z)
      · have n_38 : ¬ (2000) < (mS b) := fun z => c_38 ((nI_ltI (a := 2000) (b := mS b) (by omega) (by omega)).mpr z)
        refine lv_aload_n hx hb d_Mo_isShelf_41 rfl (lv_at hl 1 rfl) ?_
        refine va_get (D := D) (ci := 8) (v := .int (nI n)) (C := R_Mo) (T := F_Mo) (N := 29) hx hb hts i_Mo hown hZ.1 hP 0 rfl rfl 1 (by decide) (hts _ fl_Mo_48) (fun _ h9 => h9) rfl d_Mo_isShelf_42 ?_
        refine lv_iconst (v := 3) hx hb d_Mo_isShelf_45 (by decide) ?_
        refine lv_icmp_lt (tgt := 69) hx hb d_Mo_isShelf_46 (by decide) (fun c_46 => ?_) (fun c_46 => ?_)
        · have n_46 : (n) < (3) := (nI_ltI (a := n) (b := 3) (by omega) (by omega)).mp c_46
          refine lv_iconst (v := 0) hx hb d_Mo_isShelf_69 (by decide) ?_
          exact r_zret hx hb hr hlk (by decide) d_Mo_isShelf_70 (by rw [tF_f]; intro z; rcases z.2 with z | ⟨z1, z2, z3, z4, z5⟩ <;> omega)
        · have n_46 : ¬ (n) < (3) := fun z => c_46 ((nI_ltI (a := n) (b := 3) (by omega) (by omega)).mpr z)
          refine lv_aload_n hx hb d_Mo_isShelf_49 rfl (lv_at hl 1 rfl) ?_
          refine va_get (D := D) (ci := 8) (v := .ref m_row) (C := R_Mo) (T := F_Mo) (N := 29) hx hb hts i_Mo hown hZ.1 hP 0 rfl rfl 2 (by decide) (hts _ fl_Mo_7) (fun _ h9 => h9) rfl d_Mo_isShelf_50 ?_
          refine lv_iconst (v := 2) hx hb d_Mo_isShelf_53 (by decide) ?_
          refine va_iald hx hb hZ.1 hP 1 1 rfl rfl (show vp_in (nI 2) 16384 from vp_in_nI (by decide) (by decide)) d_Mo_isShelf_54 ?_
          refine lv_tv (y := g_row 2) rfl ?_
          refine lv_tv (y := nI (b 2)) (hrow 2 (by omega)) ?_
          refine lv_iconst (v := 1) hx hb d_Mo_isShelf_55 (by decide) ?_
          refine lv_icmp_lt (tgt := 69) hx hb d_Mo_isShelf_56 (by decide) (fun c_56 => ?_) (fun c_56 => ?_)
          · have n_56 : (b 2) < (1) := (nI_ltI (a := b 2) (b := 1) (by omega) (by omega)).mp c_56
            refine lv_iconst (v := 0) hx hb d_Mo_isShelf_69 (by decide) ?_
            exact r_zret hx hb hr hlk (by decide) d_Mo_isShelf_70 (by rw [tF_f]; intro z; rcases z.2 with z | ⟨z1, z2, z3, z4, z5⟩ <;> omega)
          · have n_56 : ¬ (b 2) < (1) := fun z => c_56 ((nI_ltI (a := b 2) (b := 1) (by omega) (by omega)).mpr z)
            refine lv_aload_n hx hb d_Mo_isShelf_59 rfl (lv_at hl 1 rfl) ?_
            refine va_get (D := D) (ci := 8) (v := .ref m_row) (C := R_Mo) (T := F_Mo) (N := 29) hx hb hts i_Mo hown hZ.1 hP 0 rfl rfl 2 (by decide) (hts _ fl_Mo_7) (fun _ h9 => h9) rfl d_Mo_isShelf_60 ?_
            refine lv_iconst (v := 2) hx hb d_Mo_isShelf_63 (by decide) ?_
            refine va_iald hx hb hZ.1 hP 1 1 rfl rfl (show vp_in (nI 2) 16384 from vp_in_nI (by decide) (by decide)) d_Mo_isShelf_64 ?_
            refine lv_tv (y := g_row 2) rfl ?_
            refine lv_tv (y := nI (b 2)) (hrow 2 (by omega)) ?_
            refine lv_iconst (v := 4) hx hb d_Mo_isShelf_65 (by decide) ?_
            refine lv_icmp_le (tgt := 71) hx hb d_Mo_isShelf_66 (by decide) (fun c_66 => ?_) (fun c_66 => ?_)
            · have n_66 : (b 2) ≤ (4) := (nI_leI (a := b 2) (b := 4) (by omega) (by omega)).mp c_66
              refine lv_aload_n hx hb d_Mo_isShelf_71 rfl (lv_at hl 1 rfl) ?_
              refine va_get (D := D) (ci := 8) (v := .ref m_row) (C := R_Mo) (T := F_Mo) (N := 29) hx hb hts i_Mo hown hZ.1 hP 0 rfl rfl 2 (by decide) (hts _ fl_Mo_7) (fun _ h9 => h9) rfl d_Mo_isShelf_72 ?_
              refine lv_iconst (v := 2) hx hb d_Mo_isShelf_75 (by decide) ?_
              refine va_iald hx hb hZ.1 hP 1 1 rfl rfl (show vp_in (nI 2) 16384 from vp_in_nI (by decide) (by decide)) d_Mo_isShelf_76 ?_
              refine lv_tv (y := g_row 2) rfl ?_
              refine lv_tv (y := nI (b 2)) (hrow 2 (by omega)) ?_
              refine lv_istore_n (lv' := [(2, .int (nI (b 2))), (1, .int (nI (mS b))), (0, .ref mo)]) hx hb d_Mo_isShelf_77 rfl hl (by decide) rfl (fun ls hl => ?_)
              refine lv_iconst (v := 3) hx hb d_Mo_isShelf_78 (by decide) ?_
              refine lv_iload_n hx hb d_Mo_isShelf_79 rfl (lv_at hl 1 rfl) ?_
              refine lv_iconst (v := 1) hx hb d_Mo_isShelf_80 (by decide) ?_
              refine lv_iadd hx hb d_Mo_isShelf_81 ?_
              refine lv_tv (y := nI (mS b + 1)) (nI_add (mS b) 1) ?_
              refine lv_iload_n hx hb d_Mo_isShelf_82 rfl (lv_at hl 0 rfl) ?_
              refine lv_imul hx hb d_Mo_isShelf_83 ?_
              refine lv_tv (y := nI ((mS b + 1) * (b 2))) (pk_mul (mS b + 1) (b 2)) ?_
              refine lv_iadd hx hb d_Mo_isShelf_84 ?_
              refine lv_tv (y := nI (3 + ((mS b + 1) * (b 2)))) (nI_add 3 ((mS b + 1) * (b 2))) ?_
              refine lv_istore_n (lv' := [(3, .int (nI (3 + ((mS b + 1) * (b 2))))), (2, .int (nI (b 2))), (1, .int (nI (mS b))), (0, .ref mo)]) hx hb d_Mo_isShelf_85 rfl hl (by decide) rfl (fun ls hl => ?_)
              refine lv_iload_n hx hb d_Mo_isShelf_86 rfl (lv_at hl 0 rfl) ?_
              refine lv_aload_n hx hb d_Mo_isShelf_87 rfl (lv_at hl 3 rfl) ?_
              refine va_get (D := D) (ci := 8) (v := .int (nI n)) (C := R_Mo) (T := F_Mo) (N := 29) hx hb hts i_Mo hown hZ.1 hP 0 rfl rfl 1 (by decide) (hts _ fl_Mo_48) (fun _ h9 => h9) rfl d_Mo_isShelf_88 ?_
              refine lv_icmp_gt (tgt := 105) hx hb d_Mo_isShelf_91 (by decide) (fun c_91 => ?_) (fun c_91 => ?_)
              · have n_91 : (n) < (3 + ((mS b + 1) * (b 2))) := (nI_ltI (a := n) (b := 3 + ((mS b + 1) * (b 2))) (by omega) (by omega)).mp c_91
                refine lv_iconst (v := 0) hx hb d_Mo_isShelf_105 (by decide) ?_
                exact r_zret hx hb hr hlk (by decide) d_Mo_isShelf_106 (by rw [tF_f]; intro z; rcases z.2 with z | ⟨z1, z2, z3, z4, z5⟩ <;> omega)
              · have n_91 : ¬ (n) < (3 + ((mS b + 1) * (b 2))) := fun z => c_91 ((nI_ltI (a := n) (b := 3 + ((mS b + 1) * (b 2))) (by omega) (by omega)).mpr z)
                have hp : 2 * b 2 ≤ (mS b + 1) * b 2 := Nat.mul_le_mul_right _ (by omega)
                have hs1 : (mS b + 1) * b 2 = mS b * b 2 + b 2 := Nat.succ_mul _ _
                refine lv_aload_n hx hb d_Mo_isShelf_94 rfl (lv_at hl 3 rfl) ?_
                refine lv_iconst (v := 3) hx hb d_Mo_isShelf_95 (by decide) ?_
                refine lv_iload_n hx hb d_Mo_isShelf_96 rfl (lv_at hl 1 rfl) ?_
                refine roV (As := [.int 3, .int (nI (b 2))]) (rest := []) ⟨hx, hb, hml, hown, hts⟩ gd_good (c_Mo_rowNumber l D cB cI cJ mo m_row m_shelves m_many m_widths m_mark m_shownMark m_stack m_places m_kinds m_ats m_ends mk sp t d z_fault (nI n) z_shown z_wasRun z_wrong z_ended z_hints z_hasWidth z_width z_first z_moved z_deepest z_x z_y g_row n b hn hbb hrow 3 (b 2) (by omega)) cal_Mo_rowNumber ml_Mo_57 ⟨Nat.le_of_ble_eq_true rfl, Nat.le_of_ble_eq_true rfl⟩ hZ hP hD (isC := [0, 1]) ⟨rfl, rfl⟩ 0 (ci := 8) rfl rfl rfl rfl hl.1 rfl (Nat.le_of_ble_eq_true rfl) d_Mo_isShelf_97 ⟨Nat.le_of_ble_eq_true rfl, Nat.le_of_ble_eq_true rfl⟩ (fun v hv => ?_)
                subst hv
                refine lv_tvl (y := lN (oS b 0)) (by rw [oS_0]) ?_
                refine lv_lconst (v := 1) hx hb d_Mo_isShelf_100 (by decide) ?_
                refine W.lcmp hx hb d_Mo_isShelf_101 ?_
                refine lv_if_eq (tgt := 107) hx hb d_Mo_isShelf_102 (by decide) (fun c_102 => ?_) (fun c_102 => ?_)
                · have h102 : oS b 0 = 1 := (pk_lEQ (by have := nb_lt4 hbb (3 + 0 * b 2) (w := b 2) (by omega); unfold oS; omega) (by omega)).mp (lcmp_eq.mp c_102)
                  refine lv_iconst (v := 1) hx hb d_Mo_isShelf_107 (by decide) ?_
                  refine lv_istore (lv' := [(4, .int 1), (3, .int (nI (3 + ((mS b + 1) * (b 2))))), (2, .int (nI (b 2))), (1, .int (nI (mS b))), (0, .ref mo)]) hx hb d_Mo_isShelf_108 hl (by decide) rfl (fun ls hl => ?_)
                  have lp_110 : ∀ (fu : Nat) (tq : Nat) (ls : Array Slot), (tq ≤ mS b ∧ ∀ j, j < tq → oS b j ≤ oS b (j + 1)) → (mS b + 1 - tq) < fu → lv_has ls 5 [(0, .ref mo), (1, .int (nI (mS b))), (2, .int (nI (b 2))), (3, .int (nI (3 + ((mS b + 1) * (b 2))))), (4, .int (nI (tq + 1)))] → W p_ l e_ ({ frames := 1, cells := 0, slots := 0, locals := 25 }) s_ m_ args_ below_ meth_ c_ s_.heap [] 0 0 (MQR below_ (fun v => v = .int (tF (shOk n b))) s_) (F0 m_ 110 ls []) := by
                    intro fu
                    induction fu with
                    | zero => intro tq ls hinv hfu; exact absurd hfu (Nat.not_lt_zero _)
                    | succ fu ih_110 =>
                      intro tq ls hinv hfu hl
                      obtain ⟨htm, ht⟩ := hinv
                      refine lv_iload hx hb d_Mo_isShelf_110 (lv_at hl 4 rfl) ?_
                      refine lv_iload_n hx hb d_Mo_isShelf_112 rfl (lv_at hl 1 rfl) ?_
                      refine lv_icmp_gt (tgt := 152) hx hb d_Mo_isShelf_113 (by decide) (fun c_113 => ?_) (fun c_113 => ?_)
                      · have n_113 : (mS b) < (tq + 1) := (nI_ltI (a := mS b) (b := tq + 1) (by omega) (by omega)).mp c_113
                        refine lv_iload_n hx hb d_Mo_isShelf_152 rfl (lv_at hl 3 rfl) ?_
                        refine lv_i2l hx hb d_Mo_isShelf_153 rfl ?_
                        refine lv_tvl (y := lN (3 + (mS b + 1) * b 2)) (nI_l (by omega)) ?_
                        refine lv_aload_n hx hb d_Mo_isShelf_154 rfl (lv_at hl 0 rfl) ?_
                        refine lv_iconst (v := 3) hx hb d_Mo_isShelf_155 (by decide) ?_
                        refine lv_iload_n hx hb d_Mo_isShelf_156 rfl (lv_at hl 1 rfl) ?_
                        refine lv_iload_n hx hb d_Mo_isShelf_157 rfl (lv_at hl 2 rfl) ?_
                        refine lv_imul hx hb d_Mo_isShelf_158 ?_
                        refine lv_tv (y := nI ((mS b) * (b 2))) (pk_mul (mS b) (b 2)) ?_
                        refine lv_iadd hx hb d_Mo_isShelf_159 ?_
                        refine lv_tv (y := nI (3 + ((mS b) * (b 2)))) (nI_add 3 ((mS b) * (b 2))) ?_
                        refine lv_iload_n hx hb d_Mo_isShelf_160 rfl (lv_at hl 2 rfl) ?_
                        refine roV (As := [.int (nI (3 + ((mS b) * (b 2)))), .int (nI (b 2))]) (rest := [.long (lN (3 + (mS b + 1) * b 2))]) ⟨hx, hb, hml, hown, hts⟩ gd_good (c_Mo_rowNumber l D cB cI cJ mo m_row m_shelves m_many m_widths m_mark m_shownMark m_stack m_places m_kinds m_ats m_ends mk sp t d z_fault (nI n) z_shown z_wasRun z_wrong z_ended z_hints z_hasWidth z_width z_first z_moved z_deepest z_x z_y g_row n b hn hbb hrow (3 + ((mS b) * (b 2))) (b 2) (by omega)) cal_Mo_rowNumber ml_Mo_57 ⟨Nat.le_of_ble_eq_true rfl, Nat.le_of_ble_eq_true rfl⟩ hZ hP hD (isC := [0, 1]) ⟨rfl, rfl⟩ 0 (ci := 8) rfl rfl rfl rfl hl.1 rfl (Nat.le_of_ble_eq_true rfl) d_Mo_isShelf_161 ⟨Nat.le_of_ble_eq_true rfl, Nat.le_of_ble_eq_true rfl⟩ (fun v hv => ?_)
                        subst hv
                        refine lv_tvl (y := lN (oS b (mS b))) rfl ?_
                        refine lv_ladd hx hb d_Mo_isShelf_164 ?_
                        refine lv_tvl (y := lN (3 + (mS b + 1) * b 2 + oS b (mS b))) (lN_add _ _) ?_
                        refine lv_lconst (v := 1) hx hb d_Mo_isShelf_165 (by decide) ?_
                        refine lv_lsub hx hb d_Mo_isShelf_166 ?_
                        refine lv_tvl (y := lN (3 + (mS b + 1) * b 2 + oS b (mS b) - 1)) (lN_sub (b := 1) (by omega)) ?_
                        refine lv_aload_n hx hb d_Mo_isShelf_167 rfl (lv_at hl 0 rfl) ?_
                        refine va_get (D := D) (ci := 8) (v := .int (nI n)) (C := R_Mo) (T := F_Mo) (N := 29) hx hb hts i_Mo hown hZ.1 hP 0 rfl rfl 1 (by decide) (hts _ fl_Mo_48) (fun _ h9 => h9) rfl d_Mo_isShelf_168 ?_
                        refine lv_i2l hx hb d_Mo_isShelf_171 rfl ?_
                        refine lv_tvl (y := lN n) (nI_l (by omega)) ?_
                        refine W.lcmp hx hb d_Mo_isShelf_172 ?_
                        refine lv_if_gt (tgt := 180) hx hb d_Mo_isShelf_173 (by decide) (fun c_173 => ?_) (fun c_173 => ?_)
                        · refine lv_iconst (v := 0) hx hb d_Mo_isShelf_180 (by decide) ?_
                          exact r_zret hx hb hr hlk (by decide) d_Mo_isShelf_181 (by rw [tF_f]; intro z; have hz := (pk_lLT (by omega) (by have := nb_lt4 hbb (3 + mS b * b 2) (w := b 2) (by omega); unfold oS; omega)).mp (lcmp_gt.mp c_173); rcases z.2 with z | ⟨z1, z2, z3, z4, z5, z6, z7⟩ <;> omega)
                        · refine lv_iconst (v := 1) hx hb d_Mo_isShelf_176 (by decide) ?_
                          refine lv_goto (tgt := 181) hx hb d_Mo_isShelf_177 (by decide) ?_
                          exact r_zret hx hb hr hlk (by decide) d_Mo_isShelf_181 (by rw [tF_t]; have hz : ¬ n < 3 + (mS b + 1) * b 2 + oS b (mS b) - 1 := fun z => c_173 (lcmp_gt.mpr ((pk_lLT (by omega) (by have := nb_lt4 hbb (3 + mS b * b 2) (w := b 2) (by omega); unfold oS; omega)).mpr z)); have et : tq = mS b := (by omega); rw [et] at ht; exact ⟨by omega, Or.inr ⟨by omega, by omega, by omega, by omega, h102, ht, by omega⟩⟩)
                      · have n_113 : ¬ (mS b) < (tq + 1) := fun z => c_113 ((nI_ltI (a := mS b) (b := tq + 1) (by omega) (by omega)).mpr z)
                        have hq := Nat.mul_le_mul_right (b 2) (show tq + 1 + 1 ≤ mS b + 1 by omega)
                        rw [Nat.succ_mul] at hq
                        have hq0 : (tq + 1 - 1) * b 2 ≤ (tq + 1) * b 2 := Nat.mul_le_mul_right _ (by omega)
                        refine lv_aload_n hx hb d_Mo_isShelf_116 rfl (lv_at hl 0 rfl) ?_
                        refine lv_iconst (v := 3) hx hb d_Mo_isShelf_117 (by decide) ?_
                        refine lv_iload hx hb d_Mo_isShelf_118 (lv_at hl 4 rfl) ?_
                        refine lv_iload_n hx hb d_Mo_isShelf_120 rfl (lv_at hl 2 rfl) ?_
                        refine lv_imul hx hb d_Mo_isShelf_121 ?_
                        refine lv_tv (y := nI ((tq + 1) * (b 2))) (pk_mul (tq + 1) (b 2)) ?_
                        refine lv_iadd hx hb d_Mo_isShelf_122 ?_
                        refine lv_tv (y := nI (3 + ((tq + 1) * (b 2)))) (nI_add 3 ((tq + 1) * (b 2))) ?_
                        refine lv_iload_n hx hb d_Mo_isShelf_123 rfl (lv_at hl 2 rfl) ?_
                        refine roV (As := [.int (nI (3 + ((tq + 1) * (b 2)))), .int (nI (b 2))]) (rest := []) ⟨hx, hb, hml, hown, hts⟩ gd_good (c_Mo_rowNumber l D cB cI cJ mo m_row m_shelves m_many m_widths m_mark m_shownMark m_stack m_places m_kinds m_ats m_ends mk sp t d z_fault (nI n) z_shown z_wasRun z_wrong z_ended z_hints z_hasWidth z_width z_first z_moved z_deepest z_x z_y g_row n b hn hbb hrow (3 + ((tq + 1) * (b 2))) (b 2) (by omega)) cal_Mo_rowNumber ml_Mo_57 ⟨Nat.le_of_ble_eq_true rfl, Nat.le_of_ble_eq_true rfl⟩ hZ hP hD (isC := [0, 1]) ⟨rfl, rfl⟩ 0 (ci := 8) rfl rfl rfl rfl hl.1 rfl (Nat.le_of_ble_eq_true rfl) d_Mo_isShelf_124 ⟨Nat.le_of_ble_eq_true rfl, Nat.le_of_ble_eq_true rfl⟩ (fun v hv => ?_)
                        subst hv
                        refine lv_tvl (y := lN (oS b (tq + 1))) rfl ?_
                        refine lv_aload_n hx hb d_Mo_isShelf_127 rfl (lv_at hl 0 rfl) ?_
                        refine lv_iconst (v := 3) hx hb d_Mo_isShelf_128 (by decide) ?_
                        refine lv_iload hx hb d_Mo_isShelf_129 (lv_at hl 4 rfl) ?_
                        refine lv_iconst (v := 1) hx hb d_Mo_isShelf_131 (by decide) ?_
                        refine lv_isub hx hb d_Mo_isShelf_132 ?_
                        refine lv_tv (y := nI ((tq + 1) - 1)) (pk_sub (a := tq + 1) (b := 1) (by omega)) ?_
                        refine lv_iload_n hx hb d_Mo_isShelf_133 rfl (lv_at hl 2 rfl) ?_
                        refine lv_imul hx hb d_Mo_isShelf_134 ?_
                        refine lv_tv (y := nI (((tq + 1) - 1) * (b 2))) (pk_mul ((tq + 1) - 1) (b 2)) ?_
                        refine lv_iadd hx hb d_Mo_isShelf_135 ?_
                        refine lv_tv (y := nI (3 + (((tq + 1) - 1) * (b 2)))) (nI_add 3 (((tq + 1) - 1) * (b 2))) ?_
                        refine lv_iload_n hx hb d_Mo_isShelf_136 rfl (lv_at hl 2 rfl) ?_
                        refine roV (As := [.int (nI (3 + (((tq + 1) - 1) * (b 2)))), .int (nI (b 2))]) (rest := [.long (lN (oS b (tq + 1)))]) ⟨hx, hb, hml, hown, hts⟩ gd_good (c_Mo_rowNumber l D cB cI cJ mo m_row m_shelves m_many m_widths m_mark m_shownMark m_stack m_places m_kinds m_ats m_ends mk sp t d z_fault (nI n) z_shown z_wasRun z_wrong z_ended z_hints z_hasWidth z_width z_first z_moved z_deepest z_x z_y g_row n b hn hbb hrow (3 + (((tq + 1) - 1) * (b 2))) (b 2) (by omega)) cal_Mo_rowNumber ml_Mo_57 ⟨Nat.le_of_ble_eq_true rfl, Nat.le_of_ble_eq_true rfl⟩ hZ hP hD (isC := [0, 1]) ⟨rfl, rfl⟩ 0 (ci := 8) rfl rfl rfl rfl hl.1 rfl (Nat.le_of_ble_eq_true rfl) d_Mo_isShelf_137 ⟨Nat.le_of_ble_eq_true rfl, Nat.le_of_ble_eq_true rfl⟩ (fun v hv => ?_)
                        subst hv
                        refine lv_tvl (y := lN (oS b tq)) (by rw [show tq + 1 - 1 = tq by omega]; rfl) ?_
                        refine W.lcmp hx hb d_Mo_isShelf_140 ?_
                        refine lv_if_ge (tgt := 146) hx hb d_Mo_isShelf_141 (by decide) (fun c_141 => ?_) (fun c_141 => ?_)
                        · have h141 : oS b tq ≤ oS b (tq + 1) := (pk_lLE (by have := nb_lt4 hbb (3 + tq * b 2) (w := b 2) (by omega); unfold oS; omega) (by have := nb_lt4 hbb (3 + (tq + 1) * b 2) (w := b 2) (by omega); unfold oS; omega)).mp ((lg_cmp_ge _ _).mp c_141)
                          refine lv_iinc (v := nI (tq + 1 + 1)) (lv' := [(4, .int (nI (tq + 1 + 1))), (0, .ref mo), (1, .int (nI (mS b))), (2, .int (nI (b 2))), (3, .int (nI (3 + ((mS b + 1) * (b 2)))))]) hx hb d_Mo_isShelf_146 hl (k := 4) rfl (nI_add (tq + 1) 1) (by decide) rfl (fun ls hl => ?_)
                          refine lv_goto (tgt := 110) hx hb d_Mo_isShelf_149 (by decide) ?_
                          exact ih_110  (tq + 1) _ ⟨by omega, lt_s ht h141⟩ (by omega) (lv_sub hl [1, 2, 3, 4, 0] rfl)
                        · refine lv_iconst (v := 0) hx hb d_Mo_isShelf_144 (by decide) ?_
                          exact r_zret hx hb hr hlk (by decide) d_Mo_isShelf_145 (by rw [tF_f]; intro z; exact z.2.elim (fun z => n_29 z) (fun z => c_141 ((lg_cmp_ge _ _).mpr ((pk_lLE (by have := nb_lt4 hbb (3 + tq * b 2) (w := b 2) (by omega); unfold oS; omega) (by have := nb_lt4 hbb (3 + (tq + 1) * b 2) (w := b 2) (by omega); unfold oS; omega)).mpr (z.2.2.2.2.2.1 tq (by omega))))))
                  exact lp_110 _ 0 _ ⟨by omega, fun j hj => by omega⟩ (Nat.lt_succ_self _) (lv_sub hl [4, 3, 2, 1, 0] rfl)
                · refine lv_iconst (v := 0) hx hb d_Mo_isShelf_105 (by decide) ?_
                  exact r_zret hx hb hr hlk (by decide) d_Mo_isShelf_106 (by rw [tF_f]; intro z; exact z.2.elim (fun z => n_29 z) (fun z => c_102 (lcmp_eq.mpr (by rw [z.2.2.2.2.1]; rfl))))
            · have n_66 : ¬ (b 2) ≤ (4) := fun z => c_66 ((nI_leI (a := b 2) (b := 4) (by omega) (by omega)).mpr z)
              refine lv_iconst (v := 0) hx hb d_Mo_isShelf_69 (by decide) ?_
              exact r_zret hx hb hr hlk (by decide) d_Mo_isShelf_70 (by rw [tF_f]; intro z; rcases z.2 with z | ⟨z1, z2, z3, z4, z5⟩ <;> omega)
    · have n_29 : (mS b) = (0) := (nI_eq (a := mS b) (b := 0) (by omega) (by omega)).mp c_29
      refine lv_iconst (v := 1) hx hb d_Mo_isShelf_32 (by decide) ?_
      exact r_zret hx hb hr hlk (by decide) d_Mo_isShelf_33 (by rw [tF_t ⟨by omega, Or.inl n_29⟩])
  · have n_5 : ¬ (2) ≤ (n) := fun z => c_5 ((nI_leI (a := 2) (b := n) (by omega) (by omega)).mpr z)
    refine lv_iconst (v := 0) hx hb d_Mo_isShelf_8 (by decide) ?_
    exact r_zret hx hb hr hlk (by decide) d_Mo_isShelf_9 (by rw [tF_f]; intro z; have := z.1; omega)
set_option maxHeartbeats 1000000 in
set_option maxRecDepth 100000 in
theorem c_Mo_take_0 (l : Launch) (D : va_G) (cB cI cJ : ClassId) (mo m_row m_shelves m_many m_widths m_mark m_shownMark m_stack m_places m_kinds m_ats m_ends : Nat) (mk sp t d : Nat) (z_fault z_size z_shown z_wasRun z_wrong z_ended z_hints z_hasWidth z_width z_first z_moved z_deepest z_x z_y : Int32) (g_row g_shelves g_many g_widths : Nat → Int32) (n : Nat) (b : Nat → Nat) (hn : n ≤ 16384) (hbb : ∀ j, b j ≤ 255) (hrow : rowOk n g_row b) : Tr l D classes (TY cB cI cJ) gd_tbl nx_tbl y_Mo_take b_Mo_take 3 (some .int) ({ frames := 2, cells := 0, slots := 0, locals := 49 }) [.ref mo, .int 0] [(mo, .inr (8, [.int z_fault, .int (nI n), .ref m_row, .ref m_shelves, .ref m_many, .ref m_widths, .int (nI mk), .ref m_mark, .int z_shown, .ref m_shownMark, .int z_wasRun, .int z_wrong, .int z_ended, .int (nI sp), .int z_hints, .int z_hasWidth, .int z_width, .int z_first, .int z_moved, .int z_deepest, .int z_x, .int z_y, .int (nI t), .ref m_stack, .ref m_places, .int (nI d), .ref m_kinds, .ref m_ats, .ref m_ends])), (m_row, .inl (cI, 16384, .inl g_row)), (m_shelves, .inl (cI, 49152, .inl g_shelves)), (m_many, .inl (cI, 3, .inl g_many)), (m_widths, .inl (cI, 3, .inl g_widths))] (pI0 (fun r w => (¬ shOk n b ∧ r = -2 ∧ w = [(mo, .inr (8, [.int 0, .int (nI n), .ref m_row, .ref m_shelves, .ref m_many, .ref m_widths, .int (nI mk), .ref m_mark, .int z_shown, .ref m_shownMark, .int z_wasRun, .int z_wrong, .int z_ended, .int (nI sp), .int z_hints, .int z_hasWidth, .int z_width, .int z_first, .int z_moved, .int z_deepest, .int z_x, .int z_y, .int (nI t), .ref m_stack, .ref m_places, .int (nI d), .ref m_kinds, .ref m_ats, .ref m_ends])), (m_row, .inl (cI, 16384, .inl g_row)), (m_shelves, .inl (cI, 49152, .inl g_shelves)), (m_many, .inl (cI, 3, .inl g_many)), (m_widths, .inl (cI, 3, .inl g_widths))]) ∨ (shOk n b ∧ r = nI (mS b) ∧ ∃ (gs' : Nat → Int32) (wv : Int32), w = [(mo, .inr (8, [.int 0, .int (nI n), .ref m_row, .ref m_shelves, .ref m_many, .ref m_widths, .int (nI mk), .ref m_mark, .int z_shown, .ref m_shownMark, .int z_wasRun, .int z_wrong, .int z_ended, .int (nI sp), .int z_hints, .int z_hasWidth, .int z_width, .int z_first, .int z_moved, .int z_deepest, .int z_x, .int z_y, .int (nI t), .ref m_stack, .ref m_places, .int (nI d), .ref m_kinds, .ref m_ats, .ref m_ends])), (m_row, .inl (cI, 16384, .inl g_row)), (m_shelves, .inl (cI, 49152, .inl gs')), (m_many, .inl (cI, 3, .inl (upd g_many 0 (nI (mS b))))), (m_widths, .inl (cI, 3, .inl (upd g_widths 0 wv)))] ∧ (∀ j, j < n → gs' (16384 * 0 + j) = g_row j) ∧ (∀ i, (i < 16384 * 0 ∨ 16384 * 0 + 16384 ≤ i) → gs' i = g_shelves i) ∧ (0 < mS b → wv = nI (b 2))))) := by
  refine Tr.intro (by decide +kernel) nx_ok (Nat.le_of_ble_eq_true rfl) ?_
  intro p_ e_ s_ m_ args_ below_ meth_ c_ A_ ls hx hb hml hown hts hr hlk hnm hZ hP hD hS hl
  have hl : lv_has ls 3 [(0, .ref mo), (1, .int 0)] := hl
  have hms := mS_le hbb
  have hb0 := hbb 0
  have hb1 := hbb 1
  refine lv_aload_n hx hb d_Mo_take_0 rfl (lv_at hl 0 rfl) ?_
  refine lv_iload_n hx hb d_Mo_take_1 rfl (lv_at hl 1 rfl) ?_
  refine lv_if_lt (tgt := 10) hx hb d_Mo_take_2 (by decide) (fun c_2 => absurd c_2 (by decide)) (fun c_2 => ?_)
  clear c_2
  refine lv_iload_n hx hb d_Mo_take_5 rfl (lv_at hl 1 rfl) ?_
  refine lv_iconst (v := 2) hx hb d_Mo_take_6 (by decide) ?_
  refine lv_icmp_le (tgt := 14) hx hb d_Mo_take_7 (by decide) (fun c_7 => ?_) (fun c_7 => absurd (by decide) c_7)
  clear c_7
  refine lv_iconst (v := 0) hx hb d_Mo_take_14 (by decide) ?_
  have hC : Cut [(mo, .inr (8, [.int z_fault, .int (nI n), .ref m_row, .ref m_shelves, .ref m_many, .ref m_widths, .int (nI mk), .ref m_mark, .int z_shown, .ref m_shownMark, .int z_wasRun, .int z_wrong, .int z_ended, .int (nI sp), .int z_hints, .int z_hasWidth, .int z_width, .int z_first, .int z_moved, .int z_deepest, .int z_x, .int z_y, .int (nI t), .ref m_stack, .ref m_places, .int (nI d), .ref m_kinds, .ref m_ats, .ref m_ends])), (m_row, .inl (cI, 16384, .inl g_row)), (m_shelves, .inl (cI, 49152, .inl g_shelves)), (m_many, .inl (cI, 3, .inl g_many)), (m_widths, .inl (cI, 3, .inl g_widths))] [(mo, .inr (8, [.int z_fault, .int (nI n), .ref m_row, .ref m_shelves, .ref m_many, .ref m_widths, .int (nI mk), .ref m_mark, .int z_shown, .ref m_shownMark, .int z_wasRun, .int z_wrong, .int z_ended, .int (nI sp), .int z_hints, .int z_hasWidth, .int z_width, .int z_first, .int z_moved, .int z_deepest, .int z_x, .int z_y, .int (nI t), .ref m_stack, .ref m_places, .int (nI d), .ref m_kinds, .ref m_ats, .ref m_ends]))] [(m_row, .inl (cI, 16384, .inl g_row)), (m_shelves, .inl (cI, 49152, .inl g_shelves)), (m_many, .inl (cI, 3, .inl g_many)), (m_widths, .inl (cI, 3, .inl g_widths))] [0] [1, 2, 3, 4] := ⟨rfl, rfl, rfl, rfl, by decide⟩
  refine goI0 (trV (As := [.int 0]) (rest := []) ⟨hx, hb, hml, hown, hts⟩ gd_good (c_Mo_refused l D cB cI cJ mo m_row m_shelves m_many m_widths m_mark m_shownMark m_stack m_places m_kinds m_ats m_ends mk sp t d z_fault (nI n) z_shown z_wasRun z_wrong z_ended z_hints z_hasWidth z_width z_first z_moved z_deepest z_x z_y 0) cal_Mo_refused ml_Mo_51 ⟨Nat.le_of_ble_eq_true rfl, Nat.le_of_ble_eq_true rfl⟩ hZ hP hD hC 0 (ci := 8) rfl rfl rfl rfl hl.1 rfl (Nat.le_of_ble_eq_true rfl) d_Mo_take_15 ⟨Nat.le_of_ble_eq_true rfl, Nat.le_of_ble_eq_true rfl⟩) hZ hP hD hS hC (fun r_15 w1 H locs hq hP hD hS => ?_)
  obtain ⟨rq_15, rfl⟩ := hq
  have rq_15 : r_15 = 0 := rq_15
  subst rq_15
  have hP : va_P D classes [(m_row, .inl (cI, 16384, .inl g_row)), (m_shelves, .inl (cI, 49152, .inl g_shelves)), (m_many, .inl (cI, 3, .inl g_many)), (m_widths, .inl (cI, 3, .inl g_widths)), (mo, .inr (8, [.int 0, .int (nI n), .ref m_row, .ref m_shelves, .ref m_many, .ref m_widths, .int (nI mk), .ref m_mark, .int z_shown, .ref m_shownMark, .int z_wasRun, .int z_wrong, .int z_ended, .int (nI sp), .int z_hints, .int z_hasWidth, .int z_width, .int z_first, .int z_moved, .int z_deepest, .int z_x, .int z_y, .int (nI t), .ref m_stack, .ref m_places, .int (nI d), .ref m_kinds, .ref m_ats, .ref m_ends]))] H := hP
  have hD : va_D A_ [(m_row, .inl (cI, 16384, .inl g_row)), (m_shelves, .inl (cI, 49152, .inl g_shelves)), (m_many, .inl (cI, 3, .inl g_many)), (m_widths, .inl (cI, 3, .inl g_widths)), (mo, .inr (8, [.int 0, .int (nI n), .ref m_row, .ref m_shelves, .ref m_many, .ref m_widths, .int (nI mk), .ref m_mark, .int z_shown, .ref m_shownMark, .int z_wasRun, .int z_wrong, .int z_ended, .int (nI sp), .int z_hints, .int z_hasWidth, .int z_width, .int z_first, .int z_moved, .int z_deepest, .int z_x, .int z_y, .int (nI t), .ref m_stack, .ref m_places, .int (nI d), .ref m_kinds, .ref m_ats, .ref m_ends]))] := hD
  refine lv_if_eq (tgt := 23) hx hb d_Mo_take_18 (by decide) (fun c_18 => ?_) (fun c_18 => absurd (by decide) c_18)
  clear c_18
  refine lv_aload_n hx hb d_Mo_take_23 rfl (lv_at hl 0 rfl) ?_
  refine roV (As := []) (rest := []) ⟨hx, hb, hml, hown, hts⟩ gd_good (c_Mo_isShelf l D cB cI cJ mo m_row m_shelves m_many m_widths m_mark m_shownMark m_stack m_places m_kinds m_ats m_ends mk sp t d 0 (nI n) z_shown z_wasRun z_wrong z_ended z_hints z_hasWidth z_width z_first z_moved z_deepest z_x z_y g_row n b hn hbb hrow) cal_Mo_isShelf ml_Mo_61 ⟨Nat.le_of_ble_eq_true rfl, Nat.le_of_ble_eq_true rfl⟩ hZ hP hD (isC := [4, 0]) ⟨rfl, rfl⟩ 4 (ci := 8) rfl rfl rfl rfl hl.1 rfl (Nat.le_of_ble_eq_true rfl) d_Mo_take_24 ⟨Nat.le_of_ble_eq_true rfl, Nat.le_of_ble_eq_true rfl⟩ (fun v hv => ?_)
  subst hv
  refine lv_if_ne (tgt := 33) hx hb d_Mo_take_27 (by decide) (fun c_27 => ?_) (fun c_27 => ?_)
  · have hsh : shOk n b := Classical.byContradiction (fun z => c_27 (tF_0.mpr z))
    have hn2 := hsh.1
    refine lv_iconst (v := 0) hx hb d_Mo_take_33 (by decide) ?_
    refine lv_istore_n (lv' := [(2, .int 0), (0, .ref mo), (1, .int 0)]) hx hb d_Mo_take_34 rfl hl (by decide) rfl (fun ls hl => ?_)
    have lp_35 : ∀ (fu : Nat) (k : Nat) (gs : Nat → Int32) (H : Heap) (locs : List Loc) (ls : Array Slot), (k ≤ n ∧ ((∀ j, j < k → gs (16384 * 0 + j) = g_row j) ∧ ∀ i, (i < 16384 * 0 ∨ 16384 * 0 + 16384 ≤ i) → gs i = g_shelves i)) → (n - k) < fu → va_P D classes [(mo, .inr (8, [.int 0, .int (nI n), .ref m_row, .ref m_shelves, .ref m_many, .ref m_widths, .int (nI mk), .ref m_mark, .int z_shown, .ref m_shownMark, .int z_wasRun, .int z_wrong, .int z_ended, .int (nI sp), .int z_hints, .int z_hasWidth, .int z_width, .int z_first, .int z_moved, .int z_deepest, .int z_x, .int z_y, .int (nI t), .ref m_stack, .ref m_places, .int (nI d), .ref m_kinds, .ref m_ats, .ref m_ends])), (m_row, .inl (cI, 16384, .inl g_row)), (m_shelves, .inl (cI, 49152, .inl gs)), (m_many, .inl (cI, 3, .inl g_many)), (m_widths, .inl (cI, 3, .inl g_widths))] H → va_D A_ [(mo, .inr (8, [.int 0, .int (nI n), .ref m_row, .ref m_shelves, .ref m_many, .ref m_widths, .int (nI mk), .ref m_mark, .int z_shown, .ref m_shownMark, .int z_wasRun, .int z_wrong, .int z_ended, .int (nI sp), .int z_hints, .int z_hasWidth, .int z_width, .int z_first, .int z_moved, .int z_deepest, .int z_x, .int z_y, .int (nI t), .ref m_stack, .ref m_places, .int (nI d), .ref m_kinds, .ref m_ats, .ref m_ends])), (m_row, .inl (cI, 16384, .inl g_row)), (m_shelves, .inl (cI, 49152, .inl gs)), (m_many, .inl (cI, 3, .inl g_many)), (m_widths, .inl (cI, 3, .inl g_widths))] → va_S A_ s_.heap H locs → lv_has ls 3 [(0, .ref mo), (1, .int 0), (2, .int (nI k))] → W p_ l e_ ({ frames := 2, cells := 0, slots := 0, locals := 49 }) s_ m_ args_ below_ meth_ c_ H locs (0) (0) (MQT below_ D classes A_ (pI0 (fun r w => (¬ shOk n b ∧ r = -2 ∧ w = [(mo, .inr (8, [.int 0, .int (nI n), .ref m_row, .ref m_shelves, .ref m_many, .ref m_widths, .int (nI mk), .ref m_mark, .int z_shown, .ref m_shownMark, .int z_wasRun, .int z_wrong, .int z_ended, .int (nI sp), .int z_hints, .int z_hasWidth, .int z_width, .int z_first, .int z_moved, .int z_deepest, .int z_x, .int z_y, .int (nI t), .ref m_stack, .ref m_places, .int (nI d), .ref m_kinds, .ref m_ats, .ref m_ends])), (m_row, .inl (cI, 16384, .inl g_row)), (m_shelves, .inl (cI, 49152, .inl g_shelves)), (m_many, .inl (cI, 3, .inl g_many)), (m_widths, .inl (cI, 3, .inl g_widths))]) ∨ (shOk n b ∧ r = nI (mS b) ∧ ∃ (gs' : Nat → Int32) (wv : Int32), w = [(mo, .inr (8, [.int 0, .int (nI n), .ref m_row, .ref m_shelves, .ref m_many, .ref m_widths, .int (nI mk), .ref m_mark, .int z_shown, .ref m_shownMark, .int z_wasRun, .int z_wrong, .int z_ended, .int (nI sp), .int z_hints, .int z_hasWidth, .int z_width, .int z_first, .int z_moved, .int z_deepest, .int z_x, .int z_y, .int (nI t), .ref m_stack, .ref m_places, .int (nI d), .ref m_kinds, .ref m_ats, .ref m_ends])), (m_row, .inl (cI, 16384, .inl g_row)), (m_shelves, .inl (cI, 49152, .inl gs')), (m_many, .inl (cI, 3, .inl (upd g_many 0 (nI (mS b))))), (m_widths, .inl (cI, 3, .inl (upd g_widths 0 wv)))] ∧ (∀ j, j < n → gs' (16384 * 0 + j) = g_row j) ∧ (∀ i, (i < 16384 * 0 ∨ 16384 * 0 + 16384 ≤ i) → gs' i = g_shelves i) ∧ (0 < mS b → wv = nI (b 2))))) s_) (F0 m_ 35 ls []) := by
      intro fu
      induction fu with
      | zero => intro k gs H locs ls hinv hfu; exact absurd hfu (Nat.not_lt_zero _)
      | succ fu ih_35 =>
        intro k gs H locs ls hinv hfu hP hD hS hl
        obtain ⟨hkn, hcp⟩ := hinv
        refine lv_iload_n hx hb d_Mo_take_35 rfl (lv_at hl 2 rfl) ?_
        refine lv_aload_n hx hb d_Mo_take_36 rfl (lv_at hl 0 rfl) ?_
        refine va_get (D := D) (ci := 8) (v := .int (nI n)) (C := R_Mo) (T := F_Mo) (N := 29) hx hb hts i_Mo hown hZ.1 hP 0 rfl rfl 1 (by decide) (hts _ fl_Mo_48) (fun _ h9 => h9) rfl d_Mo_take_37 ?_
        refine lv_icmp_ge (tgt := 67) hx hb d_Mo_take_40 (by decide) (fun c_40 => ?_) (fun c_40 => ?_)
        · have n_40 : (n) ≤ (k) := (nI_leI (a := n) (b := k) (by omega) (by omega)).mp c_40
          refine lv_aload_n hx hb d_Mo_take_67 rfl (lv_at hl 0 rfl) ?_
          refine va_get (D := D) (ci := 8) (v := .ref m_many) (C := R_Mo) (T := F_Mo) (N := 29) hx hb hts i_Mo hown hZ.1 hP 0 rfl rfl 4 (by decide) (hts _ fl_Mo_17) (fun _ h9 => h9) rfl d_Mo_take_68 ?_
          refine lv_iload_n hx hb d_Mo_take_71 rfl (lv_at hl 1 rfl) ?_
          refine lv_sipush (v := 256) hx hb d_Mo_take_72 (by decide) ?_
          refine lv_aload_n hx hb d_Mo_take_75 rfl (lv_at hl 0 rfl) ?_
          refine va_get (D := D) (ci := 8) (v := .ref m_row) (C := R_Mo) (T := F_Mo) (N := 29) hx hb hts i_Mo hown hZ.1 hP 0 rfl rfl 2 (by decide) (hts _ fl_Mo_7) (fun _ h9 => h9) rfl d_Mo_take_76 ?_
          refine lv_iconst (v := 0) hx hb d_Mo_take_79 (by decide) ?_
          refine va_iald hx hb hZ.1 hP 1 1 rfl rfl (show vp_in (nI 0) 16384 from vp_in_nI (by decide) (by decide)) d_Mo_take_80 ?_
          refine lv_tv (y := g_row 0) rfl ?_
          refine lv_tv (y := nI (b 0)) (hrow 0 (by omega)) ?_
          refine lv_imul hx hb d_Mo_take_81 ?_
          refine lv_tv (y := nI (256 * (b 0))) (pk_mul 256 (b 0)) ?_
          refine lv_aload_n hx hb d_Mo_take_82 rfl (lv_at hl 0 rfl) ?_
          refine va_get (D := D) (ci := 8) (v := .ref m_row) (C := R_Mo) (T := F_Mo) (N := 29) hx hb hts i_Mo hown hZ.1 hP 0 rfl rfl 2 (by decide) (hts _ fl_Mo_7) (fun _ h9 => h9) rfl d_Mo_take_83 ?_
          refine lv_iconst (v := 1) hx hb d_Mo_take_86 (by decide) ?_
          refine va_iald hx hb hZ.1 hP 1 1 rfl rfl (show vp_in (nI 1) 16384 from vp_in_nI (by decide) (by decide)) d_Mo_take_87 ?_
          refine lv_tv (y := g_row 1) rfl ?_
          refine lv_tv (y := nI (b 1)) (hrow 1 (by omega)) ?_
          refine lv_iadd hx hb d_Mo_take_88 ?_
          refine lv_tv (y := nI (256 * (b 0) + (b 1))) (nI_add (256 * (b 0)) (b 1)) ?_
          refine lv_tv (y := nI (mS b)) rfl ?_
          refine va_iast hx hb hZ.1 hP hD hS 3 1 rfl rfl (show vp_in (nI 0) 3 from vp_in_nI (by decide) (by decide)) d_Mo_take_89 (fun H locs hP hD hS => ?_)
          have hP : va_P D classes [(mo, .inr (8, [.int 0, .int (nI n), .ref m_row, .ref m_shelves, .ref m_many, .ref m_widths, .int (nI mk), .ref m_mark, .int z_shown, .ref m_shownMark, .int z_wasRun, .int z_wrong, .int z_ended, .int (nI sp), .int z_hints, .int z_hasWidth, .int z_width, .int z_first, .int z_moved, .int z_deepest, .int z_x, .int z_y, .int (nI t), .ref m_stack, .ref m_places, .int (nI d), .ref m_kinds, .ref m_ats, .ref m_ends])), (m_row, .inl (cI, 16384, .inl g_row)), (m_shelves, .inl (cI, 49152, .inl gs)), (m_many, .inl (cI, 3, .inl (upd g_many 0 (nI (mS b))))), (m_widths, .inl (cI, 3, .inl g_widths))] H := hP
          have hD : va_D A_ [(mo, .inr (8, [.int 0, .int (nI n), .ref m_row, .ref m_shelves, .ref m_many, .ref m_widths, .int (nI mk), .ref m_mark, .int z_shown, .ref m_shownMark, .int z_wasRun, .int z_wrong, .int z_ended, .int (nI sp), .int z_hints, .int z_hasWidth, .int z_width, .int z_first, .int z_moved, .int z_deepest, .int z_x, .int z_y, .int (nI t), .ref m_stack, .ref m_places, .int (nI d), .ref m_kinds, .ref m_ats, .ref m_ends])), (m_row, .inl (cI, 16384, .inl g_row)), (m_shelves, .inl (cI, 49152, .inl gs)), (m_many, .inl (cI, 3, .inl (upd g_many 0 (nI (mS b))))), (m_widths, .inl (cI, 3, .inl g_widths))] := hD
          refine lv_aload_n hx hb d_Mo_take_90 rfl (lv_at hl 0 rfl) ?_
          refine va_get (D := D) (ci := 8) (v := .ref m_widths) (C := R_Mo) (T := F_Mo) (N := 29) hx hb hts i_Mo hown hZ.1 hP 0 rfl rfl 5 (by decide) (hts _ fl_Mo_20) (fun _ h9 => h9) rfl d_Mo_take_91 ?_
          refine lv_iload_n hx hb d_Mo_take_94 rfl (lv_at hl 1 rfl) ?_
          refine lv_aload_n hx hb d_Mo_take_95 rfl (lv_at hl 0 rfl) ?_
          refine va_get (D := D) (ci := 8) (v := .ref m_many) (C := R_Mo) (T := F_Mo) (N := 29) hx hb hts i_Mo hown hZ.1 hP 0 rfl rfl 4 (by decide) (hts _ fl_Mo_17) (fun _ h9 => h9) rfl d_Mo_take_96 ?_
          refine lv_iload_n hx hb d_Mo_take_99 rfl (lv_at hl 1 rfl) ?_
          refine va_iald hx hb hZ.1 hP 3 1 rfl rfl (show vp_in (nI 0) 3 from vp_in_nI (by decide) (by decide)) d_Mo_take_100 ?_
          refine lv_tv (y := (upd g_many 0 (nI (mS b))) 0) rfl ?_
          refine lv_tv (y := nI (mS b)) pk_us ?_
          refine lv_if_le (tgt := 113) hx hb d_Mo_take_101 (by decide) (fun c_101 => ?_) (fun c_101 => ?_)
          · have n_101 : (mS b) ≤ (0) := (nI_leI (a := mS b) (b := 0) (by omega) (by omega)).mp c_101
            refine lv_iconst (v := 0) hx hb d_Mo_take_113 (by decide) ?_
            refine va_iast hx hb hZ.1 hP hD hS 4 1 rfl rfl (show vp_in (nI 0) 3 from vp_in_nI (by decide) (by decide)) d_Mo_take_114 (fun H locs hP hD hS => ?_)
            have hP : va_P D classes [(mo, .inr (8, [.int 0, .int (nI n), .ref m_row, .ref m_shelves, .ref m_many, .ref m_widths, .int (nI mk), .ref m_mark, .int z_shown, .ref m_shownMark, .int z_wasRun, .int z_wrong, .int z_ended, .int (nI sp), .int z_hints, .int z_hasWidth, .int z_width, .int z_first, .int z_moved, .int z_deepest, .int z_x, .int z_y, .int (nI t), .ref m_stack, .ref m_places, .int (nI d), .ref m_kinds, .ref m_ats, .ref m_ends])), (m_row, .inl (cI, 16384, .inl g_row)), (m_shelves, .inl (cI, 49152, .inl gs)), (m_many, .inl (cI, 3, .inl (upd g_many 0 (nI (mS b))))), (m_widths, .inl (cI, 3, .inl (upd g_widths 0 0)))] H := hP
            have hD : va_D A_ [(mo, .inr (8, [.int 0, .int (nI n), .ref m_row, .ref m_shelves, .ref m_many, .ref m_widths, .int (nI mk), .ref m_mark, .int z_shown, .ref m_shownMark, .int z_wasRun, .int z_wrong, .int z_ended, .int (nI sp), .int z_hints, .int z_hasWidth, .int z_width, .int z_first, .int z_moved, .int z_deepest, .int z_x, .int z_y, .int (nI t), .ref m_stack, .ref m_places, .int (nI d), .ref m_kinds, .ref m_ats, .ref m_ends])), (m_row, .inl (cI, 16384, .inl g_row)), (m_shelves, .inl (cI, 49152, .inl gs)), (m_many, .inl (cI, 3, .inl (upd g_many 0 (nI (mS b))))), (m_widths, .inl (cI, 3, .inl (upd g_widths 0 0)))] := hD
            refine lv_aload_n hx hb d_Mo_take_115 rfl (lv_at hl 0 rfl) ?_
            refine va_get (D := D) (ci := 8) (v := .ref m_many) (C := R_Mo) (T := F_Mo) (N := 29) hx hb hts i_Mo hown hZ.1 hP 0 rfl rfl 4 (by decide) (hts _ fl_Mo_17) (fun _ h9 => h9) rfl d_Mo_take_116 ?_
            refine lv_iload_n hx hb d_Mo_take_119 rfl (lv_at hl 1 rfl) ?_
            refine va_iald hx hb hZ.1 hP 3 1 rfl rfl (show vp_in (nI 0) 3 from vp_in_nI (by decide) (by decide)) d_Mo_take_120 ?_
            refine lv_tv (y := (upd g_many 0 (nI (mS b))) 0) rfl ?_
            refine lv_tv (y := nI (mS b)) pk_us ?_
            exact t_iret hx hb hr hlk d_Mo_take_121 hP hD hS ⟨_, rfl, rfl, rfl, Or.inr ⟨hsh, rfl, _, _, rfl, fun j hj => hcp.1 j (by omega), hcp.2, fun z => by omega⟩⟩
          · have n_101 : ¬ (mS b) ≤ (0) := fun z => c_101 ((nI_leI (a := mS b) (b := 0) (by omega) (by omega)).mpr z)
            refine lv_aload_n hx hb d_Mo_take_104 rfl (lv_at hl 0 rfl) ?_
            refine va_get (D := D) (ci := 8) (v := .ref m_row) (C := R_Mo) (T := F_Mo) (N := 29) hx hb hts i_Mo hown hZ.1 hP 0 rfl rfl 2 (by decide) (hts _ fl_Mo_7) (fun _ h9 => h9) rfl d_Mo_take_105 ?_
            refine lv_iconst (v := 2) hx hb d_Mo_take_108 (by decide) ?_
            refine va_iald hx hb hZ.1 hP 1 1 rfl rfl (show vp_in (nI 2) 16384 from vp_in_nI (by decide) (by decide)) d_Mo_take_109 ?_
            refine lv_tv (y := g_row 2) rfl ?_
            refine lv_tv (y := nI (b 2)) (hrow 2 (by rcases hsh.2 with z | ⟨z1, z2, z3, z4, z5⟩ <;> omega)) ?_
            refine lv_goto (tgt := 114) hx hb d_Mo_take_110 (by decide) ?_
            refine va_iast hx hb hZ.1 hP hD hS 4 1 rfl rfl (show vp_in (nI 0) 3 from vp_in_nI (by decide) (by decide)) d_Mo_take_114 (fun H locs hP hD hS => ?_)
            have hP : va_P D classes [(mo, .inr (8, [.int 0, .int (nI n), .ref m_row, .ref m_shelves, .ref m_many, .ref m_widths, .int (nI mk), .ref m_mark, .int z_shown, .ref m_shownMark, .int z_wasRun, .int z_wrong, .int z_ended, .int (nI sp), .int z_hints, .int z_hasWidth, .int z_width, .int z_first, .int z_moved, .int z_deepest, .int z_x, .int z_y, .int (nI t), .ref m_stack, .ref m_places, .int (nI d), .ref m_kinds, .ref m_ats, .ref m_ends])), (m_row, .inl (cI, 16384, .inl g_row)), (m_shelves, .inl (cI, 49152, .inl gs)), (m_many, .inl (cI, 3, .inl (upd g_many 0 (nI (mS b))))), (m_widths, .inl (cI, 3, .inl (upd g_widths 0 (nI (b 2)))))] H := hP
            have hD : va_D A_ [(mo, .inr (8, [.int 0, .int (nI n), .ref m_row, .ref m_shelves, .ref m_many, .ref m_widths, .int (nI mk), .ref m_mark, .int z_shown, .ref m_shownMark, .int z_wasRun, .int z_wrong, .int z_ended, .int (nI sp), .int z_hints, .int z_hasWidth, .int z_width, .int z_first, .int z_moved, .int z_deepest, .int z_x, .int z_y, .int (nI t), .ref m_stack, .ref m_places, .int (nI d), .ref m_kinds, .ref m_ats, .ref m_ends])), (m_row, .inl (cI, 16384, .inl g_row)), (m_shelves, .inl (cI, 49152, .inl gs)), (m_many, .inl (cI, 3, .inl (upd g_many 0 (nI (mS b))))), (m_widths, .inl (cI, 3, .inl (upd g_widths 0 (nI (b 2)))))] := hD
            refine lv_aload_n hx hb d_Mo_take_115 rfl (lv_at hl 0 rfl) ?_
            refine va_get (D := D) (ci := 8) (v := .ref m_many) (C := R_Mo) (T := F_Mo) (N := 29) hx hb hts i_Mo hown hZ.1 hP 0 rfl rfl 4 (by decide) (hts _ fl_Mo_17) (fun _ h9 => h9) rfl d_Mo_take_116 ?_
            refine lv_iload_n hx hb d_Mo_take_119 rfl (lv_at hl 1 rfl) ?_
            refine va_iald hx hb hZ.1 hP 3 1 rfl rfl (show vp_in (nI 0) 3 from vp_in_nI (by decide) (by decide)) d_Mo_take_120 ?_
            refine lv_tv (y := (upd g_many 0 (nI (mS b))) 0) rfl ?_
            refine lv_tv (y := nI (mS b)) pk_us ?_
            exact t_iret hx hb hr hlk d_Mo_take_121 hP hD hS ⟨_, rfl, rfl, rfl, Or.inr ⟨hsh, rfl, _, _, rfl, fun j hj => hcp.1 j (by omega), hcp.2, fun _ => rfl⟩⟩
        · have n_40 : ¬ (n) ≤ (k) := fun z => c_40 ((nI_leI (a := n) (b := k) (by omega) (by omega)).mpr z)
          refine lv_aload_n hx hb d_Mo_take_43 rfl (lv_at hl 0 rfl) ?_
          refine va_get (D := D) (ci := 8) (v := .ref m_shelves) (C := R_Mo) (T := F_Mo) (N := 29) hx hb hts i_Mo hown hZ.1 hP 0 rfl rfl 3 (by decide) (hts _ fl_Mo_14) (fun _ h9 => h9) rfl d_Mo_take_44 ?_
          refine lv_sipush (v := 16384) hx hb d_Mo_take_47 (by decide) ?_
          refine lv_iload_n hx hb d_Mo_take_50 rfl (lv_at hl 1 rfl) ?_
          refine lv_imul hx hb d_Mo_take_51 ?_
          refine lv_tv (y := 0) (by decide) ?_
          refine lv_iload_n hx hb d_Mo_take_52 rfl (lv_at hl 2 rfl) ?_
          refine lv_iadd hx hb d_Mo_take_53 ?_
          refine lv_tv (y := nI (0 + k)) (nI_add 0 k) ?_
          refine lv_aload_n hx hb d_Mo_take_54 rfl (lv_at hl 0 rfl) ?_
          refine va_get (D := D) (ci := 8) (v := .ref m_row) (C := R_Mo) (T := F_Mo) (N := 29) hx hb hts i_Mo hown hZ.1 hP 0 rfl rfl 2 (by decide) (hts _ fl_Mo_7) (fun _ h9 => h9) rfl d_Mo_take_55 ?_
          refine lv_iload_n hx hb d_Mo_take_58 rfl (lv_at hl 2 rfl) ?_
          refine va_iald hx hb hZ.1 hP 1 1 rfl rfl (vp_in_nI (by omega) (by omega)) d_Mo_take_59 ?_
          refine lv_tv (y := g_row k) (by rw [nI_clamp (by omega)]) ?_
          refine va_iast hx hb hZ.1 hP hD hS 2 1 rfl rfl (vp_in_nI (by omega) (by omega)) d_Mo_take_60 (fun H locs hP hD hS => ?_)
          rw [show ((nI (0 + k)).toNatClampNeg) = 0 + k from nI_clamp (by omega)] at hP hD
          have hP : va_P D classes [(mo, .inr (8, [.int 0, .int (nI n), .ref m_row, .ref m_shelves, .ref m_many, .ref m_widths, .int (nI mk), .ref m_mark, .int z_shown, .ref m_shownMark, .int z_wasRun, .int z_wrong, .int z_ended, .int (nI sp), .int z_hints, .int z_hasWidth, .int z_width, .int z_first, .int z_moved, .int z_deepest, .int z_x, .int z_y, .int (nI t), .ref m_stack, .ref m_places, .int (nI d), .ref m_kinds, .ref m_ats, .ref m_ends])), (m_row, .inl (cI, 16384, .inl g_row)), (m_shelves, .inl (cI, 49152, .inl (upd gs (0 + k) (g_row k)))), (m_many, .inl (cI, 3, .inl g_many)), (m_widths, .inl (cI, 3, .inl g_widths))] H := hP
          have hD : va_D A_ [(mo, .inr (8, [.int 0, .int (nI n), .ref m_row, .ref m_shelves, .ref m_many, .ref m_widths, .int (nI mk), .ref m_mark, .int z_shown, .ref m_shownMark, .int z_wasRun, .int z_wrong, .int z_ended, .int (nI sp), .int z_hints, .int z_hasWidth, .int z_width, .int z_first, .int z_moved, .int z_deepest, .int z_x, .int z_y, .int (nI t), .ref m_stack, .ref m_places, .int (nI d), .ref m_kinds, .ref m_ats, .ref m_ends])), (m_row, .inl (cI, 16384, .inl g_row)), (m_shelves, .inl (cI, 49152, .inl (upd gs (0 + k) (g_row k)))), (m_many, .inl (cI, 3, .inl g_many)), (m_widths, .inl (cI, 3, .inl g_widths))] := hD
          refine lv_iinc (v := nI (k + 1)) (lv' := [(2, .int (nI (k + 1))), (0, .ref mo), (1, .int 0)]) hx hb d_Mo_take_61 hl (k := 2) rfl (nI_add k 1) (by decide) rfl (fun ls hl => ?_)
          refine lv_goto (tgt := 35) hx hb d_Mo_take_64 (by decide) ?_
          exact ih_35  (k + 1) (upd gs (0 + k) (g_row k)) _ _ _ ⟨by omega, cp_step hcp (by omega) hn⟩ (by omega) (hP.subm [0, 1, 2, 3, 4] rfl) (hD.sub [0, 1, 2, 3, 4] rfl rfl) hS (lv_sub hl [1, 2, 0] rfl)
    exact lp_35 _ 0 g_shelves _ _ _ ⟨by omega, fun j hj => absurd hj (Nat.not_lt_zero _), fun _ _ => rfl⟩ (Nat.lt_succ_self _) (hP.subm [4, 0, 1, 2, 3] rfl) (hD.sub [4, 0, 1, 2, 3] rfl rfl) hS (lv_sub hl [1, 2, 0] rfl)
  · have hsh : ¬ shOk n b := tF_0.mp c_27
    refine lv_bipush (v := (-2)) hx hb d_Mo_take_30 (by decide) ?_
    exact t_iret hx hb hr hlk d_Mo_take_32 (hP.subm (ws' := [(mo, .inr (8, [.int 0, .int (nI n), .ref m_row, .ref m_shelves, .ref m_many, .ref m_widths, .int (nI mk), .ref m_mark, .int z_shown, .ref m_shownMark, .int z_wasRun, .int z_wrong, .int z_ended, .int (nI sp), .int z_hints, .int z_hasWidth, .int z_width, .int z_first, .int z_moved, .int z_deepest, .int z_x, .int z_y, .int (nI t), .ref m_stack, .ref m_places, .int (nI d), .ref m_kinds, .ref m_ats, .ref m_ends])), (m_row, .inl (cI, 16384, .inl g_row)), (m_shelves, .inl (cI, 49152, .inl g_shelves)), (m_many, .inl (cI, 3, .inl g_many)), (m_widths, .inl (cI, 3, .inl g_widths))]) [4, 0, 1, 2, 3] rfl) (hD.sub (ws' := [(mo, .inr (8, [.int 0, .int (nI n), .ref m_row, .ref m_shelves, .ref m_many, .ref m_widths, .int (nI mk), .ref m_mark, .int z_shown, .ref m_shownMark, .int z_wasRun, .int z_wrong, .int z_ended, .int (nI sp), .int z_hints, .int z_hasWidth, .int z_width, .int z_first, .int z_moved, .int z_deepest, .int z_x, .int z_y, .int (nI t), .ref m_stack, .ref m_places, .int (nI d), .ref m_kinds, .ref m_ats, .ref m_ends])), (m_row, .inl (cI, 16384, .inl g_row)), (m_shelves, .inl (cI, 49152, .inl g_shelves)), (m_many, .inl (cI, 3, .inl g_many)), (m_widths, .inl (cI, 3, .inl g_widths))]) [4, 0, 1, 2, 3] rfl rfl) hS ⟨_, rfl, rfl, rfl, Or.inl ⟨hsh, rfl, rfl⟩⟩
set_option maxHeartbeats 1000000 in
set_option maxRecDepth 100000 in
theorem c_Mo_count_0 (l : Launch) (D : va_G) (cB cI cJ : ClassId) (mo m_row m_shelves m_many m_widths m_mark m_shownMark m_stack m_places m_kinds m_ats m_ends : Nat) (mk sp t d : Nat) (z_fault z_size z_shown z_wasRun z_wrong z_ended z_hints z_hasWidth z_width z_first z_moved z_deepest z_x z_y : Int32) (g_many : Nat → Int32) : Tr l D classes (TY cB cI cJ) gd_tbl nx_tbl y_Mo_count b_Mo_count 2 (some .int) ({ frames := 1, cells := 0, slots := 0, locals := 21 }) [.ref mo, .int 0] [(mo, .inr (8, [.int z_fault, .int z_size, .ref m_row, .ref m_shelves, .ref m_many, .ref m_widths, .int (nI mk), .ref m_mark, .int z_shown, .ref m_shownMark, .int z_wasRun, .int z_wrong, .int z_ended, .int (nI sp), .int z_hints, .int z_hasWidth, .int z_width, .int z_first, .int z_moved, .int z_deepest, .int z_x, .int z_y, .int (nI t), .ref m_stack, .ref m_places, .int (nI d), .ref m_kinds, .ref m_ats, .ref m_ends])), (m_many, .inl (cI, 3, .inl g_many))] (pI0 (fun r w => r = g_many 0 ∧ w = [(mo, .inr (8, [.int 0, .int z_size, .ref m_row, .ref m_shelves, .ref m_many, .ref m_widths, .int (nI mk), .ref m_mark, .int z_shown, .ref m_shownMark, .int z_wasRun, .int z_wrong, .int z_ended, .int (nI sp), .int z_hints, .int z_hasWidth, .int z_width, .int z_first, .int z_moved, .int z_deepest, .int z_x, .int z_y, .int (nI t), .ref m_stack, .ref m_places, .int (nI d), .ref m_kinds, .ref m_ats, .ref m_ends])), (m_many, .inl (cI, 3, .inl g_many))])) := by
  refine Tr.intro (by decide +kernel) nx_ok (Nat.le_of_ble_eq_true rfl) ?_
  intro p_ e_ s_ m_ args_ below_ meth_ c_ A_ ls hx hb hml hown hts hr hlk hnm hZ hP hD hS hl
  have hl : lv_has ls 2 [(0, .ref mo), (1, .int 0)] := hl
  refine lv_aload_n hx hb d_Mo_count_0 rfl (lv_at hl 0 rfl) ?_
  refine lv_iload_n hx hb d_Mo_count_1 rfl (lv_at hl 1 rfl) ?_
  refine lv_if_lt (tgt := 10) hx hb d_Mo_count_2 (by decide) (fun c_2 => absurd c_2 (by decide)) (fun c_2 => ?_)
  clear c_2
  refine lv_iload_n hx hb d_Mo_count_5 rfl (lv_at hl 1 rfl) ?_
  refine lv_iconst (v := 2) hx hb d_Mo_count_6 (by decide) ?_
  refine lv_icmp_le (tgt := 14) hx hb d_Mo_count_7 (by decide) (fun c_7 => ?_) (fun c_7 => absurd (by decide) c_7)
  clear c_7
  refine lv_iconst (v := 0) hx hb d_Mo_count_14 (by decide) ?_
  have hC : Cut [(mo, .inr (8, [.int z_fault, .int z_size, .ref m_row, .ref m_shelves, .ref m_many, .ref m_widths, .int (nI mk), .ref m_mark, .int z_shown, .ref m_shownMark, .int z_wasRun, .int z_wrong, .int z_ended, .int (nI sp), .int z_hints, .int z_hasWidth, .int z_width, .int z_first, .int z_moved, .int z_deepest, .int z_x, .int z_y, .int (nI t), .ref m_stack, .ref m_places, .int (nI d), .ref m_kinds, .ref m_ats, .ref m_ends])), (m_many, .inl (cI, 3, .inl g_many))] [(mo, .inr (8, [.int z_fault, .int z_size, .ref m_row, .ref m_shelves, .ref m_many, .ref m_widths, .int (nI mk), .ref m_mark, .int z_shown, .ref m_shownMark, .int z_wasRun, .int z_wrong, .int z_ended, .int (nI sp), .int z_hints, .int z_hasWidth, .int z_width, .int z_first, .int z_moved, .int z_deepest, .int z_x, .int z_y, .int (nI t), .ref m_stack, .ref m_places, .int (nI d), .ref m_kinds, .ref m_ats, .ref m_ends]))] [(m_many, .inl (cI, 3, .inl g_many))] [0] [1] := ⟨rfl, rfl, rfl, rfl, by decide⟩
  refine goI0 (trV (As := [.int 0]) (rest := []) ⟨hx, hb, hml, hown, hts⟩ gd_good (c_Mo_refused l D cB cI cJ mo m_row m_shelves m_many m_widths m_mark m_shownMark m_stack m_places m_kinds m_ats m_ends mk sp t d z_fault z_size z_shown z_wasRun z_wrong z_ended z_hints z_hasWidth z_width z_first z_moved z_deepest z_x z_y 0) cal_Mo_refused ml_Mo_51 ⟨Nat.le_of_ble_eq_true rfl, Nat.le_of_ble_eq_true rfl⟩ hZ hP hD hC 0 (ci := 8) rfl rfl rfl rfl hl.1 rfl (Nat.le_of_ble_eq_true rfl) d_Mo_count_15 ⟨Nat.le_of_ble_eq_true rfl, Nat.le_of_ble_eq_true rfl⟩) hZ hP hD hS hC (fun r_15 w1 H locs hq hP hD hS => ?_)
  obtain ⟨rq_15, rfl⟩ := hq
  have rq_15 : r_15 = 0 := rq_15
  subst rq_15
  have hP : va_P D classes [(m_many, .inl (cI, 3, .inl g_many)), (mo, .inr (8, [.int 0, .int z_size, .ref m_row, .ref m_shelves, .ref m_many, .ref m_widths, .int (nI mk), .ref m_mark, .int z_shown, .ref m_shownMark, .int z_wasRun, .int z_wrong, .int z_ended, .int (nI sp), .int z_hints, .int z_hasWidth, .int z_width, .int z_first, .int z_moved, .int z_deepest, .int z_x, .int z_y, .int (nI t), .ref m_stack, .ref m_places, .int (nI d), .ref m_kinds, .ref m_ats, .ref m_ends]))] H := hP
  have hD : va_D A_ [(m_many, .inl (cI, 3, .inl g_many)), (mo, .inr (8, [.int 0, .int z_size, .ref m_row, .ref m_shelves, .ref m_many, .ref m_widths, .int (nI mk), .ref m_mark, .int z_shown, .ref m_shownMark, .int z_wasRun, .int z_wrong, .int z_ended, .int (nI sp), .int z_hints, .int z_hasWidth, .int z_width, .int z_first, .int z_moved, .int z_deepest, .int z_x, .int z_y, .int (nI t), .ref m_stack, .ref m_places, .int (nI d), .ref m_kinds, .ref m_ats, .ref m_ends]))] := hD
  refine lv_if_eq (tgt := 25) hx hb d_Mo_count_18 (by decide) (fun c_18 => ?_) (fun c_18 => absurd (by decide) c_18)
  clear c_18
  refine lv_aload_n hx hb d_Mo_count_25 rfl (lv_at hl 0 rfl) ?_
  refine va_get (D := D) (ci := 8) (v := .ref m_many) (C := R_Mo) (T := F_Mo) (N := 29) hx hb hts i_Mo hown hZ.1 hP 1 rfl rfl 4 (by decide) (hts _ fl_Mo_17) (fun _ h9 => h9) rfl d_Mo_count_26 ?_
  refine lv_iload_n hx hb d_Mo_count_29 rfl (lv_at hl 1 rfl) ?_
  refine va_iald hx hb hZ.1 hP 0 1 rfl rfl (show vp_in (nI 0) 3 from vp_in_nI (by decide) (by decide)) d_Mo_count_30 ?_
  refine lv_tv (y := g_many 0) rfl ?_
  exact t_iret hx hb hr hlk d_Mo_count_31 (hP.subm (ws' := [(mo, .inr (8, [.int 0, .int z_size, .ref m_row, .ref m_shelves, .ref m_many, .ref m_widths, .int (nI mk), .ref m_mark, .int z_shown, .ref m_shownMark, .int z_wasRun, .int z_wrong, .int z_ended, .int (nI sp), .int z_hints, .int z_hasWidth, .int z_width, .int z_first, .int z_moved, .int z_deepest, .int z_x, .int z_y, .int (nI t), .ref m_stack, .ref m_places, .int (nI d), .ref m_kinds, .ref m_ats, .ref m_ends])), (m_many, .inl (cI, 3, .inl g_many))]) [1, 0] rfl) (hD.sub (ws' := [(mo, .inr (8, [.int 0, .int z_size, .ref m_row, .ref m_shelves, .ref m_many, .ref m_widths, .int (nI mk), .ref m_mark, .int z_shown, .ref m_shownMark, .int z_wasRun, .int z_wrong, .int z_ended, .int (nI sp), .int z_hints, .int z_hasWidth, .int z_width, .int z_first, .int z_moved, .int z_deepest, .int z_x, .int z_y, .int (nI t), .ref m_stack, .ref m_places, .int (nI d), .ref m_kinds, .ref m_ats, .ref m_ends])), (m_many, .inl (cI, 3, .inl g_many))]) [1, 0] rfl rfl) hS ⟨_, rfl, rfl, rfl, rfl, rfl⟩
set_option maxHeartbeats 1000000 in
set_option maxRecDepth 100000 in
theorem c_Mo_take_1 (l : Launch) (D : va_G) (cB cI cJ : ClassId) (mo m_row m_shelves m_many m_widths m_mark m_shownMark m_stack m_places m_kinds m_ats m_ends : Nat) (mk sp t d : Nat) (z_fault z_size z_shown z_wasRun z_wrong z_ended z_hints z_hasWidth z_width z_first z_moved z_deepest z_x z_y : Int32) (g_row g_shelves g_many g_widths : Nat → Int32) (n : Nat) (b : Nat → Nat) (hn : n ≤ 16384) (hbb : ∀ j, b j ≤ 255) (hrow : rowOk n g_row b) : Tr l D classes (TY cB cI cJ) gd_tbl nx_tbl y_Mo_take b_Mo_take 3 (some .int) ({ frames := 2, cells := 0, slots := 0, locals := 49 }) [.ref mo, .int 1] [(mo, .inr (8, [.int z_fault, .int (nI n), .ref m_row, .ref m_shelves, .ref m_many, .ref m_widths, .int (nI mk), .ref m_mark, .int z_shown, .ref m_shownMark, .int z_wasRun, .int z_wrong, .int z_ended, .int (nI sp), .int z_hints, .int z_hasWidth, .int z_width, .int z_first, .int z_moved, .int z_deepest, .int z_x, .int z_y, .int (nI t), .ref m_stack, .ref m_places, .int (nI d), .ref m_kinds, .ref m_ats, .ref m_ends])), (m_row, .inl (cI, 16384, .inl g_row)), (m_shelves, .inl (cI, 49152, .inl g_shelves)), (m_many, .inl (cI, 3, .inl g_many)), (m_widths, .inl (cI, 3, .inl g_widths))] (pI0 (fun r w => (¬ shOk n b ∧ r = -2 ∧ w = [(mo, .inr (8, [.int 0, .int (nI n), .ref m_row, .ref m_shelves, .ref m_many, .ref m_widths, .int (nI mk), .ref m_mark, .int z_shown, .ref m_shownMark, .int z_wasRun, .int z_wrong, .int z_ended, .int (nI sp), .int z_hints, .int z_hasWidth, .int z_width, .int z_first, .int z_moved, .int z_deepest, .int z_x, .int z_y, .int (nI t), .ref m_stack, .ref m_places, .int (nI d), .ref m_kinds, .ref m_ats, .ref m_ends])), (m_row, .inl (cI, 16384, .inl g_row)), (m_shelves, .inl (cI, 49152, .inl g_shelves)), (m_many, .inl (cI, 3, .inl g_many)), (m_widths, .inl (cI, 3, .inl g_widths))]) ∨ (shOk n b ∧ r = nI (mS b) ∧ ∃ (gs' : Nat → Int32) (wv : Int32), w = [(mo, .inr (8, [.int 0, .int (nI n), .ref m_row, .ref m_shelves, .ref m_many, .ref m_widths, .int (nI mk), .ref m_mark, .int z_shown, .ref m_shownMark, .int z_wasRun, .int z_wrong, .int z_ended, .int (nI sp), .int z_hints, .int z_hasWidth, .int z_width, .int z_first, .int z_moved, .int z_deepest, .int z_x, .int z_y, .int (nI t), .ref m_stack, .ref m_places, .int (nI d), .ref m_kinds, .ref m_ats, .ref m_ends])), (m_row, .inl (cI, 16384, .inl g_row)), (m_shelves, .inl (cI, 49152, .inl gs')), (m_many, .inl (cI, 3, .inl (upd g_many 1 (nI (mS b))))), (m_widths, .inl (cI, 3, .inl (upd g_widths 1 wv)))] ∧ (∀ j, j < n → gs' (16384 * 1 + j) = g_row j) ∧ (∀ i, (i < 16384 * 1 ∨ 16384 * 1 + 16384 ≤ i) → gs' i = g_shelves i) ∧ (0 < mS b → wv = nI (b 2))))) := by
  refine Tr.intro (by decide +kernel) nx_ok (Nat.le_of_ble_eq_true rfl) ?_
  intro p_ e_ s_ m_ args_ below_ meth_ c_ A_ ls hx hb hml hown hts hr hlk hnm hZ hP hD hS hl
  have hl : lv_has ls 3 [(0, .ref mo), (1, .int 1)] := hl
  have hms := mS_le hbb
  have hb0 := hbb 0
  have hb1 := hbb 1
  refine lv_aload_n hx hb d_Mo_take_0 rfl (lv_at hl 0 rfl) ?_
  refine lv_iload_n hx hb d_Mo_take_1 rfl (lv_at hl 1 rfl) ?_
  refine lv_if_lt (tgt := 10) hx hb d_Mo_take_2 (by decide) (fun c_2 => absurd c_2 (by decide)) (fun c_2 => ?_)
  clear c_2
  refine lv_iload_n hx hb d_Mo_take_5 rfl (lv_at hl 1 rfl) ?_
  refine lv_iconst (v := 2) hx hb d_Mo_take_6 (by decide) ?_
  refine lv_icmp_le (tgt := 14) hx hb d_Mo_take_7 (by decide) (fun c_7 => ?_) (fun c_7 => absurd (by decide) c_7)
  clear c_7
  refine lv_iconst (v := 0) hx hb d_Mo_take_14 (by decide) ?_
  have hC : Cut [(mo, .inr (8, [.int z_fault, .int (nI n), .ref m_row, .ref m_shelves, .ref m_many, .ref m_widths, .int (nI mk), .ref m_mark, .int z_shown, .ref m_shownMark, .int z_wasRun, .int z_wrong, .int z_ended, .int (nI sp), .int z_hints, .int z_hasWidth, .int z_width, .int z_first, .int z_moved, .int z_deepest, .int z_x, .int z_y, .int (nI t), .ref m_stack, .ref m_places, .int (nI d), .ref m_kinds, .ref m_ats, .ref m_ends])), (m_row, .inl (cI, 16384, .inl g_row)), (m_shelves, .inl (cI, 49152, .inl g_shelves)), (m_many, .inl (cI, 3, .inl g_many)), (m_widths, .inl (cI, 3, .inl g_widths))] [(mo, .inr (8, [.int z_fault, .int (nI n), .ref m_row, .ref m_shelves, .ref m_many, .ref m_widths, .int (nI mk), .ref m_mark, .int z_shown, .ref m_shownMark, .int z_wasRun, .int z_wrong, .int z_ended, .int (nI sp), .int z_hints, .int z_hasWidth, .int z_width, .int z_first, .int z_moved, .int z_deepest, .int z_x, .int z_y, .int (nI t), .ref m_stack, .ref m_places, .int (nI d), .ref m_kinds, .ref m_ats, .ref m_ends]))] [(m_row, .inl (cI, 16384, .inl g_row)), (m_shelves, .inl (cI, 49152, .inl g_shelves)), (m_many, .inl (cI, 3, .inl g_many)), (m_widths, .inl (cI, 3, .inl g_widths))] [0] [1, 2, 3, 4] := ⟨rfl, rfl, rfl, rfl, by decide⟩
  refine goI0 (trV (As := [.int 0]) (rest := []) ⟨hx, hb, hml, hown, hts⟩ gd_good (c_Mo_refused l D cB cI cJ mo m_row m_shelves m_many m_widths m_mark m_shownMark m_stack m_places m_kinds m_ats m_ends mk sp t d z_fault (nI n) z_shown z_wasRun z_wrong z_ended z_hints z_hasWidth z_width z_first z_moved z_deepest z_x z_y 0) cal_Mo_refused ml_Mo_51 ⟨Nat.le_of_ble_eq_true rfl, Nat.le_of_ble_eq_true rfl⟩ hZ hP hD hC 0 (ci := 8) rfl rfl rfl rfl hl.1 rfl (Nat.le_of_ble_eq_true rfl) d_Mo_take_15 ⟨Nat.le_of_ble_eq_true rfl, Nat.le_of_ble_eq_true rfl⟩) hZ hP hD hS hC (fun r_15 w1 H locs hq hP hD hS => ?_)
  obtain ⟨rq_15, rfl⟩ := hq
  have rq_15 : r_15 = 0 := rq_15
  subst rq_15
  have hP : va_P D classes [(m_row, .inl (cI, 16384, .inl g_row)), (m_shelves, .inl (cI, 49152, .inl g_shelves)), (m_many, .inl (cI, 3, .inl g_many)), (m_widths, .inl (cI, 3, .inl g_widths)), (mo, .inr (8, [.int 0, .int (nI n), .ref m_row, .ref m_shelves, .ref m_many, .ref m_widths, .int (nI mk), .ref m_mark, .int z_shown, .ref m_shownMark, .int z_wasRun, .int z_wrong, .int z_ended, .int (nI sp), .int z_hints, .int z_hasWidth, .int z_width, .int z_first, .int z_moved, .int z_deepest, .int z_x, .int z_y, .int (nI t), .ref m_stack, .ref m_places, .int (nI d), .ref m_kinds, .ref m_ats, .ref m_ends]))] H := hP
  have hD : va_D A_ [(m_row, .inl (cI, 16384, .inl g_row)), (m_shelves, .inl (cI, 49152, .inl g_shelves)), (m_many, .inl (cI, 3, .inl g_many)), (m_widths, .inl (cI, 3, .inl g_widths)), (mo, .inr (8, [.int 0, .int (nI n), .ref m_row, .ref m_shelves, .ref m_many, .ref m_widths, .int (nI mk), .ref m_mark, .int z_shown, .ref m_shownMark, .int z_wasRun, .int z_wrong, .int z_ended, .int (nI sp), .int z_hints, .int z_hasWidth, .int z_width, .int z_first, .int z_moved, .int z_deepest, .int z_x, .int z_y, .int (nI t), .ref m_stack, .ref m_places, .int (nI d), .ref m_kinds, .ref m_ats, .ref m_ends]))] := hD
  refine lv_if_eq (tgt := 23) hx hb d_Mo_take_18 (by decide) (fun c_18 => ?_) (fun c_18 => absurd (by decide) c_18)
  clear c_18
  refine lv_aload_n hx hb d_Mo_take_23 rfl (lv_at hl 0 rfl) ?_
  refine roV (As := []) (rest := []) ⟨hx, hb, hml, hown, hts⟩ gd_good (c_Mo_isShelf l D cB cI cJ mo m_row m_shelves m_many m_widths m_mark m_shownMark m_stack m_places m_kinds m_ats m_ends mk sp t d 0 (nI n) z_shown z_wasRun z_wrong z_ended z_hints z_hasWidth z_width z_first z_moved z_deepest z_x z_y g_row n b hn hbb hrow) cal_Mo_isShelf ml_Mo_61 ⟨Nat.le_of_ble_eq_true rfl, Nat.le_of_ble_eq_true rfl⟩ hZ hP hD (isC := [4, 0]) ⟨rfl, rfl⟩ 4 (ci := 8) rfl rfl rfl rfl hl.1 rfl (Nat.le_of_ble_eq_true rfl) d_Mo_take_24 ⟨Nat.le_of_ble_eq_true rfl, Nat.le_of_ble_eq_true rfl⟩ (fun v hv => ?_)
  subst hv
  refine lv_if_ne (tgt := 33) hx hb d_Mo_take_27 (by decide) (fun c_27 => ?_) (fun c_27 => ?_)
  · have hsh : shOk n b := Classical.byContradiction (fun z => c_27 (tF_0.mpr z))
    have hn2 := hsh.1
    refine lv_iconst (v := 0) hx hb d_Mo_take_33 (by decide) ?_
    refine lv_istore_n (lv' := [(2, .int 0), (0, .ref mo), (1, .int 1)]) hx hb d_Mo_take_34 rfl hl (by decide) rfl (fun ls hl => ?_)
    have lp_35 : ∀ (fu : Nat) (k : Nat) (gs : Nat → Int32) (H : Heap) (locs : List Loc) (ls : Array Slot), (k ≤ n ∧ ((∀ j, j < k → gs (16384 * 1 + j) = g_row j) ∧ ∀ i, (i < 16384 * 1 ∨ 16384 * 1 + 16384 ≤ i) → gs i = g_shelves i)) → (n - k) < fu → va_P D classes [(mo, .inr (8, [.int 0, .int (nI n), .ref m_row, .ref m_shelves, .ref m_many, .ref m_widths, .int (nI mk), .ref m_mark, .int z_shown, .ref m_shownMark, .int z_wasRun, .int z_wrong, .int z_ended, .int (nI sp), .int z_hints, .int z_hasWidth, .int z_width, .int z_first, .int z_moved, .int z_deepest, .int z_x, .int z_y, .int (nI t), .ref m_stack, .ref m_places, .int (nI d), .ref m_kinds, .ref m_ats, .ref m_ends])), (m_row, .inl (cI, 16384, .inl g_row)), (m_shelves, .inl (cI, 49152, .inl gs)), (m_many, .inl (cI, 3, .inl g_many)), (m_widths, .inl (cI, 3, .inl g_widths))] H → va_D A_ [(mo, .inr (8, [.int 0, .int (nI n), .ref m_row, .ref m_shelves, .ref m_many, .ref m_widths, .int (nI mk), .ref m_mark, .int z_shown, .ref m_shownMark, .int z_wasRun, .int z_wrong, .int z_ended, .int (nI sp), .int z_hints, .int z_hasWidth, .int z_width, .int z_first, .int z_moved, .int z_deepest, .int z_x, .int z_y, .int (nI t), .ref m_stack, .ref m_places, .int (nI d), .ref m_kinds, .ref m_ats, .ref m_ends])), (m_row, .inl (cI, 16384, .inl g_row)), (m_shelves, .inl (cI, 49152, .inl gs)), (m_many, .inl (cI, 3, .inl g_many)), (m_widths, .inl (cI, 3, .inl g_widths))] → va_S A_ s_.heap H locs → lv_has ls 3 [(0, .ref mo), (1, .int 1), (2, .int (nI k))] → W p_ l e_ ({ frames := 2, cells := 0, slots := 0, locals := 49 }) s_ m_ args_ below_ meth_ c_ H locs (0) (0) (MQT below_ D classes A_ (pI0 (fun r w => (¬ shOk n b ∧ r = -2 ∧ w = [(mo, .inr (8, [.int 0, .int (nI n), .ref m_row, .ref m_shelves, .ref m_many, .ref m_widths, .int (nI mk), .ref m_mark, .int z_shown, .ref m_shownMark, .int z_wasRun, .int z_wrong, .int z_ended, .int (nI sp), .int z_hints, .int z_hasWidth, .int z_width, .int z_first, .int z_moved, .int z_deepest, .int z_x, .int z_y, .int (nI t), .ref m_stack, .ref m_places, .int (nI d), .ref m_kinds, .ref m_ats, .ref m_ends])), (m_row, .inl (cI, 16384, .inl g_row)), (m_shelves, .inl (cI, 49152, .inl g_shelves)), (m_many, .inl (cI, 3, .inl g_many)), (m_widths, .inl (cI, 3, .inl g_widths))]) ∨ (shOk n b ∧ r = nI (mS b) ∧ ∃ (gs' : Nat → Int32) (wv : Int32), w = [(mo, .inr (8, [.int 0, .int (nI n), .ref m_row, .ref m_shelves, .ref m_many, .ref m_widths, .int (nI mk), .ref m_mark, .int z_shown, .ref m_shownMark, .int z_wasRun, .int z_wrong, .int z_ended, .int (nI sp), .int z_hints, .int z_hasWidth, .int z_width, .int z_first, .int z_moved, .int z_deepest, .int z_x, .int z_y, .int (nI t), .ref m_stack, .ref m_places, .int (nI d), .ref m_kinds, .ref m_ats, .ref m_ends])), (m_row, .inl (cI, 16384, .inl g_row)), (m_shelves, .inl (cI, 49152, .inl gs')), (m_many, .inl (cI, 3, .inl (upd g_many 1 (nI (mS b))))), (m_widths, .inl (cI, 3, .inl (upd g_widths 1 wv)))] ∧ (∀ j, j < n → gs' (16384 * 1 + j) = g_row j) ∧ (∀ i, (i < 16384 * 1 ∨ 16384 * 1 + 16384 ≤ i) → gs' i = g_shelves i) ∧ (0 < mS b → wv = nI (b 2))))) s_) (F0 m_ 35 ls []) := by
      intro fu
      induction fu with
      | zero => intro k gs H locs ls hinv hfu; exact absurd hfu (Nat.not_lt_zero _)
      | succ fu ih_35 =>
        intro k gs H locs ls hinv hfu hP hD hS hl
        obtain ⟨hkn, hcp⟩ := hinv
        refine lv_iload_n hx hb d_Mo_take_35 rfl (lv_at hl 2 rfl) ?_
        refine lv_aload_n hx hb d_Mo_take_36 rfl (lv_at hl 0 rfl) ?_
        refine va_get (D := D) (ci := 8) (v := .int (nI n)) (C := R_Mo) (T := F_Mo) (N := 29) hx hb hts i_Mo hown hZ.1 hP 0 rfl rfl 1 (by decide) (hts _ fl_Mo_48) (fun _ h9 => h9) rfl d_Mo_take_37 ?_
        refine lv_icmp_ge (tgt := 67) hx hb d_Mo_take_40 (by decide) (fun c_40 => ?_) (fun c_40 => ?_)
        · have n_40 : (n) ≤ (k) := (nI_leI (a := n) (b := k) (by omega) (by omega)).mp c_40
          refine lv_aload_n hx hb d_Mo_take_67 rfl (lv_at hl 0 rfl) ?_
          refine va_get (D := D) (ci := 8) (v := .ref m_many) (C := R_Mo) (T := F_Mo) (N := 29) hx hb hts i_Mo hown hZ.1 hP 0 rfl rfl 4 (by decide) (hts _ fl_Mo_17) (fun _ h9 => h9) rfl d_Mo_take_68 ?_
          refine lv_iload_n hx hb d_Mo_take_71 rfl (lv_at hl 1 rfl) ?_
          refine lv_sipush (v := 256) hx hb d_Mo_take_72 (by decide) ?_
          refine lv_aload_n hx hb d_Mo_take_75 rfl (lv_at hl 0 rfl) ?_
          refine va_get (D := D) (ci := 8) (v := .ref m_row) (C := R_Mo) (T := F_Mo) (N := 29) hx hb hts i_Mo hown hZ.1 hP 0 rfl rfl 2 (by decide) (hts _ fl_Mo_7) (fun _ h9 => h9) rfl d_Mo_take_76 ?_
          refine lv_iconst (v := 0) hx hb d_Mo_take_79 (by decide) ?_
          refine va_iald hx hb hZ.1 hP 1 1 rfl rfl (show vp_in (nI 0) 16384 from vp_in_nI (by decide) (by decide)) d_Mo_take_80 ?_
          refine lv_tv (y := g_row 0) rfl ?_
          refine lv_tv (y := nI (b 0)) (hrow 0 (by omega)) ?_
          refine lv_imul hx hb d_Mo_take_81 ?_
          refine lv_tv (y := nI (256 * (b 0))) (pk_mul 256 (b 0)) ?_
          refine lv_aload_n hx hb d_Mo_take_82 rfl (lv_at hl 0 rfl) ?_
          refine va_get (D := D) (ci := 8) (v := .ref m_row) (C := R_Mo) (T := F_Mo) (N := 29) hx hb hts i_Mo hown hZ.1 hP 0 rfl rfl 2 (by decide) (hts _ fl_Mo_7) (fun _ h9 => h9) rfl d_Mo_take_83 ?_
          refine lv_iconst (v := 1) hx hb d_Mo_take_86 (by decide) ?_
          refine va_iald hx hb hZ.1 hP 1 1 rfl rfl (show vp_in (nI 1) 16384 from vp_in_nI (by decide) (by decide)) d_Mo_take_87 ?_
          refine lv_tv (y := g_row 1) rfl ?_
          refine lv_tv (y := nI (b 1)) (hrow 1 (by omega)) ?_
          refine lv_iadd hx hb d_Mo_take_88 ?_
          refine lv_tv (y := nI (256 * (b 0) + (b 1))) (nI_add (256 * (b 0)) (b 1)) ?_
          refine lv_tv (y := nI (mS b)) rfl ?_
          refine va_iast hx hb hZ.1 hP hD hS 3 1 rfl rfl (show vp_in (nI 1) 3 from vp_in_nI (by decide) (by decide)) d_Mo_take_89 (fun H locs hP hD hS => ?_)
          have hP : va_P D classes [(mo, .inr (8, [.int 0, .int (nI n), .ref m_row, .ref m_shelves, .ref m_many, .ref m_widths, .int (nI mk), .ref m_mark, .int z_shown, .ref m_shownMark, .int z_wasRun, .int z_wrong, .int z_ended, .int (nI sp), .int z_hints, .int z_hasWidth, .int z_width, .int z_first, .int z_moved, .int z_deepest, .int z_x, .int z_y, .int (nI t), .ref m_stack, .ref m_places, .int (nI d), .ref m_kinds, .ref m_ats, .ref m_ends])), (m_row, .inl (cI, 16384, .inl g_row)), (m_shelves, .inl (cI, 49152, .inl gs)), (m_many, .inl (cI, 3, .inl (upd g_many 1 (nI (mS b))))), (m_widths, .inl (cI, 3, .inl g_widths))] H := hP
          have hD : va_D A_ [(mo, .inr (8, [.int 0, .int (nI n), .ref m_row, .ref m_shelves, .ref m_many, .ref m_widths, .int (nI mk), .ref m_mark, .int z_shown, .ref m_shownMark, .int z_wasRun, .int z_wrong, .int z_ended, .int (nI sp), .int z_hints, .int z_hasWidth, .int z_width, .int z_first, .int z_moved, .int z_deepest, .int z_x, .int z_y, .int (nI t), .ref m_stack, .ref m_places, .int (nI d), .ref m_kinds, .ref m_ats, .ref m_ends])), (m_row, .inl (cI, 16384, .inl g_row)), (m_shelves, .inl (cI, 49152, .inl gs)), (m_many, .inl (cI, 3, .inl (upd g_many 1 (nI (mS b))))), (m_widths, .inl (cI, 3, .inl g_widths))] := hD
          refine lv_aload_n hx hb d_Mo_take_90 rfl (lv_at hl 0 rfl) ?_
          refine va_get (D := D) (ci := 8) (v := .ref m_widths) (C := R_Mo) (T := F_Mo) (N := 29) hx hb hts i_Mo hown hZ.1 hP 0 rfl rfl 5 (by decide) (hts _ fl_Mo_20) (fun _ h9 => h9) rfl d_Mo_take_91 ?_
          refine lv_iload_n hx hb d_Mo_take_94 rfl (lv_at hl 1 rfl) ?_
          refine lv_aload_n hx hb d_Mo_take_95 rfl (lv_at hl 0 rfl) ?_
          refine va_get (D := D) (ci := 8) (v := .ref m_many) (C := R_Mo) (T := F_Mo) (N := 29) hx hb hts i_Mo hown hZ.1 hP 0 rfl rfl 4 (by decide) (hts _ fl_Mo_17) (fun _ h9 => h9) rfl d_Mo_take_96 ?_
          refine lv_iload_n hx hb d_Mo_take_99 rfl (lv_at hl 1 rfl) ?_
          refine va_iald hx hb hZ.1 hP 3 1 rfl rfl (show vp_in (nI 1) 3 from vp_in_nI (by decide) (by decide)) d_Mo_take_100 ?_
          refine lv_tv (y := (upd g_many 1 (nI (mS b))) 1) rfl ?_
          refine lv_tv (y := nI (mS b)) pk_us ?_
          refine lv_if_le (tgt := 113) hx hb d_Mo_take_101 (by decide) (fun c_101 => ?_) (fun c_101 => ?_)
          · have n_101 : (mS b) ≤ (0) := (nI_leI (a := mS b) (b := 0) (by omega) (by omega)).mp c_101
            refine lv_iconst (v := 0) hx hb d_Mo_take_113 (by decide) ?_
            refine va_iast hx hb hZ.1 hP hD hS 4 1 rfl rfl (show vp_in (nI 1) 3 from vp_in_nI (by decide) (by decide)) d_Mo_take_114 (fun H locs hP hD hS => ?_)
            have hP : va_P D classes [(mo, .inr (8, [.int 0, .int (nI n), .ref m_row, .ref m_shelves, .ref m_many, .ref m_widths, .int (nI mk), .ref m_mark, .int z_shown, .ref m_shownMark, .int z_wasRun, .int z_wrong, .int z_ended, .int (nI sp), .int z_hints, .int z_hasWidth, .int z_width, .int z_first, .int z_moved, .int z_deepest, .int z_x, .int z_y, .int (nI t), .ref m_stack, .ref m_places, .int (nI d), .ref m_kinds, .ref m_ats, .ref m_ends])), (m_row, .inl (cI, 16384, .inl g_row)), (m_shelves, .inl (cI, 49152, .inl gs)), (m_many, .inl (cI, 3, .inl (upd g_many 1 (nI (mS b))))), (m_widths, .inl (cI, 3, .inl (upd g_widths 1 0)))] H := hP
            have hD : va_D A_ [(mo, .inr (8, [.int 0, .int (nI n), .ref m_row, .ref m_shelves, .ref m_many, .ref m_widths, .int (nI mk), .ref m_mark, .int z_shown, .ref m_shownMark, .int z_wasRun, .int z_wrong, .int z_ended, .int (nI sp), .int z_hints, .int z_hasWidth, .int z_width, .int z_first, .int z_moved, .int z_deepest, .int z_x, .int z_y, .int (nI t), .ref m_stack, .ref m_places, .int (nI d), .ref m_kinds, .ref m_ats, .ref m_ends])), (m_row, .inl (cI, 16384, .inl g_row)), (m_shelves, .inl (cI, 49152, .inl gs)), (m_many, .inl (cI, 3, .inl (upd g_many 1 (nI (mS b))))), (m_widths, .inl (cI, 3, .inl (upd g_widths 1 0)))] := hD
            refine lv_aload_n hx hb d_Mo_take_115 rfl (lv_at hl 0 rfl) ?_
            refine va_get (D := D) (ci := 8) (v := .ref m_many) (C := R_Mo) (T := F_Mo) (N := 29) hx hb hts i_Mo hown hZ.1 hP 0 rfl rfl 4 (by decide) (hts _ fl_Mo_17) (fun _ h9 => h9) rfl d_Mo_take_116 ?_
            refine lv_iload_n hx hb d_Mo_take_119 rfl (lv_at hl 1 rfl) ?_
            refine va_iald hx hb hZ.1 hP 3 1 rfl rfl (show vp_in (nI 1) 3 from vp_in_nI (by decide) (by decide)) d_Mo_take_120 ?_
            refine lv_tv (y := (upd g_many 1 (nI (mS b))) 1) rfl ?_
            refine lv_tv (y := nI (mS b)) pk_us ?_
            exact t_iret hx hb hr hlk d_Mo_take_121 hP hD hS ⟨_, rfl, rfl, rfl, Or.inr ⟨hsh, rfl, _, _, rfl, fun j hj => hcp.1 j (by omega), hcp.2, fun z => by omega⟩⟩
          · have n_101 : ¬ (mS b) ≤ (0) := fun z => c_101 ((nI_leI (a := mS b) (b := 0) (by omega) (by omega)).mpr z)
            refine lv_aload_n hx hb d_Mo_take_104 rfl (lv_at hl 0 rfl) ?_
            refine va_get (D := D) (ci := 8) (v := .ref m_row) (C := R_Mo) (T := F_Mo) (N := 29) hx hb hts i_Mo hown hZ.1 hP 0 rfl rfl 2 (by decide) (hts _ fl_Mo_7) (fun _ h9 => h9) rfl d_Mo_take_105 ?_
            refine lv_iconst (v := 2) hx hb d_Mo_take_108 (by decide) ?_
            refine va_iald hx hb hZ.1 hP 1 1 rfl rfl (show vp_in (nI 2) 16384 from vp_in_nI (by decide) (by decide)) d_Mo_take_109 ?_
            refine lv_tv (y := g_row 2) rfl ?_
            refine lv_tv (y := nI (b 2)) (hrow 2 (by rcases hsh.2 with z | ⟨z1, z2, z3, z4, z5⟩ <;> omega)) ?_
            refine lv_goto (tgt := 114) hx hb d_Mo_take_110 (by decide) ?_
            refine va_iast hx hb hZ.1 hP hD hS 4 1 rfl rfl (show vp_in (nI 1) 3 from vp_in_nI (by decide) (by decide)) d_Mo_take_114 (fun H locs hP hD hS => ?_)
            have hP : va_P D classes [(mo, .inr (8, [.int 0, .int (nI n), .ref m_row, .ref m_shelves, .ref m_many, .ref m_widths, .int (nI mk), .ref m_mark, .int z_shown, .ref m_shownMark, .int z_wasRun, .int z_wrong, .int z_ended, .int (nI sp), .int z_hints, .int z_hasWidth, .int z_width, .int z_first, .int z_moved, .int z_deepest, .int z_x, .int z_y, .int (nI t), .ref m_stack, .ref m_places, .int (nI d), .ref m_kinds, .ref m_ats, .ref m_ends])), (m_row, .inl (cI, 16384, .inl g_row)), (m_shelves, .inl (cI, 49152, .inl gs)), (m_many, .inl (cI, 3, .inl (upd g_many 1 (nI (mS b))))), (m_widths, .inl (cI, 3, .inl (upd g_widths 1 (nI (b 2)))))] H := hP
            have hD : va_D A_ [(mo, .inr (8, [.int 0, .int (nI n), .ref m_row, .ref m_shelves, .ref m_many, .ref m_widths, .int (nI mk), .ref m_mark, .int z_shown, .ref m_shownMark, .int z_wasRun, .int z_wrong, .int z_ended, .int (nI sp), .int z_hints, .int z_hasWidth, .int z_width, .int z_first, .int z_moved, .int z_deepest, .int z_x, .int z_y, .int (nI t), .ref m_stack, .ref m_places, .int (nI d), .ref m_kinds, .ref m_ats, .ref m_ends])), (m_row, .inl (cI, 16384, .inl g_row)), (m_shelves, .inl (cI, 49152, .inl gs)), (m_many, .inl (cI, 3, .inl (upd g_many 1 (nI (mS b))))), (m_widths, .inl (cI, 3, .inl (upd g_widths 1 (nI (b 2)))))] := hD
            refine lv_aload_n hx hb d_Mo_take_115 rfl (lv_at hl 0 rfl) ?_
            refine va_get (D := D) (ci := 8) (v := .ref m_many) (C := R_Mo) (T := F_Mo) (N := 29) hx hb hts i_Mo hown hZ.1 hP 0 rfl rfl 4 (by decide) (hts _ fl_Mo_17) (fun _ h9 => h9) rfl d_Mo_take_116 ?_
            refine lv_iload_n hx hb d_Mo_take_119 rfl (lv_at hl 1 rfl) ?_
            refine va_iald hx hb hZ.1 hP 3 1 rfl rfl (show vp_in (nI 1) 3 from vp_in_nI (by decide) (by decide)) d_Mo_take_120 ?_
            refine lv_tv (y := (upd g_many 1 (nI (mS b))) 1) rfl ?_
            refine lv_tv (y := nI (mS b)) pk_us ?_
            exact t_iret hx hb hr hlk d_Mo_take_121 hP hD hS ⟨_, rfl, rfl, rfl, Or.inr ⟨hsh, rfl, _, _, rfl, fun j hj => hcp.1 j (by omega), hcp.2, fun _ => rfl⟩⟩
        · have n_40 : ¬ (n) ≤ (k) := fun z => c_40 ((nI_leI (a := n) (b := k) (by omega) (by omega)).mpr z)
          refine lv_aload_n hx hb d_Mo_take_43 rfl (lv_at hl 0 rfl) ?_
          refine va_get (D := D) (ci := 8) (v := .ref m_shelves) (C := R_Mo) (T := F_Mo) (N := 29) hx hb hts i_Mo hown hZ.1 hP 0 rfl rfl 3 (by decide) (hts _ fl_Mo_14) (fun _ h9 => h9) rfl d_Mo_take_44 ?_
          refine lv_sipush (v := 16384) hx hb d_Mo_take_47 (by decide) ?_
          refine lv_iload_n hx hb d_Mo_take_50 rfl (lv_at hl 1 rfl) ?_
          refine lv_imul hx hb d_Mo_take_51 ?_
          refine lv_tv (y := 16384) (by decide) ?_
          refine lv_iload_n hx hb d_Mo_take_52 rfl (lv_at hl 2 rfl) ?_
          refine lv_iadd hx hb d_Mo_take_53 ?_
          refine lv_tv (y := nI (16384 + k)) (nI_add 16384 k) ?_
          refine lv_aload_n hx hb d_Mo_take_54 rfl (lv_at hl 0 rfl) ?_
          refine va_get (D := D) (ci := 8) (v := .ref m_row) (C := R_Mo) (T := F_Mo) (N := 29) hx hb hts i_Mo hown hZ.1 hP 0 rfl rfl 2 (by decide) (hts _ fl_Mo_7) (fun _ h9 => h9) rfl d_Mo_take_55 ?_
          refine lv_iload_n hx hb d_Mo_take_58 rfl (lv_at hl 2 rfl) ?_
          refine va_iald hx hb hZ.1 hP 1 1 rfl rfl (vp_in_nI (by omega) (by omega)) d_Mo_take_59 ?_
          refine lv_tv (y := g_row k) (by rw [nI_clamp (by omega)]) ?_
          refine va_iast hx hb hZ.1 hP hD hS 2 1 rfl rfl (vp_in_nI (by omega) (by omega)) d_Mo_take_60 (fun H locs hP hD hS => ?_)
          rw [show ((nI (16384 + k)).toNatClampNeg) = 16384 + k from nI_clamp (by omega)] at hP hD
          have hP : va_P D classes [(mo, .inr (8, [.int 0, .int (nI n), .ref m_row, .ref m_shelves, .ref m_many, .ref m_widths, .int (nI mk), .ref m_mark, .int z_shown, .ref m_shownMark, .int z_wasRun, .int z_wrong, .int z_ended, .int (nI sp), .int z_hints, .int z_hasWidth, .int z_width, .int z_first, .int z_moved, .int z_deepest, .int z_x, .int z_y, .int (nI t), .ref m_stack, .ref m_places, .int (nI d), .ref m_kinds, .ref m_ats, .ref m_ends])), (m_row, .inl (cI, 16384, .inl g_row)), (m_shelves, .inl (cI, 49152, .inl (upd gs (16384 + k) (g_row k)))), (m_many, .inl (cI, 3, .inl g_many)), (m_widths, .inl (cI, 3, .inl g_widths))] H := hP
          have hD : va_D A_ [(mo, .inr (8, [.int 0, .int (nI n), .ref m_row, .ref m_shelves, .ref m_many, .ref m_widths, .int (nI mk), .ref m_mark, .int z_shown, .ref m_shownMark, .int z_wasRun, .int z_wrong, .int z_ended, .int (nI sp), .int z_hints, .int z_hasWidth, .int z_width, .int z_first, .int z_moved, .int z_deepest, .int z_x, .int z_y, .int (nI t), .ref m_stack, .ref m_places, .int (nI d), .ref m_kinds, .ref m_ats, .ref m_ends])), (m_row, .inl (cI, 16384, .inl g_row)), (m_shelves, .inl (cI, 49152, .inl (upd gs (16384 + k) (g_row k)))), (m_many, .inl (cI, 3, .inl g_many)), (m_widths, .inl (cI, 3, .inl g_widths))] := hD
          refine lv_iinc (v := nI (k + 1)) (lv' := [(2, .int (nI (k + 1))), (0, .ref mo), (1, .int 1)]) hx hb d_Mo_take_61 hl (k := 2) rfl (nI_add k 1) (by decide) rfl (fun ls hl => ?_)
          refine lv_goto (tgt := 35) hx hb d_Mo_take_64 (by decide) ?_
          exact ih_35  (k + 1) (upd gs (16384 + k) (g_row k)) _ _ _ ⟨by omega, cp_step hcp (by omega) hn⟩ (by omega) (hP.subm [0, 1, 2, 3, 4] rfl) (hD.sub [0, 1, 2, 3, 4] rfl rfl) hS (lv_sub hl [1, 2, 0] rfl)
    exact lp_35 _ 0 g_shelves _ _ _ ⟨by omega, fun j hj => absurd hj (Nat.not_lt_zero _), fun _ _ => rfl⟩ (Nat.lt_succ_self _) (hP.subm [4, 0, 1, 2, 3] rfl) (hD.sub [4, 0, 1, 2, 3] rfl rfl) hS (lv_sub hl [1, 2, 0] rfl)
  · have hsh : ¬ shOk n b := tF_0.mp c_27
    refine lv_bipush (v := (-2)) hx hb d_Mo_take_30 (by decide) ?_
    exact t_iret hx hb hr hlk d_Mo_take_32 (hP.subm (ws' := [(mo, .inr (8, [.int 0, .int (nI n), .ref m_row, .ref m_shelves, .ref m_many, .ref m_widths, .int (nI mk), .ref m_mark, .int z_shown, .ref m_shownMark, .int z_wasRun, .int z_wrong, .int z_ended, .int (nI sp), .int z_hints, .int z_hasWidth, .int z_width, .int z_first, .int z_moved, .int z_deepest, .int z_x, .int z_y, .int (nI t), .ref m_stack, .ref m_places, .int (nI d), .ref m_kinds, .ref m_ats, .ref m_ends])), (m_row, .inl (cI, 16384, .inl g_row)), (m_shelves, .inl (cI, 49152, .inl g_shelves)), (m_many, .inl (cI, 3, .inl g_many)), (m_widths, .inl (cI, 3, .inl g_widths))]) [4, 0, 1, 2, 3] rfl) (hD.sub (ws' := [(mo, .inr (8, [.int 0, .int (nI n), .ref m_row, .ref m_shelves, .ref m_many, .ref m_widths, .int (nI mk), .ref m_mark, .int z_shown, .ref m_shownMark, .int z_wasRun, .int z_wrong, .int z_ended, .int (nI sp), .int z_hints, .int z_hasWidth, .int z_width, .int z_first, .int z_moved, .int z_deepest, .int z_x, .int z_y, .int (nI t), .ref m_stack, .ref m_places, .int (nI d), .ref m_kinds, .ref m_ats, .ref m_ends])), (m_row, .inl (cI, 16384, .inl g_row)), (m_shelves, .inl (cI, 49152, .inl g_shelves)), (m_many, .inl (cI, 3, .inl g_many)), (m_widths, .inl (cI, 3, .inl g_widths))]) [4, 0, 1, 2, 3] rfl rfl) hS ⟨_, rfl, rfl, rfl, Or.inl ⟨hsh, rfl, rfl⟩⟩
set_option maxHeartbeats 1000000 in
set_option maxRecDepth 100000 in
theorem c_Mo_count_1 (l : Launch) (D : va_G) (cB cI cJ : ClassId) (mo m_row m_shelves m_many m_widths m_mark m_shownMark m_stack m_places m_kinds m_ats m_ends : Nat) (mk sp t d : Nat) (z_fault z_size z_shown z_wasRun z_wrong z_ended z_hints z_hasWidth z_width z_first z_moved z_deepest z_x z_y : Int32) (g_many : Nat → Int32) : Tr l D classes (TY cB cI cJ) gd_tbl nx_tbl y_Mo_count b_Mo_count 2 (some .int) ({ frames := 1, cells := 0, slots := 0, locals := 21 }) [.ref mo, .int 1] [(mo, .inr (8, [.int z_fault, .int z_size, .ref m_row, .ref m_shelves, .ref m_many, .ref m_widths, .int (nI mk), .ref m_mark, .int z_shown, .ref m_shownMark, .int z_wasRun, .int z_wrong, .int z_ended, .int (nI sp), .int z_hints, .int z_hasWidth, .int z_width, .int z_first, .int z_moved, .int z_deepest, .int z_x, .int z_y, .int (nI t), .ref m_stack, .ref m_places, .int (nI d), .ref m_kinds, .ref m_ats, .ref m_ends])), (m_many, .inl (cI, 3, .inl g_many))] (pI0 (fun r w => r = g_many 1 ∧ w = [(mo, .inr (8, [.int 0, .int z_size, .ref m_row, .ref m_shelves, .ref m_many, .ref m_widths, .int (nI mk), .ref m_mark, .int z_shown, .ref m_shownMark, .int z_wasRun, .int z_wrong, .int z_ended, .int (nI sp), .int z_hints, .int z_hasWidth, .int z_width, .int z_first, .int z_moved, .int z_deepest, .int z_x, .int z_y, .int (nI t), .ref m_stack, .ref m_places, .int (nI d), .ref m_kinds, .ref m_ats, .ref m_ends])), (m_many, .inl (cI, 3, .inl g_many))])) := by
  refine Tr.intro (by decide +kernel) nx_ok (Nat.le_of_ble_eq_true rfl) ?_
  intro p_ e_ s_ m_ args_ below_ meth_ c_ A_ ls hx hb hml hown hts hr hlk hnm hZ hP hD hS hl
  have hl : lv_has ls 2 [(0, .ref mo), (1, .int 1)] := hl
  refine lv_aload_n hx hb d_Mo_count_0 rfl (lv_at hl 0 rfl) ?_
  refine lv_iload_n hx hb d_Mo_count_1 rfl (lv_at hl 1 rfl) ?_
  refine lv_if_lt (tgt := 10) hx hb d_Mo_count_2 (by decide) (fun c_2 => absurd c_2 (by decide)) (fun c_2 => ?_)
  clear c_2
  refine lv_iload_n hx hb d_Mo_count_5 rfl (lv_at hl 1 rfl) ?_
  refine lv_iconst (v := 2) hx hb d_Mo_count_6 (by decide) ?_
  refine lv_icmp_le (tgt := 14) hx hb d_Mo_count_7 (by decide) (fun c_7 => ?_) (fun c_7 => absurd (by decide) c_7)
  clear c_7
  refine lv_iconst (v := 0) hx hb d_Mo_count_14 (by decide) ?_
  have hC : Cut [(mo, .inr (8, [.int z_fault, .int z_size, .ref m_row, .ref m_shelves, .ref m_many, .ref m_widths, .int (nI mk), .ref m_mark, .int z_shown, .ref m_shownMark, .int z_wasRun, .int z_wrong, .int z_ended, .int (nI sp), .int z_hints, .int z_hasWidth, .int z_width, .int z_first, .int z_moved, .int z_deepest, .int z_x, .int z_y, .int (nI t), .ref m_stack, .ref m_places, .int (nI d), .ref m_kinds, .ref m_ats, .ref m_ends])), (m_many, .inl (cI, 3, .inl g_many))] [(mo, .inr (8, [.int z_fault, .int z_size, .ref m_row, .ref m_shelves, .ref m_many, .ref m_widths, .int (nI mk), .ref m_mark, .int z_shown, .ref m_shownMark, .int z_wasRun, .int z_wrong, .int z_ended, .int (nI sp), .int z_hints, .int z_hasWidth, .int z_width, .int z_first, .int z_moved, .int z_deepest, .int z_x, .int z_y, .int (nI t), .ref m_stack, .ref m_places, .int (nI d), .ref m_kinds, .ref m_ats, .ref m_ends]))] [(m_many, .inl (cI, 3, .inl g_many))] [0] [1] := ⟨rfl, rfl, rfl, rfl, by decide⟩
  refine goI0 (trV (As := [.int 0]) (rest := []) ⟨hx, hb, hml, hown, hts⟩ gd_good (c_Mo_refused l D cB cI cJ mo m_row m_shelves m_many m_widths m_mark m_shownMark m_stack m_places m_kinds m_ats m_ends mk sp t d z_fault z_size z_shown z_wasRun z_wrong z_ended z_hints z_hasWidth z_width z_first z_moved z_deepest z_x z_y 0) cal_Mo_refused ml_Mo_51 ⟨Nat.le_of_ble_eq_true rfl, Nat.le_of_ble_eq_true rfl⟩ hZ hP hD hC 0 (ci := 8) rfl rfl rfl rfl hl.1 rfl (Nat.le_of_ble_eq_true rfl) d_Mo_count_15 ⟨Nat.le_of_ble_eq_true rfl, Nat.le_of_ble_eq_true rfl⟩) hZ hP hD hS hC (fun r_15 w1 H locs hq hP hD hS => ?_)
  obtain ⟨rq_15, rfl⟩ := hq
  have rq_15 : r_15 = 0 := rq_15
  subst rq_15
  have hP : va_P D classes [(m_many, .inl (cI, 3, .inl g_many)), (mo, .inr (8, [.int 0, .int z_size, .ref m_row, .ref m_shelves, .ref m_many, .ref m_widths, .int (nI mk), .ref m_mark, .int z_shown, .ref m_shownMark, .int z_wasRun, .int z_wrong, .int z_ended, .int (nI sp), .int z_hints, .int z_hasWidth, .int z_width, .int z_first, .int z_moved, .int z_deepest, .int z_x, .int z_y, .int (nI t), .ref m_stack, .ref m_places, .int (nI d), .ref m_kinds, .ref m_ats, .ref m_ends]))] H := hP
  have hD : va_D A_ [(m_many, .inl (cI, 3, .inl g_many)), (mo, .inr (8, [.int 0, .int z_size, .ref m_row, .ref m_shelves, .ref m_many, .ref m_widths, .int (nI mk), .ref m_mark, .int z_shown, .ref m_shownMark, .int z_wasRun, .int z_wrong, .int z_ended, .int (nI sp), .int z_hints, .int z_hasWidth, .int z_width, .int z_first, .int z_moved, .int z_deepest, .int z_x, .int z_y, .int (nI t), .ref m_stack, .ref m_places, .int (nI d), .ref m_kinds, .ref m_ats, .ref m_ends]))] := hD
  refine lv_if_eq (tgt := 25) hx hb d_Mo_count_18 (by decide) (fun c_18 => ?_) (fun c_18 => absurd (by decide) c_18)
  clear c_18
  refine lv_aload_n hx hb d_Mo_count_25 rfl (lv_at hl 0 rfl) ?_
  refine va_get (D := D) (ci := 8) (v := .ref m_many) (C := R_Mo) (T := F_Mo) (N := 29) hx hb hts i_Mo hown hZ.1 hP 1 rfl rfl 4 (by decide) (hts _ fl_Mo_17) (fun _ h9 => h9) rfl d_Mo_count_26 ?_
  refine lv_iload_n hx hb d_Mo_count_29 rfl (lv_at hl 1 rfl) ?_
  refine va_iald hx hb hZ.1 hP 0 1 rfl rfl (show vp_in (nI 1) 3 from vp_in_nI (by decide) (by decide)) d_Mo_count_30 ?_
  refine lv_tv (y := g_many 1) rfl ?_
  exact t_iret hx hb hr hlk d_Mo_count_31 (hP.subm (ws' := [(mo, .inr (8, [.int 0, .int z_size, .ref m_row, .ref m_shelves, .ref m_many, .ref m_widths, .int (nI mk), .ref m_mark, .int z_shown, .ref m_shownMark, .int z_wasRun, .int z_wrong, .int z_ended, .int (nI sp), .int z_hints, .int z_hasWidth, .int z_width, .int z_first, .int z_moved, .int z_deepest, .int z_x, .int z_y, .int (nI t), .ref m_stack, .ref m_places, .int (nI d), .ref m_kinds, .ref m_ats, .ref m_ends])), (m_many, .inl (cI, 3, .inl g_many))]) [1, 0] rfl) (hD.sub (ws' := [(mo, .inr (8, [.int 0, .int z_size, .ref m_row, .ref m_shelves, .ref m_many, .ref m_widths, .int (nI mk), .ref m_mark, .int z_shown, .ref m_shownMark, .int z_wasRun, .int z_wrong, .int z_ended, .int (nI sp), .int z_hints, .int z_hasWidth, .int z_width, .int z_first, .int z_moved, .int z_deepest, .int z_x, .int z_y, .int (nI t), .ref m_stack, .ref m_places, .int (nI d), .ref m_kinds, .ref m_ats, .ref m_ends])), (m_many, .inl (cI, 3, .inl g_many))]) [1, 0] rfl rfl) hS ⟨_, rfl, rfl, rfl, rfl, rfl⟩
set_option maxHeartbeats 1000000 in
set_option maxRecDepth 100000 in
theorem c_Mo_take_2 (l : Launch) (D : va_G) (cB cI cJ : ClassId) (mo m_row m_shelves m_many m_widths m_mark m_shownMark m_stack m_places m_kinds m_ats m_ends : Nat) (mk sp t d : Nat) (z_fault z_size z_shown z_wasRun z_wrong z_ended z_hints z_hasWidth z_width z_first z_moved z_deepest z_x z_y : Int32) (g_row g_shelves g_many g_widths : Nat → Int32) (n : Nat) (b : Nat → Nat) (hn : n ≤ 16384) (hbb : ∀ j, b j ≤ 255) (hrow : rowOk n g_row b) : Tr l D classes (TY cB cI cJ) gd_tbl nx_tbl y_Mo_take b_Mo_take 3 (some .int) ({ frames := 2, cells := 0, slots := 0, locals := 49 }) [.ref mo, .int 2] [(mo, .inr (8, [.int z_fault, .int (nI n), .ref m_row, .ref m_shelves, .ref m_many, .ref m_widths, .int (nI mk), .ref m_mark, .int z_shown, .ref m_shownMark, .int z_wasRun, .int z_wrong, .int z_ended, .int (nI sp), .int z_hints, .int z_hasWidth, .int z_width, .int z_first, .int z_moved, .int z_deepest, .int z_x, .int z_y, .int (nI t), .ref m_stack, .ref m_places, .int (nI d), .ref m_kinds, .ref m_ats, .ref m_ends])), (m_row, .inl (cI, 16384, .inl g_row)), (m_shelves, .inl (cI, 49152, .inl g_shelves)), (m_many, .inl (cI, 3, .inl g_many)), (m_widths, .inl (cI, 3, .inl g_widths))] (pI0 (fun r w => (¬ shOk n b ∧ r = -2 ∧ w = [(mo, .inr (8, [.int 0, .int (nI n), .ref m_row, .ref m_shelves, .ref m_many, .ref m_widths, .int (nI mk), .ref m_mark, .int z_shown, .ref m_shownMark, .int z_wasRun, .int z_wrong, .int z_ended, .int (nI sp), .int z_hints, .int z_hasWidth, .int z_width, .int z_first, .int z_moved, .int z_deepest, .int z_x, .int z_y, .int (nI t), .ref m_stack, .ref m_places, .int (nI d), .ref m_kinds, .ref m_ats, .ref m_ends])), (m_row, .inl (cI, 16384, .inl g_row)), (m_shelves, .inl (cI, 49152, .inl g_shelves)), (m_many, .inl (cI, 3, .inl g_many)), (m_widths, .inl (cI, 3, .inl g_widths))]) ∨ (shOk n b ∧ r = nI (mS b) ∧ ∃ (gs' : Nat → Int32) (wv : Int32), w = [(mo, .inr (8, [.int 0, .int (nI n), .ref m_row, .ref m_shelves, .ref m_many, .ref m_widths, .int (nI mk), .ref m_mark, .int z_shown, .ref m_shownMark, .int z_wasRun, .int z_wrong, .int z_ended, .int (nI sp), .int z_hints, .int z_hasWidth, .int z_width, .int z_first, .int z_moved, .int z_deepest, .int z_x, .int z_y, .int (nI t), .ref m_stack, .ref m_places, .int (nI d), .ref m_kinds, .ref m_ats, .ref m_ends])), (m_row, .inl (cI, 16384, .inl g_row)), (m_shelves, .inl (cI, 49152, .inl gs')), (m_many, .inl (cI, 3, .inl (upd g_many 2 (nI (mS b))))), (m_widths, .inl (cI, 3, .inl (upd g_widths 2 wv)))] ∧ (∀ j, j < n → gs' (16384 * 2 + j) = g_row j) ∧ (∀ i, (i < 16384 * 2 ∨ 16384 * 2 + 16384 ≤ i) → gs' i = g_shelves i) ∧ (0 < mS b → wv = nI (b 2))))) := by
  refine Tr.intro (by decide +kernel) nx_ok (Nat.le_of_ble_eq_true rfl) ?_
  intro p_ e_ s_ m_ args_ below_ meth_ c_ A_ ls hx hb hml hown hts hr hlk hnm hZ hP hD hS hl
  have hl : lv_has ls 3 [(0, .ref mo), (1, .int 2)] := hl
  have hms := mS_le hbb
  have hb0 := hbb 0
  have hb1 := hbb 1
  refine lv_aload_n hx hb d_Mo_take_0 rfl (lv_at hl 0 rfl) ?_
  refine lv_iload_n hx hb d_Mo_take_1 rfl (lv_at hl 1 rfl) ?_
  refine lv_if_lt (tgt := 10) hx hb d_Mo_take_2 (by decide) (fun c_2 => absurd c_2 (by decide)) (fun c_2 => ?_)
  clear c_2
  refine lv_iload_n hx hb d_Mo_take_5 rfl (lv_at hl 1 rfl) ?_
  refine lv_iconst (v := 2) hx hb d_Mo_take_6 (by decide) ?_
  refine lv_icmp_le (tgt := 14) hx hb d_Mo_take_7 (by decide) (fun c_7 => ?_) (fun c_7 => absurd (by decide) c_7)
  clear c_7
  refine lv_iconst (v := 0) hx hb d_Mo_take_14 (by decide) ?_
  have hC : Cut [(mo, .inr (8, [.int z_fault, .int (nI n), .ref m_row, .ref m_shelves, .ref m_many, .ref m_widths, .int (nI mk), .ref m_mark, .int z_shown, .ref m_shownMark, .int z_wasRun, .int z_wrong, .int z_ended, .int (nI sp), .int z_hints, .int z_hasWidth, .int z_width, .int z_first, .int z_moved, .int z_deepest, .int z_x, .int z_y, .int (nI t), .ref m_stack, .ref m_places, .int (nI d), .ref m_kinds, .ref m_ats, .ref m_ends])), (m_row, .inl (cI, 16384, .inl g_row)), (m_shelves, .inl (cI, 49152, .inl g_shelves)), (m_many, .inl (cI, 3, .inl g_many)), (m_widths, .inl (cI, 3, .inl g_widths))] [(mo, .inr (8, [.int z_fault, .int (nI n), .ref m_row, .ref m_shelves, .ref m_many, .ref m_widths, .int (nI mk), .ref m_mark, .int z_shown, .ref m_shownMark, .int z_wasRun, .int z_wrong, .int z_ended, .int (nI sp), .int z_hints, .int z_hasWidth, .int z_width, .int z_first, .int z_moved, .int z_deepest, .int z_x, .int z_y, .int (nI t), .ref m_stack, .ref m_places, .int (nI d), .ref m_kinds, .ref m_ats, .ref m_ends]))] [(m_row, .inl (cI, 16384, .inl g_row)), (m_shelves, .inl (cI, 49152, .inl g_shelves)), (m_many, .inl (cI, 3, .inl g_many)), (m_widths, .inl (cI, 3, .inl g_widths))] [0] [1, 2, 3, 4] := ⟨rfl, rfl, rfl, rfl, by decide⟩
  refine goI0 (trV (As := [.int 0]) (rest := []) ⟨hx, hb, hml, hown, hts⟩ gd_good (c_Mo_refused l D cB cI cJ mo m_row m_shelves m_many m_widths m_mark m_shownMark m_stack m_places m_kinds m_ats m_ends mk sp t d z_fault (nI n) z_shown z_wasRun z_wrong z_ended z_hints z_hasWidth z_width z_first z_moved z_deepest z_x z_y 0) cal_Mo_refused ml_Mo_51 ⟨Nat.le_of_ble_eq_true rfl, Nat.le_of_ble_eq_true rfl⟩ hZ hP hD hC 0 (ci := 8) rfl rfl rfl rfl hl.1 rfl (Nat.le_of_ble_eq_true rfl) d_Mo_take_15 ⟨Nat.le_of_ble_eq_true rfl, Nat.le_of_ble_eq_true rfl⟩) hZ hP hD hS hC (fun r_15 w1 H locs hq hP hD hS => ?_)
  obtain ⟨rq_15, rfl⟩ := hq
  have rq_15 : r_15 = 0 := rq_15
  subst rq_15
  have hP : va_P D classes [(m_row, .inl (cI, 16384, .inl g_row)), (m_shelves, .inl (cI, 49152, .inl g_shelves)), (m_many, .inl (cI, 3, .inl g_many)), (m_widths, .inl (cI, 3, .inl g_widths)), (mo, .inr (8, [.int 0, .int (nI n), .ref m_row, .ref m_shelves, .ref m_many, .ref m_widths, .int (nI mk), .ref m_mark, .int z_shown, .ref m_shownMark, .int z_wasRun, .int z_wrong, .int z_ended, .int (nI sp), .int z_hints, .int z_hasWidth, .int z_width, .int z_first, .int z_moved, .int z_deepest, .int z_x, .int z_y, .int (nI t), .ref m_stack, .ref m_places, .int (nI d), .ref m_kinds, .ref m_ats, .ref m_ends]))] H := hP
  have hD : va_D A_ [(m_row, .inl (cI, 16384, .inl g_row)), (m_shelves, .inl (cI, 49152, .inl g_shelves)), (m_many, .inl (cI, 3, .inl g_many)), (m_widths, .inl (cI, 3, .inl g_widths)), (mo, .inr (8, [.int 0, .int (nI n), .ref m_row, .ref m_shelves, .ref m_many, .ref m_widths, .int (nI mk), .ref m_mark, .int z_shown, .ref m_shownMark, .int z_wasRun, .int z_wrong, .int z_ended, .int (nI sp), .int z_hints, .int z_hasWidth, .int z_width, .int z_first, .int z_moved, .int z_deepest, .int z_x, .int z_y, .int (nI t), .ref m_stack, .ref m_places, .int (nI d), .ref m_kinds, .ref m_ats, .ref m_ends]))] := hD
  refine lv_if_eq (tgt := 23) hx hb d_Mo_take_18 (by decide) (fun c_18 => ?_) (fun c_18 => absurd (by decide) c_18)
  clear c_18
  refine lv_aload_n hx hb d_Mo_take_23 rfl (lv_at hl 0 rfl) ?_
  refine roV (As := []) (rest := []) ⟨hx, hb, hml, hown, hts⟩ gd_good (c_Mo_isShelf l D cB cI cJ mo m_row m_shelves m_many m_widths m_mark m_shownMark m_stack m_places m_kinds m_ats m_ends mk sp t d 0 (nI n) z_shown z_wasRun z_wrong z_ended z_hints z_hasWidth z_width z_first z_moved z_deepest z_x z_y g_row n b hn hbb hrow) cal_Mo_isShelf ml_Mo_61 ⟨Nat.le_of_ble_eq_true rfl, Nat.le_of_ble_eq_true rfl⟩ hZ hP hD (isC := [4, 0]) ⟨rfl, rfl⟩ 4 (ci := 8) rfl rfl rfl rfl hl.1 rfl (Nat.le_of_ble_eq_true rfl) d_Mo_take_24 ⟨Nat.le_of_ble_eq_true rfl, Nat.le_of_ble_eq_true rfl⟩ (fun v hv => ?_)
  subst hv
  refine lv_if_ne (tgt := 33) hx hb d_Mo_take_27 (by decide) (fun c_27 => ?_) (fun c_27 => ?_)
  · have hsh : shOk n b := Classical.byContradiction (fun z => c_27 (tF_0.mpr z))
    have hn2 := hsh.1
    refine lv_iconst (v := 0) hx hb d_Mo_take_33 (by decide) ?_
    refine lv_istore_n (lv' := [(2, .int 0), (0, .ref mo), (1, .int 2)]) hx hb d_Mo_take_34 rfl hl (by decide) rfl (fun ls hl => ?_)
    have lp_35 : ∀ (fu : Nat) (k : Nat) (gs : Nat → Int32) (H : Heap) (locs : List Loc) (ls : Array Slot), (k ≤ n ∧ ((∀ j, j < k → gs (16384 * 2 + j) = g_row j) ∧ ∀ i, (i < 16384 * 2 ∨ 16384 * 2 + 16384 ≤ i) → gs i = g_shelves i)) → (n - k) < fu → va_P D classes [(mo, .inr (8, [.int 0, .int (nI n), .ref m_row, .ref m_shelves, .ref m_many, .ref m_widths, .int (nI mk), .ref m_mark, .int z_shown, .ref m_shownMark, .int z_wasRun, .int z_wrong, .int z_ended, .int (nI sp), .int z_hints, .int z_hasWidth, .int z_width, .int z_first, .int z_moved, .int z_deepest, .int z_x, .int z_y, .int (nI t), .ref m_stack, .ref m_places, .int (nI d), .ref m_kinds, .ref m_ats, .ref m_ends])), (m_row, .inl (cI, 16384, .inl g_row)), (m_shelves, .inl (cI, 49152, .inl gs)), (m_many, .inl (cI, 3, .inl g_many)), (m_widths, .inl (cI, 3, .inl g_widths))] H → va_D A_ [(mo, .inr (8, [.int 0, .int (nI n), .ref m_row, .ref m_shelves, .ref m_many, .ref m_widths, .int (nI mk), .ref m_mark, .int z_shown, .ref m_shownMark, .int z_wasRun, .int z_wrong, .int z_ended, .int (nI sp), .int z_hints, .int z_hasWidth, .int z_width, .int z_first, .int z_moved, .int z_deepest, .int z_x, .int z_y, .int (nI t), .ref m_stack, .ref m_places, .int (nI d), .ref m_kinds, .ref m_ats, .ref m_ends])), (m_row, .inl (cI, 16384, .inl g_row)), (m_shelves, .inl (cI, 49152, .inl gs)), (m_many, .inl (cI, 3, .inl g_many)), (m_widths, .inl (cI, 3, .inl g_widths))] → va_S A_ s_.heap H locs → lv_has ls 3 [(0, .ref mo), (1, .int 2), (2, .int (nI k))] → W p_ l e_ ({ frames := 2, cells := 0, slots := 0, locals := 49 }) s_ m_ args_ below_ meth_ c_ H locs (0) (0) (MQT below_ D classes A_ (pI0 (fun r w => (¬ shOk n b ∧ r = -2 ∧ w = [(mo, .inr (8, [.int 0, .int (nI n), .ref m_row, .ref m_shelves, .ref m_many, .ref m_widths, .int (nI mk), .ref m_mark, .int z_shown, .ref m_shownMark, .int z_wasRun, .int z_wrong, .int z_ended, .int (nI sp), .int z_hints, .int z_hasWidth, .int z_width, .int z_first, .int z_moved, .int z_deepest, .int z_x, .int z_y, .int (nI t), .ref m_stack, .ref m_places, .int (nI d), .ref m_kinds, .ref m_ats, .ref m_ends])), (m_row, .inl (cI, 16384, .inl g_row)), (m_shelves, .inl (cI, 49152, .inl g_shelves)), (m_many, .inl (cI, 3, .inl g_many)), (m_widths, .inl (cI, 3, .inl g_widths))]) ∨ (shOk n b ∧ r = nI (mS b) ∧ ∃ (gs' : Nat → Int32) (wv : Int32), w = [(mo, .inr (8, [.int 0, .int (nI n), .ref m_row, .ref m_shelves, .ref m_many, .ref m_widths, .int (nI mk), .ref m_mark, .int z_shown, .ref m_shownMark, .int z_wasRun, .int z_wrong, .int z_ended, .int (nI sp), .int z_hints, .int z_hasWidth, .int z_width, .int z_first, .int z_moved, .int z_deepest, .int z_x, .int z_y, .int (nI t), .ref m_stack, .ref m_places, .int (nI d), .ref m_kinds, .ref m_ats, .ref m_ends])), (m_row, .inl (cI, 16384, .inl g_row)), (m_shelves, .inl (cI, 49152, .inl gs')), (m_many, .inl (cI, 3, .inl (upd g_many 2 (nI (mS b))))), (m_widths, .inl (cI, 3, .inl (upd g_widths 2 wv)))] ∧ (∀ j, j < n → gs' (16384 * 2 + j) = g_row j) ∧ (∀ i, (i < 16384 * 2 ∨ 16384 * 2 + 16384 ≤ i) → gs' i = g_shelves i) ∧ (0 < mS b → wv = nI (b 2))))) s_) (F0 m_ 35 ls []) := by
      intro fu
      induction fu with
      | zero => intro k gs H locs ls hinv hfu; exact absurd hfu (Nat.not_lt_zero _)
      | succ fu ih_35 =>
        intro k gs H locs ls hinv hfu hP hD hS hl
        obtain ⟨hkn, hcp⟩ := hinv
        refine lv_iload_n hx hb d_Mo_take_35 rfl (lv_at hl 2 rfl) ?_
        refine lv_aload_n hx hb d_Mo_take_36 rfl (lv_at hl 0 rfl) ?_
        refine va_get (D := D) (ci := 8) (v := .int (nI n)) (C := R_Mo) (T := F_Mo) (N := 29) hx hb hts i_Mo hown hZ.1 hP 0 rfl rfl 1 (by decide) (hts _ fl_Mo_48) (fun _ h9 => h9) rfl d_Mo_take_37 ?_
        refine lv_icmp_ge (tgt := 67) hx hb d_Mo_take_40 (by decide) (fun c_40 => ?_) (fun c_40 => ?_)
        · have n_40 : (n) ≤ (k) := (nI_leI (a := n) (b := k) (by omega) (by omega)).mp c_40
          refine lv_aload_n hx hb d_Mo_take_67 rfl (lv_at hl 0 rfl) ?_
          refine va_get (D := D) (ci := 8) (v := .ref m_many) (C := R_Mo) (T := F_Mo) (N := 29) hx hb hts i_Mo hown hZ.1 hP 0 rfl rfl 4 (by decide) (hts _ fl_Mo_17) (fun _ h9 => h9) rfl d_Mo_take_68 ?_
          refine lv_iload_n hx hb d_Mo_take_71 rfl (lv_at hl 1 rfl) ?_
          refine lv_sipush (v := 256) hx hb d_Mo_take_72 (by decide) ?_
          refine lv_aload_n hx hb d_Mo_take_75 rfl (lv_at hl 0 rfl) ?_
          refine va_get (D := D) (ci := 8) (v := .ref m_row) (C := R_Mo) (T := F_Mo) (N := 29) hx hb hts i_Mo hown hZ.1 hP 0 rfl rfl 2 (by decide) (hts _ fl_Mo_7) (fun _ h9 => h9) rfl d_Mo_take_76 ?_
          refine lv_iconst (v := 0) hx hb d_Mo_take_79 (by decide) ?_
          refine va_iald hx hb hZ.1 hP 1 1 rfl rfl (show vp_in (nI 0) 16384 from vp_in_nI (by decide) (by decide)) d_Mo_take_80 ?_
          refine lv_tv (y := g_row 0) rfl ?_
          refine lv_tv (y := nI (b 0)) (hrow 0 (by omega)) ?_
          refine lv_imul hx hb d_Mo_take_81 ?_
          refine lv_tv (y := nI (256 * (b 0))) (pk_mul 256 (b 0)) ?_
          refine lv_aload_n hx hb d_Mo_take_82 rfl (lv_at hl 0 rfl) ?_
          refine va_get (D := D) (ci := 8) (v := .ref m_row) (C := R_Mo) (T := F_Mo) (N := 29) hx hb hts i_Mo hown hZ.1 hP 0 rfl rfl 2 (by decide) (hts _ fl_Mo_7) (fun _ h9 => h9) rfl d_Mo_take_83 ?_
          refine lv_iconst (v := 1) hx hb d_Mo_take_86 (by decide) ?_
          refine va_iald hx hb hZ.1 hP 1 1 rfl rfl (show vp_in (nI 1) 16384 from vp_in_nI (by decide) (by decide)) d_Mo_take_87 ?_
          refine lv_tv (y := g_row 1) rfl ?_
          refine lv_tv (y := nI (b 1)) (hrow 1 (by omega)) ?_
          refine lv_iadd hx hb d_Mo_take_88 ?_
          refine lv_tv (y := nI (256 * (b 0) + (b 1))) (nI_add (256 * (b 0)) (b 1)) ?_
          refine lv_tv (y := nI (mS b)) rfl ?_
          refine va_iast hx hb hZ.1 hP hD hS 3 1 rfl rfl (show vp_in (nI 2) 3 from vp_in_nI (by decide) (by decide)) d_Mo_take_89 (fun H locs hP hD hS => ?_)
          have hP : va_P D classes [(mo, .inr (8, [.int 0, .int (nI n), .ref m_row, .ref m_shelves, .ref m_many, .ref m_widths, .int (nI mk), .ref m_mark, .int z_shown, .ref m_shownMark, .int z_wasRun, .int z_wrong, .int z_ended, .int (nI sp), .int z_hints, .int z_hasWidth, .int z_width, .int z_first, .int z_moved, .int z_deepest, .int z_x, .int z_y, .int (nI t), .ref m_stack, .ref m_places, .int (nI d), .ref m_kinds, .ref m_ats, .ref m_ends])), (m_row, .inl (cI, 16384, .inl g_row)), (m_shelves, .inl (cI, 49152, .inl gs)), (m_many, .inl (cI, 3, .inl (upd g_many 2 (nI (mS b))))), (m_widths, .inl (cI, 3, .inl g_widths))] H := hP
          have hD : va_D A_ [(mo, .inr (8, [.int 0, .int (nI n), .ref m_row, .ref m_shelves, .ref m_many, .ref m_widths, .int (nI mk), .ref m_mark, .int z_shown, .ref m_shownMark, .int z_wasRun, .int z_wrong, .int z_ended, .int (nI sp), .int z_hints, .int z_hasWidth, .int z_width, .int z_first, .int z_moved, .int z_deepest, .int z_x, .int z_y, .int (nI t), .ref m_stack, .ref m_places, .int (nI d), .ref m_kinds, .ref m_ats, .ref m_ends])), (m_row, .inl (cI, 16384, .inl g_row)), (m_shelves, .inl (cI, 49152, .inl gs)), (m_many, .inl (cI, 3, .inl (upd g_many 2 (nI (mS b))))), (m_widths, .inl (cI, 3, .inl g_widths))] := hD
          refine lv_aload_n hx hb d_Mo_take_90 rfl (lv_at hl 0 rfl) ?_
          refine va_get (D := D) (ci := 8) (v := .ref m_widths) (C := R_Mo) (T := F_Mo) (N := 29) hx hb hts i_Mo hown hZ.1 hP 0 rfl rfl 5 (by decide) (hts _ fl_Mo_20) (fun _ h9 => h9) rfl d_Mo_take_91 ?_
          refine lv_iload_n hx hb d_Mo_take_94 rfl (lv_at hl 1 rfl) ?_
          refine lv_aload_n hx hb d_Mo_take_95 rfl (lv_at hl 0 rfl) ?_
          refine va_get (D := D) (ci := 8) (v := .ref m_many) (C := R_Mo) (T := F_Mo) (N := 29) hx hb hts i_Mo hown hZ.1 hP 0 rfl rfl 4 (by decide) (hts _ fl_Mo_17) (fun _ h9 => h9) rfl d_Mo_take_96 ?_
          refine lv_iload_n hx hb d_Mo_take_99 rfl (lv_at hl 1 rfl) ?_
          refine va_iald hx hb hZ.1 hP 3 1 rfl rfl (show vp_in (nI 2) 3 from vp_in_nI (by decide) (by decide)) d_Mo_take_100 ?_
          refine lv_tv (y := (upd g_many 2 (nI (mS b))) 2) rfl ?_
          refine lv_tv (y := nI (mS b)) pk_us ?_
          refine lv_if_le (tgt := 113) hx hb d_Mo_take_101 (by decide) (fun c_101 => ?_) (fun c_101 => ?_)
          · have n_101 : (mS b) ≤ (0) := (nI_leI (a := mS b) (b := 0) (by omega) (by omega)).mp c_101
            refine lv_iconst (v := 0) hx hb d_Mo_take_113 (by decide) ?_
            refine va_iast hx hb hZ.1 hP hD hS 4 1 rfl rfl (show vp_in (nI 2) 3 from vp_in_nI (by decide) (by decide)) d_Mo_take_114 (fun H locs hP hD hS => ?_)
            have hP : va_P D classes [(mo, .inr (8, [.int 0, .int (nI n), .ref m_row, .ref m_shelves, .ref m_many, .ref m_widths, .int (nI mk), .ref m_mark, .int z_shown, .ref m_shownMark, .int z_wasRun, .int z_wrong, .int z_ended, .int (nI sp), .int z_hints, .int z_hasWidth, .int z_width, .int z_first, .int z_moved, .int z_deepest, .int z_x, .int z_y, .int (nI t), .ref m_stack, .ref m_places, .int (nI d), .ref m_kinds, .ref m_ats, .ref m_ends])), (m_row, .inl (cI, 16384, .inl g_row)), (m_shelves, .inl (cI, 49152, .inl gs)), (m_many, .inl (cI, 3, .inl (upd g_many 2 (nI (mS b))))), (m_widths, .inl (cI, 3, .inl (upd g_widths 2 0)))] H := hP
            have hD : va_D A_ [(mo, .inr (8, [.int 0, .int (nI n), .ref m_row, .ref m_shelves, .ref m_many, .ref m_widths, .int (nI mk), .ref m_mark, .int z_shown, .ref m_shownMark, .int z_wasRun, .int z_wrong, .int z_ended, .int (nI sp), .int z_hints, .int z_hasWidth, .int z_width, .int z_first, .int z_moved, .int z_deepest, .int z_x, .int z_y, .int (nI t), .ref m_stack, .ref m_places, .int (nI d), .ref m_kinds, .ref m_ats, .ref m_ends])), (m_row, .inl (cI, 16384, .inl g_row)), (m_shelves, .inl (cI, 49152, .inl gs)), (m_many, .inl (cI, 3, .inl (upd g_many 2 (nI (mS b))))), (m_widths, .inl (cI, 3, .inl (upd g_widths 2 0)))] := hD
            refine lv_aload_n hx hb d_Mo_take_115 rfl (lv_at hl 0 rfl) ?_
            refine va_get (D := D) (ci := 8) (v := .ref m_many) (C := R_Mo) (T := F_Mo) (N := 29) hx hb hts i_Mo hown hZ.1 hP 0 rfl rfl 4 (by decide) (hts _ fl_Mo_17) (fun _ h9 => h9) rfl d_Mo_take_116 ?_
            refine lv_iload_n hx hb d_Mo_take_119 rfl (lv_at hl 1 rfl) ?_
            refine va_iald hx hb hZ.1 hP 3 1 rfl rfl (show vp_in (nI 2) 3 from vp_in_nI (by decide) (by decide)) d_Mo_take_120 ?_
            refine lv_tv (y := (upd g_many 2 (nI (mS b))) 2) rfl ?_
            refine lv_tv (y := nI (mS b)) pk_us ?_
            exact t_iret hx hb hr hlk d_Mo_take_121 hP hD hS ⟨_, rfl, rfl, rfl, Or.inr ⟨hsh, rfl, _, _, rfl, fun j hj => hcp.1 j (by omega), hcp.2, fun z => by omega⟩⟩
          · have n_101 : ¬ (mS b) ≤ (0) := fun z => c_101 ((nI_leI (a := mS b) (b := 0) (by omega) (by omega)).mpr z)
            refine lv_aload_n hx hb d_Mo_take_104 rfl (lv_at hl 0 rfl) ?_
            refine va_get (D := D) (ci := 8) (v := .ref m_row) (C := R_Mo) (T := F_Mo) (N := 29) hx hb hts i_Mo hown hZ.1 hP 0 rfl rfl 2 (by decide) (hts _ fl_Mo_7) (fun _ h9 => h9) rfl d_Mo_take_105 ?_
            refine lv_iconst (v := 2) hx hb d_Mo_take_108 (by decide) ?_
            refine va_iald hx hb hZ.1 hP 1 1 rfl rfl (show vp_in (nI 2) 16384 from vp_in_nI (by decide) (by decide)) d_Mo_take_109 ?_
            refine lv_tv (y := g_row 2) rfl ?_
            refine lv_tv (y := nI (b 2)) (hrow 2 (by rcases hsh.2 with z | ⟨z1, z2, z3, z4, z5⟩ <;> omega)) ?_
            refine lv_goto (tgt := 114) hx hb d_Mo_take_110 (by decide) ?_
            refine va_iast hx hb hZ.1 hP hD hS 4 1 rfl rfl (show vp_in (nI 2) 3 from vp_in_nI (by decide) (by decide)) d_Mo_take_114 (fun H locs hP hD hS => ?_)
            have hP : va_P D classes [(mo, .inr (8, [.int 0, .int (nI n), .ref m_row, .ref m_shelves, .ref m_many, .ref m_widths, .int (nI mk), .ref m_mark, .int z_shown, .ref m_shownMark, .int z_wasRun, .int z_wrong, .int z_ended, .int (nI sp), .int z_hints, .int z_hasWidth, .int z_width, .int z_first, .int z_moved, .int z_deepest, .int z_x, .int z_y, .int (nI t), .ref m_stack, .ref m_places, .int (nI d), .ref m_kinds, .ref m_ats, .ref m_ends])), (m_row, .inl (cI, 16384, .inl g_row)), (m_shelves, .inl (cI, 49152, .inl gs)), (m_many, .inl (cI, 3, .inl (upd g_many 2 (nI (mS b))))), (m_widths, .inl (cI, 3, .inl (upd g_widths 2 (nI (b 2)))))] H := hP
            have hD : va_D A_ [(mo, .inr (8, [.int 0, .int (nI n), .ref m_row, .ref m_shelves, .ref m_many, .ref m_widths, .int (nI mk), .ref m_mark, .int z_shown, .ref m_shownMark, .int z_wasRun, .int z_wrong, .int z_ended, .int (nI sp), .int z_hints, .int z_hasWidth, .int z_width, .int z_first, .int z_moved, .int z_deepest, .int z_x, .int z_y, .int (nI t), .ref m_stack, .ref m_places, .int (nI d), .ref m_kinds, .ref m_ats, .ref m_ends])), (m_row, .inl (cI, 16384, .inl g_row)), (m_shelves, .inl (cI, 49152, .inl gs)), (m_many, .inl (cI, 3, .inl (upd g_many 2 (nI (mS b))))), (m_widths, .inl (cI, 3, .inl (upd g_widths 2 (nI (b 2)))))] := hD
            refine lv_aload_n hx hb d_Mo_take_115 rfl (lv_at hl 0 rfl) ?_
            refine va_get (D := D) (ci := 8) (v := .ref m_many) (C := R_Mo) (T := F_Mo) (N := 29) hx hb hts i_Mo hown hZ.1 hP 0 rfl rfl 4 (by decide) (hts _ fl_Mo_17) (fun _ h9 => h9) rfl d_Mo_take_116 ?_
            refine lv_iload_n hx hb d_Mo_take_119 rfl (lv_at hl 1 rfl) ?_
            refine va_iald hx hb hZ.1 hP 3 1 rfl rfl (show vp_in (nI 2) 3 from vp_in_nI (by decide) (by decide)) d_Mo_take_120 ?_
            refine lv_tv (y := (upd g_many 2 (nI (mS b))) 2) rfl ?_
            refine lv_tv (y := nI (mS b)) pk_us ?_
            exact t_iret hx hb hr hlk d_Mo_take_121 hP hD hS ⟨_, rfl, rfl, rfl, Or.inr ⟨hsh, rfl, _, _, rfl, fun j hj => hcp.1 j (by omega), hcp.2, fun _ => rfl⟩⟩
        · have n_40 : ¬ (n) ≤ (k) := fun z => c_40 ((nI_leI (a := n) (b := k) (by omega) (by omega)).mpr z)
          refine lv_aload_n hx hb d_Mo_take_43 rfl (lv_at hl 0 rfl) ?_
          refine va_get (D := D) (ci := 8) (v := .ref m_shelves) (C := R_Mo) (T := F_Mo) (N := 29) hx hb hts i_Mo hown hZ.1 hP 0 rfl rfl 3 (by decide) (hts _ fl_Mo_14) (fun _ h9 => h9) rfl d_Mo_take_44 ?_
          refine lv_sipush (v := 16384) hx hb d_Mo_take_47 (by decide) ?_
          refine lv_iload_n hx hb d_Mo_take_50 rfl (lv_at hl 1 rfl) ?_
          refine lv_imul hx hb d_Mo_take_51 ?_
          refine lv_tv (y := 32768) (by decide) ?_
          refine lv_iload_n hx hb d_Mo_take_52 rfl (lv_at hl 2 rfl) ?_
          refine lv_iadd hx hb d_Mo_take_53 ?_
          refine lv_tv (y := nI (32768 + k)) (nI_add 32768 k) ?_
          refine lv_aload_n hx hb d_Mo_take_54 rfl (lv_at hl 0 rfl) ?_
          refine va_get (D := D) (ci := 8) (v := .ref m_row) (C := R_Mo) (T := F_Mo) (N := 29) hx hb hts i_Mo hown hZ.1 hP 0 rfl rfl 2 (by decide) (hts _ fl_Mo_7) (fun _ h9 => h9) rfl d_Mo_take_55 ?_
          refine lv_iload_n hx hb d_Mo_take_58 rfl (lv_at hl 2 rfl) ?_
          refine va_iald hx hb hZ.1 hP 1 1 rfl rfl (vp_in_nI (by omega) (by omega)) d_Mo_take_59 ?_
          refine lv_tv (y := g_row k) (by rw [nI_clamp (by omega)]) ?_
          refine va_iast hx hb hZ.1 hP hD hS 2 1 rfl rfl (vp_in_nI (by omega) (by omega)) d_Mo_take_60 (fun H locs hP hD hS => ?_)
          rw [show ((nI (32768 + k)).toNatClampNeg) = 32768 + k from nI_clamp (by omega)] at hP hD
          have hP : va_P D classes [(mo, .inr (8, [.int 0, .int (nI n), .ref m_row, .ref m_shelves, .ref m_many, .ref m_widths, .int (nI mk), .ref m_mark, .int z_shown, .ref m_shownMark, .int z_wasRun, .int z_wrong, .int z_ended, .int (nI sp), .int z_hints, .int z_hasWidth, .int z_width, .int z_first, .int z_moved, .int z_deepest, .int z_x, .int z_y, .int (nI t), .ref m_stack, .ref m_places, .int (nI d), .ref m_kinds, .ref m_ats, .ref m_ends])), (m_row, .inl (cI, 16384, .inl g_row)), (m_shelves, .inl (cI, 49152, .inl (upd gs (32768 + k) (g_row k)))), (m_many, .inl (cI, 3, .inl g_many)), (m_widths, .inl (cI, 3, .inl g_widths))] H := hP
          have hD : va_D A_ [(mo, .inr (8, [.int 0, .int (nI n), .ref m_row, .ref m_shelves, .ref m_many, .ref m_widths, .int (nI mk), .ref m_mark, .int z_shown, .ref m_shownMark, .int z_wasRun, .int z_wrong, .int z_ended, .int (nI sp), .int z_hints, .int z_hasWidth, .int z_width, .int z_first, .int z_moved, .int z_deepest, .int z_x, .int z_y, .int (nI t), .ref m_stack, .ref m_places, .int (nI d), .ref m_kinds, .ref m_ats, .ref m_ends])), (m_row, .inl (cI, 16384, .inl g_row)), (m_shelves, .inl (cI, 49152, .inl (upd gs (32768 + k) (g_row k)))), (m_many, .inl (cI, 3, .inl g_many)), (m_widths, .inl (cI, 3, .inl g_widths))] := hD
          refine lv_iinc (v := nI (k + 1)) (lv' := [(2, .int (nI (k + 1))), (0, .ref mo), (1, .int 2)]) hx hb d_Mo_take_61 hl (k := 2) rfl (nI_add k 1) (by decide) rfl (fun ls hl => ?_)
          refine lv_goto (tgt := 35) hx hb d_Mo_take_64 (by decide) ?_
          exact ih_35  (k + 1) (upd gs (32768 + k) (g_row k)) _ _ _ ⟨by omega, cp_step hcp (by omega) hn⟩ (by omega) (hP.subm [0, 1, 2, 3, 4] rfl) (hD.sub [0, 1, 2, 3, 4] rfl rfl) hS (lv_sub hl [1, 2, 0] rfl)
    exact lp_35 _ 0 g_shelves _ _ _ ⟨by omega, fun j hj => absurd hj (Nat.not_lt_zero _), fun _ _ => rfl⟩ (Nat.lt_succ_self _) (hP.subm [4, 0, 1, 2, 3] rfl) (hD.sub [4, 0, 1, 2, 3] rfl rfl) hS (lv_sub hl [1, 2, 0] rfl)
  · have hsh : ¬ shOk n b := tF_0.mp c_27
    refine lv_bipush (v := (-2)) hx hb d_Mo_take_30 (by decide) ?_
    exact t_iret hx hb hr hlk d_Mo_take_32 (hP.subm (ws' := [(mo, .inr (8, [.int 0, .int (nI n), .ref m_row, .ref m_shelves, .ref m_many, .ref m_widths, .int (nI mk), .ref m_mark, .int z_shown, .ref m_shownMark, .int z_wasRun, .int z_wrong, .int z_ended, .int (nI sp), .int z_hints, .int z_hasWidth, .int z_width, .int z_first, .int z_moved, .int z_deepest, .int z_x, .int z_y, .int (nI t), .ref m_stack, .ref m_places, .int (nI d), .ref m_kinds, .ref m_ats, .ref m_ends])), (m_row, .inl (cI, 16384, .inl g_row)), (m_shelves, .inl (cI, 49152, .inl g_shelves)), (m_many, .inl (cI, 3, .inl g_many)), (m_widths, .inl (cI, 3, .inl g_widths))]) [4, 0, 1, 2, 3] rfl) (hD.sub (ws' := [(mo, .inr (8, [.int 0, .int (nI n), .ref m_row, .ref m_shelves, .ref m_many, .ref m_widths, .int (nI mk), .ref m_mark, .int z_shown, .ref m_shownMark, .int z_wasRun, .int z_wrong, .int z_ended, .int (nI sp), .int z_hints, .int z_hasWidth, .int z_width, .int z_first, .int z_moved, .int z_deepest, .int z_x, .int z_y, .int (nI t), .ref m_stack, .ref m_places, .int (nI d), .ref m_kinds, .ref m_ats, .ref m_ends])), (m_row, .inl (cI, 16384, .inl g_row)), (m_shelves, .inl (cI, 49152, .inl g_shelves)), (m_many, .inl (cI, 3, .inl g_many)), (m_widths, .inl (cI, 3, .inl g_widths))]) [4, 0, 1, 2, 3] rfl rfl) hS ⟨_, rfl, rfl, rfl, Or.inl ⟨hsh, rfl, rfl⟩⟩
set_option maxHeartbeats 1000000 in
set_option maxRecDepth 100000 in
theorem c_Mo_count_2 (l : Launch) (D : va_G) (cB cI cJ : ClassId) (mo m_row m_shelves m_many m_widths m_mark m_shownMark m_stack m_places m_kinds m_ats m_ends : Nat) (mk sp t d : Nat) (z_fault z_size z_shown z_wasRun z_wrong z_ended z_hints z_hasWidth z_width z_first z_moved z_deepest z_x z_y : Int32) (g_many : Nat → Int32) : Tr l D classes (TY cB cI cJ) gd_tbl nx_tbl y_Mo_count b_Mo_count 2 (some .int) ({ frames := 1, cells := 0, slots := 0, locals := 21 }) [.ref mo, .int 2] [(mo, .inr (8, [.int z_fault, .int z_size, .ref m_row, .ref m_shelves, .ref m_many, .ref m_widths, .int (nI mk), .ref m_mark, .int z_shown, .ref m_shownMark, .int z_wasRun, .int z_wrong, .int z_ended, .int (nI sp), .int z_hints, .int z_hasWidth, .int z_width, .int z_first, .int z_moved, .int z_deepest, .int z_x, .int z_y, .int (nI t), .ref m_stack, .ref m_places, .int (nI d), .ref m_kinds, .ref m_ats, .ref m_ends])), (m_many, .inl (cI, 3, .inl g_many))] (pI0 (fun r w => r = g_many 2 ∧ w = [(mo, .inr (8, [.int 0, .int z_size, .ref m_row, .ref m_shelves, .ref m_many, .ref m_widths, .int (nI mk), .ref m_mark, .int z_shown, .ref m_shownMark, .int z_wasRun, .int z_wrong, .int z_ended, .int (nI sp), .int z_hints, .int z_hasWidth, .int z_width, .int z_first, .int z_moved, .int z_deepest, .int z_x, .int z_y, .int (nI t), .ref m_stack, .ref m_places, .int (nI d), .ref m_kinds, .ref m_ats, .ref m_ends])), (m_many, .inl (cI, 3, .inl g_many))])) := by
  refine Tr.intro (by decide +kernel) nx_ok (Nat.le_of_ble_eq_true rfl) ?_
  intro p_ e_ s_ m_ args_ below_ meth_ c_ A_ ls hx hb hml hown hts hr hlk hnm hZ hP hD hS hl
  have hl : lv_has ls 2 [(0, .ref mo), (1, .int 2)] := hl
  refine lv_aload_n hx hb d_Mo_count_0 rfl (lv_at hl 0 rfl) ?_
  refine lv_iload_n hx hb d_Mo_count_1 rfl (lv_at hl 1 rfl) ?_
  refine lv_if_lt (tgt := 10) hx hb d_Mo_count_2 (by decide) (fun c_2 => absurd c_2 (by decide)) (fun c_2 => ?_)
  clear c_2
  refine lv_iload_n hx hb d_Mo_count_5 rfl (lv_at hl 1 rfl) ?_
  refine lv_iconst (v := 2) hx hb d_Mo_count_6 (by decide) ?_
  refine lv_icmp_le (tgt := 14) hx hb d_Mo_count_7 (by decide) (fun c_7 => ?_) (fun c_7 => absurd (by decide) c_7)
  clear c_7
  refine lv_iconst (v := 0) hx hb d_Mo_count_14 (by decide) ?_
  have hC : Cut [(mo, .inr (8, [.int z_fault, .int z_size, .ref m_row, .ref m_shelves, .ref m_many, .ref m_widths, .int (nI mk), .ref m_mark, .int z_shown, .ref m_shownMark, .int z_wasRun, .int z_wrong, .int z_ended, .int (nI sp), .int z_hints, .int z_hasWidth, .int z_width, .int z_first, .int z_moved, .int z_deepest, .int z_x, .int z_y, .int (nI t), .ref m_stack, .ref m_places, .int (nI d), .ref m_kinds, .ref m_ats, .ref m_ends])), (m_many, .inl (cI, 3, .inl g_many))] [(mo, .inr (8, [.int z_fault, .int z_size, .ref m_row, .ref m_shelves, .ref m_many, .ref m_widths, .int (nI mk), .ref m_mark, .int z_shown, .ref m_shownMark, .int z_wasRun, .int z_wrong, .int z_ended, .int (nI sp), .int z_hints, .int z_hasWidth, .int z_width, .int z_first, .int z_moved, .int z_deepest, .int z_x, .int z_y, .int (nI t), .ref m_stack, .ref m_places, .int (nI d), .ref m_kinds, .ref m_ats, .ref m_ends]))] [(m_many, .inl (cI, 3, .inl g_many))] [0] [1] := ⟨rfl, rfl, rfl, rfl, by decide⟩
  refine goI0 (trV (As := [.int 0]) (rest := []) ⟨hx, hb, hml, hown, hts⟩ gd_good (c_Mo_refused l D cB cI cJ mo m_row m_shelves m_many m_widths m_mark m_shownMark m_stack m_places m_kinds m_ats m_ends mk sp t d z_fault z_size z_shown z_wasRun z_wrong z_ended z_hints z_hasWidth z_width z_first z_moved z_deepest z_x z_y 0) cal_Mo_refused ml_Mo_51 ⟨Nat.le_of_ble_eq_true rfl, Nat.le_of_ble_eq_true rfl⟩ hZ hP hD hC 0 (ci := 8) rfl rfl rfl rfl hl.1 rfl (Nat.le_of_ble_eq_true rfl) d_Mo_count_15 ⟨Nat.le_of_ble_eq_true rfl, Nat.le_of_ble_eq_true rfl⟩) hZ hP hD hS hC (fun r_15 w1 H locs hq hP hD hS => ?_)
  obtain ⟨rq_15, rfl⟩ := hq
  have rq_15 : r_15 = 0 := rq_15
  subst rq_15
  have hP : va_P D classes [(m_many, .inl (cI, 3, .inl g_many)), (mo, .inr (8, [.int 0, .int z_size, .ref m_row, .ref m_shelves, .ref m_many, .ref m_widths, .int (nI mk), .ref m_mark, .int z_shown, .ref m_shownMark, .int z_wasRun, .int z_wrong, .int z_ended, .int (nI sp), .int z_hints, .int z_hasWidth, .int z_width, .int z_first, .int z_moved, .int z_deepest, .int z_x, .int z_y, .int (nI t), .ref m_stack, .ref m_places, .int (nI d), .ref m_kinds, .ref m_ats, .ref m_ends]))] H := hP
  have hD : va_D A_ [(m_many, .inl (cI, 3, .inl g_many)), (mo, .inr (8, [.int 0, .int z_size, .ref m_row, .ref m_shelves, .ref m_many, .ref m_widths, .int (nI mk), .ref m_mark, .int z_shown, .ref m_shownMark, .int z_wasRun, .int z_wrong, .int z_ended, .int (nI sp), .int z_hints, .int z_hasWidth, .int z_width, .int z_first, .int z_moved, .int z_deepest, .int z_x, .int z_y, .int (nI t), .ref m_stack, .ref m_places, .int (nI d), .ref m_kinds, .ref m_ats, .ref m_ends]))] := hD
  refine lv_if_eq (tgt := 25) hx hb d_Mo_count_18 (by decide) (fun c_18 => ?_) (fun c_18 => absurd (by decide) c_18)
  clear c_18
  refine lv_aload_n hx hb d_Mo_count_25 rfl (lv_at hl 0 rfl) ?_
  refine va_get (D := D) (ci := 8) (v := .ref m_many) (C := R_Mo) (T := F_Mo) (N := 29) hx hb hts i_Mo hown hZ.1 hP 1 rfl rfl 4 (by decide) (hts _ fl_Mo_17) (fun _ h9 => h9) rfl d_Mo_count_26 ?_
  refine lv_iload_n hx hb d_Mo_count_29 rfl (lv_at hl 1 rfl) ?_
  refine va_iald hx hb hZ.1 hP 0 1 rfl rfl (show vp_in (nI 2) 3 from vp_in_nI (by decide) (by decide)) d_Mo_count_30 ?_
  refine lv_tv (y := g_many 2) rfl ?_
  exact t_iret hx hb hr hlk d_Mo_count_31 (hP.subm (ws' := [(mo, .inr (8, [.int 0, .int z_size, .ref m_row, .ref m_shelves, .ref m_many, .ref m_widths, .int (nI mk), .ref m_mark, .int z_shown, .ref m_shownMark, .int z_wasRun, .int z_wrong, .int z_ended, .int (nI sp), .int z_hints, .int z_hasWidth, .int z_width, .int z_first, .int z_moved, .int z_deepest, .int z_x, .int z_y, .int (nI t), .ref m_stack, .ref m_places, .int (nI d), .ref m_kinds, .ref m_ats, .ref m_ends])), (m_many, .inl (cI, 3, .inl g_many))]) [1, 0] rfl) (hD.sub (ws' := [(mo, .inr (8, [.int 0, .int z_size, .ref m_row, .ref m_shelves, .ref m_many, .ref m_widths, .int (nI mk), .ref m_mark, .int z_shown, .ref m_shownMark, .int z_wasRun, .int z_wrong, .int z_ended, .int (nI sp), .int z_hints, .int z_hasWidth, .int z_width, .int z_first, .int z_moved, .int z_deepest, .int z_x, .int z_y, .int (nI t), .ref m_stack, .ref m_places, .int (nI d), .ref m_kinds, .ref m_ats, .ref m_ends])), (m_many, .inl (cI, 3, .inl g_many))]) [1, 0] rfl rfl) hS ⟨_, rfl, rfl, rfl, rfl, rfl⟩
set_option maxHeartbeats 1000000 in
set_option maxRecDepth 100000 in
theorem c_Mo_take_bad (l : Launch) (D : va_G) (cB cI cJ : ClassId) (mo m_row m_shelves m_many m_widths m_mark m_shownMark m_stack m_places m_kinds m_ats m_ends : Nat) (mk sp t d : Nat) (z_fault z_size z_shown z_wasRun z_wrong z_ended z_hints z_hasWidth z_width z_first z_moved z_deepest z_x z_y : Int32) (k : Int32) (hk : isK k = 0) : Tr l D classes (TY cB cI cJ) gd_tbl nx_tbl y_Mo_take b_Mo_take 3 (some .int) ({ frames := 1, cells := 0, slots := 0, locals := 21 }) [.ref mo, .int k] [(mo, .inr (8, [.int z_fault, .int z_size, .ref m_row, .ref m_shelves, .ref m_many, .ref m_widths, .int (nI mk), .ref m_mark, .int z_shown, .ref m_shownMark, .int z_wasRun, .int z_wrong, .int z_ended, .int (nI sp), .int z_hints, .int z_hasWidth, .int z_width, .int z_first, .int z_moved, .int z_deepest, .int z_x, .int z_y, .int (nI t), .ref m_stack, .ref m_places, .int (nI d), .ref m_kinds, .ref m_ats, .ref m_ends]))] (pI0 (fun r w => r = 0 ∧ w = [(mo, .inr (8, [.int 1, .int z_size, .ref m_row, .ref m_shelves, .ref m_many, .ref m_widths, .int (nI mk), .ref m_mark, .int z_shown, .ref m_shownMark, .int z_wasRun, .int z_wrong, .int z_ended, .int (nI sp), .int z_hints, .int z_hasWidth, .int z_width, .int z_first, .int z_moved, .int z_deepest, .int z_x, .int z_y, .int (nI t), .ref m_stack, .ref m_places, .int (nI d), .ref m_kinds, .ref m_ats, .ref m_ends]))])) := by
  refine Tr.intro (by decide +kernel) nx_ok (Nat.le_of_ble_eq_true rfl) ?_
  intro p_ e_ s_ m_ args_ below_ meth_ c_ A_ ls hx hb hml hown hts hr hlk hnm hZ hP hD hS hl
  have hl : lv_has ls 3 [(0, .ref mo), (1, .int k)] := hl
  refine lv_aload_n hx hb d_Mo_take_0 rfl (lv_at hl 0 rfl) ?_
  refine lv_iload_n hx hb d_Mo_take_1 rfl (lv_at hl 1 rfl) ?_
  refine lv_if_lt (tgt := 10) hx hb d_Mo_take_2 (by decide) (fun c_2 => ?_) (fun c_2 => ?_)
  · refine lv_iconst (v := 1) hx hb d_Mo_take_10 (by decide) ?_
    refine lv_goto (tgt := 15) hx hb d_Mo_take_11 (by decide) ?_
    have hC : Cut [(mo, .inr (8, [.int z_fault, .int z_size, .ref m_row, .ref m_shelves, .ref m_many, .ref m_widths, .int (nI mk), .ref m_mark, .int z_shown, .ref m_shownMark, .int z_wasRun, .int z_wrong, .int z_ended, .int (nI sp), .int z_hints, .int z_hasWidth, .int z_width, .int z_first, .int z_moved, .int z_deepest, .int z_x, .int z_y, .int (nI t), .ref m_stack, .ref m_places, .int (nI d), .ref m_kinds, .ref m_ats, .ref m_ends]))] [(mo, .inr (8, [.int z_fault, .int z_size, .ref m_row, .ref m_shelves, .ref m_many, .ref m_widths, .int (nI mk), .ref m_mark, .int z_shown, .ref m_shownMark, .int z_wasRun, .int z_wrong, .int z_ended, .int (nI sp), .int z_hints, .int z_hasWidth, .int z_width, .int z_first, .int z_moved, .int z_deepest, .int z_x, .int z_y, .int (nI t), .ref m_stack, .ref m_places, .int (nI d), .ref m_kinds, .ref m_ats, .ref m_ends]))] [] [0] [] := ⟨rfl, rfl, rfl, rfl, by decide⟩
    refine goI0 (trV (As := [.int 1]) (rest := []) ⟨hx, hb, hml, hown, hts⟩ gd_good (c_Mo_refused l D cB cI cJ mo m_row m_shelves m_many m_widths m_mark m_shownMark m_stack m_places m_kinds m_ats m_ends mk sp t d z_fault z_size z_shown z_wasRun z_wrong z_ended z_hints z_hasWidth z_width z_first z_moved z_deepest z_x z_y 1) cal_Mo_refused ml_Mo_51 ⟨Nat.le_of_ble_eq_true rfl, Nat.le_of_ble_eq_true rfl⟩ hZ hP hD hC 0 (ci := 8) rfl rfl rfl rfl hl.1 rfl (Nat.le_of_ble_eq_true rfl) d_Mo_take_15 ⟨Nat.le_of_ble_eq_true rfl, Nat.le_of_ble_eq_true rfl⟩) hZ hP hD hS hC (fun r_15 w1 H locs hq hP hD hS => ?_)
    obtain ⟨rq_15, rfl⟩ := hq
    have rq_15 : r_15 = 1 := rq_15
    subst rq_15
    have hP : va_P D classes [(mo, .inr (8, [.int 1, .int z_size, .ref m_row, .ref m_shelves, .ref m_many, .ref m_widths, .int (nI mk), .ref m_mark, .int z_shown, .ref m_shownMark, .int z_wasRun, .int z_wrong, .int z_ended, .int (nI sp), .int z_hints, .int z_hasWidth, .int z_width, .int z_first, .int z_moved, .int z_deepest, .int z_x, .int z_y, .int (nI t), .ref m_stack, .ref m_places, .int (nI d), .ref m_kinds, .ref m_ats, .ref m_ends]))] H := hP
    have hD : va_D A_ [(mo, .inr (8, [.int 1, .int z_size, .ref m_row, .ref m_shelves, .ref m_many, .ref m_widths, .int (nI mk), .ref m_mark, .int z_shown, .ref m_shownMark, .int z_wasRun, .int z_wrong, .int z_ended, .int (nI sp), .int z_hints, .int z_hasWidth, .int z_width, .int z_first, .int z_moved, .int z_deepest, .int z_x, .int z_y, .int (nI t), .ref m_stack, .ref m_places, .int (nI d), .ref m_kinds, .ref m_ats, .ref m_ends]))] := hD
    refine lv_if_eq (tgt := 23) hx hb d_Mo_take_18 (by decide) (fun c_18 => absurd c_18 (by decide)) (fun c_18 => ?_)
    clear c_18
    refine lv_iconst (v := 0) hx hb d_Mo_take_21 (by decide) ?_
    exact t_iret hx hb hr hlk d_Mo_take_22 hP hD hS ⟨_, rfl, rfl, rfl, rfl, rfl⟩
  · refine lv_iload_n hx hb d_Mo_take_5 rfl (lv_at hl 1 rfl) ?_
    refine lv_iconst (v := 2) hx hb d_Mo_take_6 (by decide) ?_
    refine lv_icmp_le (tgt := 14) hx hb d_Mo_take_7 (by decide) (fun c_7 => absurd c_7 (fun z => isK_ok c_2 z hk)) (fun c_7 => ?_)
    refine lv_iconst (v := 1) hx hb d_Mo_take_10 (by decide) ?_
    refine lv_goto (tgt := 15) hx hb d_Mo_take_11 (by decide) ?_
    have hC : Cut [(mo, .inr (8, [.int z_fault, .int z_size, .ref m_row, .ref m_shelves, .ref m_many, .ref m_widths, .int (nI mk), .ref m_mark, .int z_shown, .ref m_shownMark, .int z_wasRun, .int z_wrong, .int z_ended, .int (nI sp), .int z_hints, .int z_hasWidth, .int z_width, .int z_first, .int z_moved, .int z_deepest, .int z_x, .int z_y, .int (nI t), .ref m_stack, .ref m_places, .int (nI d), .ref m_kinds, .ref m_ats, .ref m_ends]))] [(mo, .inr (8, [.int z_fault, .int z_size, .ref m_row, .ref m_shelves, .ref m_many, .ref m_widths, .int (nI mk), .ref m_mark, .int z_shown, .ref m_shownMark, .int z_wasRun, .int z_wrong, .int z_ended, .int (nI sp), .int z_hints, .int z_hasWidth, .int z_width, .int z_first, .int z_moved, .int z_deepest, .int z_x, .int z_y, .int (nI t), .ref m_stack, .ref m_places, .int (nI d), .ref m_kinds, .ref m_ats, .ref m_ends]))] [] [0] [] := ⟨rfl, rfl, rfl, rfl, by decide⟩
    refine goI0 (trV (As := [.int 1]) (rest := []) ⟨hx, hb, hml, hown, hts⟩ gd_good (c_Mo_refused l D cB cI cJ mo m_row m_shelves m_many m_widths m_mark m_shownMark m_stack m_places m_kinds m_ats m_ends mk sp t d z_fault z_size z_shown z_wasRun z_wrong z_ended z_hints z_hasWidth z_width z_first z_moved z_deepest z_x z_y 1) cal_Mo_refused ml_Mo_51 ⟨Nat.le_of_ble_eq_true rfl, Nat.le_of_ble_eq_true rfl⟩ hZ hP hD hC 0 (ci := 8) rfl rfl rfl rfl hl.1 rfl (Nat.le_of_ble_eq_true rfl) d_Mo_take_15 ⟨Nat.le_of_ble_eq_true rfl, Nat.le_of_ble_eq_true rfl⟩) hZ hP hD hS hC (fun r_15 w1 H locs hq hP hD hS => ?_)
    obtain ⟨rq_15, rfl⟩ := hq
    have rq_15 : r_15 = 1 := rq_15
    subst rq_15
    have hP : va_P D classes [(mo, .inr (8, [.int 1, .int z_size, .ref m_row, .ref m_shelves, .ref m_many, .ref m_widths, .int (nI mk), .ref m_mark, .int z_shown, .ref m_shownMark, .int z_wasRun, .int z_wrong, .int z_ended, .int (nI sp), .int z_hints, .int z_hasWidth, .int z_width, .int z_first, .int z_moved, .int z_deepest, .int z_x, .int z_y, .int (nI t), .ref m_stack, .ref m_places, .int (nI d), .ref m_kinds, .ref m_ats, .ref m_ends]))] H := hP
    have hD : va_D A_ [(mo, .inr (8, [.int 1, .int z_size, .ref m_row, .ref m_shelves, .ref m_many, .ref m_widths, .int (nI mk), .ref m_mark, .int z_shown, .ref m_shownMark, .int z_wasRun, .int z_wrong, .int z_ended, .int (nI sp), .int z_hints, .int z_hasWidth, .int z_width, .int z_first, .int z_moved, .int z_deepest, .int z_x, .int z_y, .int (nI t), .ref m_stack, .ref m_places, .int (nI d), .ref m_kinds, .ref m_ats, .ref m_ends]))] := hD
    refine lv_if_eq (tgt := 23) hx hb d_Mo_take_18 (by decide) (fun c_18 => absurd c_18 (by decide)) (fun c_18 => ?_)
    clear c_18
    refine lv_iconst (v := 0) hx hb d_Mo_take_21 (by decide) ?_
    exact t_iret hx hb hr hlk d_Mo_take_22 hP hD hS ⟨_, rfl, rfl, rfl, rfl, rfl⟩
set_option maxHeartbeats 1000000 in
set_option maxRecDepth 100000 in
theorem c_Mo_count_bad (l : Launch) (D : va_G) (cB cI cJ : ClassId) (mo m_row m_shelves m_many m_widths m_mark m_shownMark m_stack m_places m_kinds m_ats m_ends : Nat) (mk sp t d : Nat) (z_fault z_size z_shown z_wasRun z_wrong z_ended z_hints z_hasWidth z_width z_first z_moved z_deepest z_x z_y : Int32) (k : Int32) (hk : isK k = 0) : Tr l D classes (TY cB cI cJ) gd_tbl nx_tbl y_Mo_count b_Mo_count 2 (some .int) ({ frames := 1, cells := 0, slots := 0, locals := 21 }) [.ref mo, .int k] [(mo, .inr (8, [.int z_fault, .int z_size, .ref m_row, .ref m_shelves, .ref m_many, .ref m_widths, .int (nI mk), .ref m_mark, .int z_shown, .ref m_shownMark, .int z_wasRun, .int z_wrong, .int z_ended, .int (nI sp), .int z_hints, .int z_hasWidth, .int z_width, .int z_first, .int z_moved, .int z_deepest, .int z_x, .int z_y, .int (nI t), .ref m_stack, .ref m_places, .int (nI d), .ref m_kinds, .ref m_ats, .ref m_ends]))] (pI0 (fun r w => r = 0 ∧ w = [(mo, .inr (8, [.int 1, .int z_size, .ref m_row, .ref m_shelves, .ref m_many, .ref m_widths, .int (nI mk), .ref m_mark, .int z_shown, .ref m_shownMark, .int z_wasRun, .int z_wrong, .int z_ended, .int (nI sp), .int z_hints, .int z_hasWidth, .int z_width, .int z_first, .int z_moved, .int z_deepest, .int z_x, .int z_y, .int (nI t), .ref m_stack, .ref m_places, .int (nI d), .ref m_kinds, .ref m_ats, .ref m_ends]))])) := by
  refine Tr.intro (by decide +kernel) nx_ok (Nat.le_of_ble_eq_true rfl) ?_
  intro p_ e_ s_ m_ args_ below_ meth_ c_ A_ ls hx hb hml hown hts hr hlk hnm hZ hP hD hS hl
  have hl : lv_has ls 2 [(0, .ref mo), (1, .int k)] := hl
  refine lv_aload_n hx hb d_Mo_count_0 rfl (lv_at hl 0 rfl) ?_
  refine lv_iload_n hx hb d_Mo_count_1 rfl (lv_at hl 1 rfl) ?_
  refine lv_if_lt (tgt := 10) hx hb d_Mo_count_2 (by decide) (fun c_2 => ?_) (fun c_2 => ?_)
  · refine lv_iconst (v := 1) hx hb d_Mo_count_10 (by decide) ?_
    refine lv_goto (tgt := 15) hx hb d_Mo_count_11 (by decide) ?_
    have hC : Cut [(mo, .inr (8, [.int z_fault, .int z_size, .ref m_row, .ref m_shelves, .ref m_many, .ref m_widths, .int (nI mk), .ref m_mark, .int z_shown, .ref m_shownMark, .int z_wasRun, .int z_wrong, .int z_ended, .int (nI sp), .int z_hints, .int z_hasWidth, .int z_width, .int z_first, .int z_moved, .int z_deepest, .int z_x, .int z_y, .int (nI t), .ref m_stack, .ref m_places, .int (nI d), .ref m_kinds, .ref m_ats, .ref m_ends]))] [(mo, .inr (8, [.int z_fault, .int z_size, .ref m_row, .ref m_shelves, .ref m_many, .ref m_widths, .int (nI mk), .ref m_mark, .int z_shown, .ref m_shownMark, .int z_wasRun, .int z_wrong, .int z_ended, .int (nI sp), .int z_hints, .int z_hasWidth, .int z_width, .int z_first, .int z_moved, .int z_deepest, .int z_x, .int z_y, .int (nI t), .ref m_stack, .ref m_places, .int (nI d), .ref m_kinds, .ref m_ats, .ref m_ends]))] [] [0] [] := ⟨rfl, rfl, rfl, rfl, by decide⟩
    refine goI0 (trV (As := [.int 1]) (rest := []) ⟨hx, hb, hml, hown, hts⟩ gd_good (c_Mo_refused l D cB cI cJ mo m_row m_shelves m_many m_widths m_mark m_shownMark m_stack m_places m_kinds m_ats m_ends mk sp t d z_fault z_size z_shown z_wasRun z_wrong z_ended z_hints z_hasWidth z_width z_first z_moved z_deepest z_x z_y 1) cal_Mo_refused ml_Mo_51 ⟨Nat.le_of_ble_eq_true rfl, Nat.le_of_ble_eq_true rfl⟩ hZ hP hD hC 0 (ci := 8) rfl rfl rfl rfl hl.1 rfl (Nat.le_of_ble_eq_true rfl) d_Mo_count_15 ⟨Nat.le_of_ble_eq_true rfl, Nat.le_of_ble_eq_true rfl⟩) hZ hP hD hS hC (fun r_15 w1 H locs hq hP hD hS => ?_)
    obtain ⟨rq_15, rfl⟩ := hq
    have rq_15 : r_15 = 1 := rq_15
    subst rq_15
    have hP : va_P D classes [(mo, .inr (8, [.int 1, .int z_size, .ref m_row, .ref m_shelves, .ref m_many, .ref m_widths, .int (nI mk), .ref m_mark, .int z_shown, .ref m_shownMark, .int z_wasRun, .int z_wrong, .int z_ended, .int (nI sp), .int z_hints, .int z_hasWidth, .int z_width, .int z_first, .int z_moved, .int z_deepest, .int z_x, .int z_y, .int (nI t), .ref m_stack, .ref m_places, .int (nI d), .ref m_kinds, .ref m_ats, .ref m_ends]))] H := hP
    have hD : va_D A_ [(mo, .inr (8, [.int 1, .int z_size, .ref m_row, .ref m_shelves, .ref m_many, .ref m_widths, .int (nI mk), .ref m_mark, .int z_shown, .ref m_shownMark, .int z_wasRun, .int z_wrong, .int z_ended, .int (nI sp), .int z_hints, .int z_hasWidth, .int z_width, .int z_first, .int z_moved, .int z_deepest, .int z_x, .int z_y, .int (nI t), .ref m_stack, .ref m_places, .int (nI d), .ref m_kinds, .ref m_ats, .ref m_ends]))] := hD
    refine lv_if_eq (tgt := 25) hx hb d_Mo_count_18 (by decide) (fun c_18 => absurd c_18 (by decide)) (fun c_18 => ?_)
    clear c_18
    refine lv_iconst (v := 0) hx hb d_Mo_count_21 (by decide) ?_
    refine lv_goto (tgt := 31) hx hb d_Mo_count_22 (by decide) ?_
    exact t_iret hx hb hr hlk d_Mo_count_31 hP hD hS ⟨_, rfl, rfl, rfl, rfl, rfl⟩
  · refine lv_iload_n hx hb d_Mo_count_5 rfl (lv_at hl 1 rfl) ?_
    refine lv_iconst (v := 2) hx hb d_Mo_count_6 (by decide) ?_
    refine lv_icmp_le (tgt := 14) hx hb d_Mo_count_7 (by decide) (fun c_7 => absurd c_7 (fun z => isK_ok c_2 z hk)) (fun c_7 => ?_)
    refine lv_iconst (v := 1) hx hb d_Mo_count_10 (by decide) ?_
    refine lv_goto (tgt := 15) hx hb d_Mo_count_11 (by decide) ?_
    have hC : Cut [(mo, .inr (8, [.int z_fault, .int z_size, .ref m_row, .ref m_shelves, .ref m_many, .ref m_widths, .int (nI mk), .ref m_mark, .int z_shown, .ref m_shownMark, .int z_wasRun, .int z_wrong, .int z_ended, .int (nI sp), .int z_hints, .int z_hasWidth, .int z_width, .int z_first, .int z_moved, .int z_deepest, .int z_x, .int z_y, .int (nI t), .ref m_stack, .ref m_places, .int (nI d), .ref m_kinds, .ref m_ats, .ref m_ends]))] [(mo, .inr (8, [.int z_fault, .int z_size, .ref m_row, .ref m_shelves, .ref m_many, .ref m_widths, .int (nI mk), .ref m_mark, .int z_shown, .ref m_shownMark, .int z_wasRun, .int z_wrong, .int z_ended, .int (nI sp), .int z_hints, .int z_hasWidth, .int z_width, .int z_first, .int z_moved, .int z_deepest, .int z_x, .int z_y, .int (nI t), .ref m_stack, .ref m_places, .int (nI d), .ref m_kinds, .ref m_ats, .ref m_ends]))] [] [0] [] := ⟨rfl, rfl, rfl, rfl, by decide⟩
    refine goI0 (trV (As := [.int 1]) (rest := []) ⟨hx, hb, hml, hown, hts⟩ gd_good (c_Mo_refused l D cB cI cJ mo m_row m_shelves m_many m_widths m_mark m_shownMark m_stack m_places m_kinds m_ats m_ends mk sp t d z_fault z_size z_shown z_wasRun z_wrong z_ended z_hints z_hasWidth z_width z_first z_moved z_deepest z_x z_y 1) cal_Mo_refused ml_Mo_51 ⟨Nat.le_of_ble_eq_true rfl, Nat.le_of_ble_eq_true rfl⟩ hZ hP hD hC 0 (ci := 8) rfl rfl rfl rfl hl.1 rfl (Nat.le_of_ble_eq_true rfl) d_Mo_count_15 ⟨Nat.le_of_ble_eq_true rfl, Nat.le_of_ble_eq_true rfl⟩) hZ hP hD hS hC (fun r_15 w1 H locs hq hP hD hS => ?_)
    obtain ⟨rq_15, rfl⟩ := hq
    have rq_15 : r_15 = 1 := rq_15
    subst rq_15
    have hP : va_P D classes [(mo, .inr (8, [.int 1, .int z_size, .ref m_row, .ref m_shelves, .ref m_many, .ref m_widths, .int (nI mk), .ref m_mark, .int z_shown, .ref m_shownMark, .int z_wasRun, .int z_wrong, .int z_ended, .int (nI sp), .int z_hints, .int z_hasWidth, .int z_width, .int z_first, .int z_moved, .int z_deepest, .int z_x, .int z_y, .int (nI t), .ref m_stack, .ref m_places, .int (nI d), .ref m_kinds, .ref m_ats, .ref m_ends]))] H := hP
    have hD : va_D A_ [(mo, .inr (8, [.int 1, .int z_size, .ref m_row, .ref m_shelves, .ref m_many, .ref m_widths, .int (nI mk), .ref m_mark, .int z_shown, .ref m_shownMark, .int z_wasRun, .int z_wrong, .int z_ended, .int (nI sp), .int z_hints, .int z_hasWidth, .int z_width, .int z_first, .int z_moved, .int z_deepest, .int z_x, .int z_y, .int (nI t), .ref m_stack, .ref m_places, .int (nI d), .ref m_kinds, .ref m_ats, .ref m_ends]))] := hD
    refine lv_if_eq (tgt := 25) hx hb d_Mo_count_18 (by decide) (fun c_18 => absurd c_18 (by decide)) (fun c_18 => ?_)
    clear c_18
    refine lv_iconst (v := 0) hx hb d_Mo_count_21 (by decide) ?_
    refine lv_goto (tgt := 31) hx hb d_Mo_count_22 (by decide) ?_
    exact t_iret hx hb hr hlk d_Mo_count_31 hP hD hS ⟨_, rfl, rfl, rfl, rfl, rfl⟩
set_option maxHeartbeats 1000000 in
set_option maxRecDepth 100000 in
theorem c_Mo_mark (l : Launch) (D : va_G) (cB cI cJ : ClassId) (mo m_row m_shelves m_many m_widths m_mark m_shownMark m_stack m_places m_kinds m_ats m_ends : Nat) (mk sp t d : Nat) (z_fault z_size z_shown z_wasRun z_wrong z_ended z_hints z_hasWidth z_width z_first z_moved z_deepest z_x z_y : Int32) (g_shownMark : Nat → Int32) (sh : Nat) (i wh : Int32) (hsh : sh ≤ 4000) : Tr l D classes (TY cB cI cJ) gd_tbl nx_tbl y_Mo_mark b_Mo_mark 4 (some .int) ({ frames := 1, cells := 0, slots := 0, locals := 21 }) [.ref mo, .int i, .int wh] [(mo, .inr (8, [.int z_fault, .int z_size, .ref m_row, .ref m_shelves, .ref m_many, .ref m_widths, .int (nI mk), .ref m_mark, .int (nI sh), .ref m_shownMark, .int z_wasRun, .int z_wrong, .int z_ended, .int (nI sp), .int z_hints, .int z_hasWidth, .int z_width, .int z_first, .int z_moved, .int z_deepest, .int z_x, .int z_y, .int (nI t), .ref m_stack, .ref m_places, .int (nI d), .ref m_kinds, .ref m_ats, .ref m_ends])), (m_shownMark, .inl (cI, 28000, .inl g_shownMark))] (pI0 (fun r w => (hasO sh i wh = 0 ∧ r = 0 ∧ w = [(mo, .inr (8, [.int 1, .int z_size, .ref m_row, .ref m_shelves, .ref m_many, .ref m_widths, .int (nI mk), .ref m_mark, .int (nI sh), .ref m_shownMark, .int z_wasRun, .int z_wrong, .int z_ended, .int (nI sp), .int z_hints, .int z_hasWidth, .int z_width, .int z_first, .int z_moved, .int z_deepest, .int z_x, .int z_y, .int (nI t), .ref m_stack, .ref m_places, .int (nI d), .ref m_kinds, .ref m_ats, .ref m_ends])), (m_shownMark, .inl (cI, 28000, .inl g_shownMark))]) ∨ (∃ a b : Nat, i = nI a ∧ a < sh ∧ wh = nI b ∧ b < 7 ∧ r = g_shownMark (7 * a + b) ∧ w = [(mo, .inr (8, [.int 0, .int z_size, .ref m_row, .ref m_shelves, .ref m_many, .ref m_widths, .int (nI mk), .ref m_mark, .int (nI sh), .ref m_shownMark, .int z_wasRun, .int z_wrong, .int z_ended, .int (nI sp), .int z_hints, .int z_hasWidth, .int z_width, .int z_first, .int z_moved, .int z_deepest, .int z_x, .int z_y, .int (nI t), .ref m_stack, .ref m_places, .int (nI d), .ref m_kinds, .ref m_ats, .ref m_ends])), (m_shownMark, .inl (cI, 28000, .inl g_shownMark))]))) := by
  refine Tr.intro (by decide +kernel) nx_ok (Nat.le_of_ble_eq_true rfl) ?_
  intro p_ e_ s_ m_ args_ below_ meth_ c_ A_ ls hx hb hml hown hts hr hlk hnm hZ hP hD hS hl
  have hl : lv_has ls 4 [(0, .ref mo), (1, .int i), (2, .int wh)] := hl
  refine lv_iload_n hx hb d_Mo_mark_0 rfl (lv_at hl 1 rfl) ?_
  refine lv_if_lt (tgt := 26) hx hb d_Mo_mark_1 (by decide) (fun c_1 => ?_) (fun c_1 => ?_)
  · refine lv_iconst (v := 0) hx hb d_Mo_mark_26 (by decide) ?_
    refine lv_istore_n (lv' := [(3, .int 0), (0, .ref mo), (1, .int i), (2, .int wh)]) hx hb d_Mo_mark_27 rfl hl (by decide) rfl (fun ls hl => ?_)
    refine lv_aload_n hx hb d_Mo_mark_28 rfl (lv_at hl 1 rfl) ?_
    refine lv_iload_n hx hb d_Mo_mark_29 rfl (lv_at hl 0 rfl) ?_
    refine lv_if_eq (tgt := 37) hx hb d_Mo_mark_30 (by decide) (fun c_30 => ?_) (fun c_30 => absurd (by decide) c_30)
    clear c_30
    refine lv_iconst (v := 1) hx hb d_Mo_mark_37 (by decide) ?_
    have hC : Cut [(mo, .inr (8, [.int z_fault, .int z_size, .ref m_row, .ref m_shelves, .ref m_many, .ref m_widths, .int (nI mk), .ref m_mark, .int (nI sh), .ref m_shownMark, .int z_wasRun, .int z_wrong, .int z_ended, .int (nI sp), .int z_hints, .int z_hasWidth, .int z_width, .int z_first, .int z_moved, .int z_deepest, .int z_x, .int z_y, .int (nI t), .ref m_stack, .ref m_places, .int (nI d), .ref m_kinds, .ref m_ats, .ref m_ends])), (m_shownMark, .inl (cI, 28000, .inl g_shownMark))] [(mo, .inr (8, [.int z_fault, .int z_size, .ref m_row, .ref m_shelves, .ref m_many, .ref m_widths, .int (nI mk), .ref m_mark, .int (nI sh), .ref m_shownMark, .int z_wasRun, .int z_wrong, .int z_ended, .int (nI sp), .int z_hints, .int z_hasWidth, .int z_width, .int z_first, .int z_moved, .int z_deepest, .int z_x, .int z_y, .int (nI t), .ref m_stack, .ref m_places, .int (nI d), .ref m_kinds, .ref m_ats, .ref m_ends]))] [(m_shownMark, .inl (cI, 28000, .inl g_shownMark))] [0] [1] := ⟨rfl, rfl, rfl, rfl, by decide⟩
    refine goI0 (trV (As := [.int 1]) (rest := []) ⟨hx, hb, hml, hown, hts⟩ gd_good (c_Mo_refused l D cB cI cJ mo m_row m_shelves m_many m_widths m_mark m_shownMark m_stack m_places m_kinds m_ats m_ends mk sp t d z_fault z_size (nI sh) z_wasRun z_wrong z_ended z_hints z_hasWidth z_width z_first z_moved z_deepest z_x z_y 1) cal_Mo_refused ml_Mo_51 ⟨Nat.le_of_ble_eq_true rfl, Nat.le_of_ble_eq_true rfl⟩ hZ hP hD hC 0 (ci := 8) rfl rfl rfl rfl hl.1 rfl (Nat.le_of_ble_eq_true rfl) d_Mo_mark_38 ⟨Nat.le_of_ble_eq_true rfl, Nat.le_of_ble_eq_true rfl⟩) hZ hP hD hS hC (fun r_38 w1 H locs hq hP hD hS => ?_)
    obtain ⟨rq_38, rfl⟩ := hq
    have rq_38 : r_38 = 1 := rq_38
    subst rq_38
    have hP : va_P D classes [(m_shownMark, .inl (cI, 28000, .inl g_shownMark)), (mo, .inr (8, [.int 1, .int z_size, .ref m_row, .ref m_shelves, .ref m_many, .ref m_widths, .int (nI mk), .ref m_mark, .int (nI sh), .ref m_shownMark, .int z_wasRun, .int z_wrong, .int z_ended, .int (nI sp), .int z_hints, .int z_hasWidth, .int z_width, .int z_first, .int z_moved, .int z_deepest, .int z_x, .int z_y, .int (nI t), .ref m_stack, .ref m_places, .int (nI d), .ref m_kinds, .ref m_ats, .ref m_ends]))] H := hP
    have hD : va_D A_ [(m_shownMark, .inl (cI, 28000, .inl g_shownMark)), (mo, .inr (8, [.int 1, .int z_size, .ref m_row, .ref m_shelves, .ref m_many, .ref m_widths, .int (nI mk), .ref m_mark, .int (nI sh), .ref m_shownMark, .int z_wasRun, .int z_wrong, .int z_ended, .int (nI sp), .int z_hints, .int z_hasWidth, .int z_width, .int z_first, .int z_moved, .int z_deepest, .int z_x, .int z_y, .int (nI t), .ref m_stack, .ref m_places, .int (nI d), .ref m_kinds, .ref m_ats, .ref m_ends]))] := hD
    refine lv_if_eq (tgt := 48) hx hb d_Mo_mark_41 (by decide) (fun c_41 => absurd c_41 (by decide)) (fun c_41 => ?_)
    clear c_41
    refine lv_iconst (v := 0) hx hb d_Mo_mark_44 (by decide) ?_
    refine lv_goto (tgt := 59) hx hb d_Mo_mark_45 (by decide) ?_
    exact t_iret hx hb hr hlk d_Mo_mark_59 (hP.subm (ws' := [(mo, .inr (8, [.int 1, .int z_size, .ref m_row, .ref m_shelves, .ref m_many, .ref m_widths, .int (nI mk), .ref m_mark, .int (nI sh), .ref m_shownMark, .int z_wasRun, .int z_wrong, .int z_ended, .int (nI sp), .int z_hints, .int z_hasWidth, .int z_width, .int z_first, .int z_moved, .int z_deepest, .int z_x, .int z_y, .int (nI t), .ref m_stack, .ref m_places, .int (nI d), .ref m_kinds, .ref m_ats, .ref m_ends])), (m_shownMark, .inl (cI, 28000, .inl g_shownMark))]) [1, 0] rfl) (hD.sub (ws' := [(mo, .inr (8, [.int 1, .int z_size, .ref m_row, .ref m_shelves, .ref m_many, .ref m_widths, .int (nI mk), .ref m_mark, .int (nI sh), .ref m_shownMark, .int z_wasRun, .int z_wrong, .int z_ended, .int (nI sp), .int z_hints, .int z_hasWidth, .int z_width, .int z_first, .int z_moved, .int z_deepest, .int z_x, .int z_y, .int (nI t), .ref m_stack, .ref m_places, .int (nI d), .ref m_kinds, .ref m_ats, .ref m_ends])), (m_shownMark, .inl (cI, 28000, .inl g_shownMark))]) [1, 0] rfl rfl) hS ⟨_, rfl, rfl, rfl, Or.inl ⟨ho_0 (Or.inl c_1), rfl, rfl⟩⟩
  · refine lv_iload_n hx hb d_Mo_mark_4 rfl (lv_at hl 1 rfl) ?_
    refine lv_aload_n hx hb d_Mo_mark_5 rfl (lv_at hl 0 rfl) ?_
    refine va_get (D := D) (ci := 8) (v := .int (nI sh)) (C := R_Mo) (T := F_Mo) (N := 29) hx hb hts i_Mo hown hZ.1 hP 0 rfl rfl 8 (by decide) (hts _ fl_Mo_126) (fun _ h9 => h9) rfl d_Mo_mark_6 ?_
    refine lv_icmp_ge (tgt := 26) hx hb d_Mo_mark_9 (by decide) (fun c_9 => ?_) (fun c_9 => ?_)
    · refine lv_iconst (v := 0) hx hb d_Mo_mark_26 (by decide) ?_
      refine lv_istore_n (lv' := [(3, .int 0), (0, .ref mo), (1, .int i), (2, .int wh)]) hx hb d_Mo_mark_27 rfl hl (by decide) rfl (fun ls hl => ?_)
      refine lv_aload_n hx hb d_Mo_mark_28 rfl (lv_at hl 1 rfl) ?_
      refine lv_iload_n hx hb d_Mo_mark_29 rfl (lv_at hl 0 rfl) ?_
      refine lv_if_eq (tgt := 37) hx hb d_Mo_mark_30 (by decide) (fun c_30 => ?_) (fun c_30 => absurd (by decide) c_30)
      clear c_30
      refine lv_iconst (v := 1) hx hb d_Mo_mark_37 (by decide) ?_
      have hC : Cut [(mo, .inr (8, [.int z_fault, .int z_size, .ref m_row, .ref m_shelves, .ref m_many, .ref m_widths, .int (nI mk), .ref m_mark, .int (nI sh), .ref m_shownMark, .int z_wasRun, .int z_wrong, .int z_ended, .int (nI sp), .int z_hints, .int z_hasWidth, .int z_width, .int z_first, .int z_moved, .int z_deepest, .int z_x, .int z_y, .int (nI t), .ref m_stack, .ref m_places, .int (nI d), .ref m_kinds, .ref m_ats, .ref m_ends])), (m_shownMark, .inl (cI, 28000, .inl g_shownMark))] [(mo, .inr (8, [.int z_fault, .int z_size, .ref m_row, .ref m_shelves, .ref m_many, .ref m_widths, .int (nI mk), .ref m_mark, .int (nI sh), .ref m_shownMark, .int z_wasRun, .int z_wrong, .int z_ended, .int (nI sp), .int z_hints, .int z_hasWidth, .int z_width, .int z_first, .int z_moved, .int z_deepest, .int z_x, .int z_y, .int (nI t), .ref m_stack, .ref m_places, .int (nI d), .ref m_kinds, .ref m_ats, .ref m_ends]))] [(m_shownMark, .inl (cI, 28000, .inl g_shownMark))] [0] [1] := ⟨rfl, rfl, rfl, rfl, by decide⟩
      refine goI0 (trV (As := [.int 1]) (rest := []) ⟨hx, hb, hml, hown, hts⟩ gd_good (c_Mo_refused l D cB cI cJ mo m_row m_shelves m_many m_widths m_mark m_shownMark m_stack m_places m_kinds m_ats m_ends mk sp t d z_fault z_size (nI sh) z_wasRun z_wrong z_ended z_hints z_hasWidth z_width z_first z_moved z_deepest z_x z_y 1) cal_Mo_refused ml_Mo_51 ⟨Nat.le_of_ble_eq_true rfl, Nat.le_of_ble_eq_true rfl⟩ hZ hP hD hC 0 (ci := 8) rfl rfl rfl rfl hl.1 rfl (Nat.le_of_ble_eq_true rfl) d_Mo_mark_38 ⟨Nat.le_of_ble_eq_true rfl, Nat.le_of_ble_eq_true rfl⟩) hZ hP hD hS hC (fun r_38 w1 H locs hq hP hD hS => ?_)
      obtain ⟨rq_38, rfl⟩ := hq
      have rq_38 : r_38 = 1 := rq_38
      subst rq_38
      have hP : va_P D classes [(m_shownMark, .inl (cI, 28000, .inl g_shownMark)), (mo, .inr (8, [.int 1, .int z_size, .ref m_row, .ref m_shelves, .ref m_many, .ref m_widths, .int (nI mk), .ref m_mark, .int (nI sh), .ref m_shownMark, .int z_wasRun, .int z_wrong, .int z_ended, .int (nI sp), .int z_hints, .int z_hasWidth, .int z_width, .int z_first, .int z_moved, .int z_deepest, .int z_x, .int z_y, .int (nI t), .ref m_stack, .ref m_places, .int (nI d), .ref m_kinds, .ref m_ats, .ref m_ends]))] H := hP
      have hD : va_D A_ [(m_shownMark, .inl (cI, 28000, .inl g_shownMark)), (mo, .inr (8, [.int 1, .int z_size, .ref m_row, .ref m_shelves, .ref m_many, .ref m_widths, .int (nI mk), .ref m_mark, .int (nI sh), .ref m_shownMark, .int z_wasRun, .int z_wrong, .int z_ended, .int (nI sp), .int z_hints, .int z_hasWidth, .int z_width, .int z_first, .int z_moved, .int z_deepest, .int z_x, .int z_y, .int (nI t), .ref m_stack, .ref m_places, .int (nI d), .ref m_kinds, .ref m_ats, .ref m_ends]))] := hD
      refine lv_if_eq (tgt := 48) hx hb d_Mo_mark_41 (by decide) (fun c_41 => absurd c_41 (by decide)) (fun c_41 => ?_)
      clear c_41
      refine lv_iconst (v := 0) hx hb d_Mo_mark_44 (by decide) ?_
      refine lv_goto (tgt := 59) hx hb d_Mo_mark_45 (by decide) ?_
      exact t_iret hx hb hr hlk d_Mo_mark_59 (hP.subm (ws' := [(mo, .inr (8, [.int 1, .int z_size, .ref m_row, .ref m_shelves, .ref m_many, .ref m_widths, .int (nI mk), .ref m_mark, .int (nI sh), .ref m_shownMark, .int z_wasRun, .int z_wrong, .int z_ended, .int (nI sp), .int z_hints, .int z_hasWidth, .int z_width, .int z_first, .int z_moved, .int z_deepest, .int z_x, .int z_y, .int (nI t), .ref m_stack, .ref m_places, .int (nI d), .ref m_kinds, .ref m_ats, .ref m_ends])), (m_shownMark, .inl (cI, 28000, .inl g_shownMark))]) [1, 0] rfl) (hD.sub (ws' := [(mo, .inr (8, [.int 1, .int z_size, .ref m_row, .ref m_shelves, .ref m_many, .ref m_widths, .int (nI mk), .ref m_mark, .int (nI sh), .ref m_shownMark, .int z_wasRun, .int z_wrong, .int z_ended, .int (nI sp), .int z_hints, .int z_hasWidth, .int z_width, .int z_first, .int z_moved, .int z_deepest, .int z_x, .int z_y, .int (nI t), .ref m_stack, .ref m_places, .int (nI d), .ref m_kinds, .ref m_ats, .ref m_ends])), (m_shownMark, .inl (cI, 28000, .inl g_shownMark))]) [1, 0] rfl rfl) hS ⟨_, rfl, rfl, rfl, Or.inl ⟨ho_0 (Or.inr (Or.inl c_9)), rfl, rfl⟩⟩
    · refine lv_iload_n hx hb d_Mo_mark_12 rfl (lv_at hl 2 rfl) ?_
      refine lv_if_lt (tgt := 26) hx hb d_Mo_mark_13 (by decide) (fun c_13 => ?_) (fun c_13 => ?_)
      · refine lv_iconst (v := 0) hx hb d_Mo_mark_26 (by decide) ?_
        refine lv_istore_n (lv' := [(3, .int 0), (0, .ref mo), (1, .int i), (2, .int wh)]) hx hb d_Mo_mark_27 rfl hl (by decide) rfl (fun ls hl => ?_)
        refine lv_aload_n hx hb d_Mo_mark_28 rfl (lv_at hl 1 rfl) ?_
        refine lv_iload_n hx hb d_Mo_mark_29 rfl (lv_at hl 0 rfl) ?_
        refine lv_if_eq (tgt := 37) hx hb d_Mo_mark_30 (by decide) (fun c_30 => ?_) (fun c_30 => absurd (by decide) c_30)
        clear c_30
        refine lv_iconst (v := 1) hx hb d_Mo_mark_37 (by decide) ?_
        have hC : Cut [(mo, .inr (8, [.int z_fault, .int z_size, .ref m_row, .ref m_shelves, .ref m_many, .ref m_widths, .int (nI mk), .ref m_mark, .int (nI sh), .ref m_shownMark, .int z_wasRun, .int z_wrong, .int z_ended, .int (nI sp), .int z_hints, .int z_hasWidth, .int z_width, .int z_first, .int z_moved, .int z_deepest, .int z_x, .int z_y, .int (nI t), .ref m_stack, .ref m_places, .int (nI d), .ref m_kinds, .ref m_ats, .ref m_ends])), (m_shownMark, .inl (cI, 28000, .inl g_shownMark))] [(mo, .inr (8, [.int z_fault, .int z_size, .ref m_row, .ref m_shelves, .ref m_many, .ref m_widths, .int (nI mk), .ref m_mark, .int (nI sh), .ref m_shownMark, .int z_wasRun, .int z_wrong, .int z_ended, .int (nI sp), .int z_hints, .int z_hasWidth, .int z_width, .int z_first, .int z_moved, .int z_deepest, .int z_x, .int z_y, .int (nI t), .ref m_stack, .ref m_places, .int (nI d), .ref m_kinds, .ref m_ats, .ref m_ends]))] [(m_shownMark, .inl (cI, 28000, .inl g_shownMark))] [0] [1] := ⟨rfl, rfl, rfl, rfl, by decide⟩
        refine goI0 (trV (As := [.int 1]) (rest := []) ⟨hx, hb, hml, hown, hts⟩ gd_good (c_Mo_refused l D cB cI cJ mo m_row m_shelves m_many m_widths m_mark m_shownMark m_stack m_places m_kinds m_ats m_ends mk sp t d z_fault z_size (nI sh) z_wasRun z_wrong z_ended z_hints z_hasWidth z_width z_first z_moved z_deepest z_x z_y 1) cal_Mo_refused ml_Mo_51 ⟨Nat.le_of_ble_eq_true rfl, Nat.le_of_ble_eq_true rfl⟩ hZ hP hD hC 0 (ci := 8) rfl rfl rfl rfl hl.1 rfl (Nat.le_of_ble_eq_true rfl) d_Mo_mark_38 ⟨Nat.le_of_ble_eq_true rfl, Nat.le_of_ble_eq_true rfl⟩) hZ hP hD hS hC (fun r_38 w1 H locs hq hP hD hS => ?_)
        obtain ⟨rq_38, rfl⟩ := hq
        have rq_38 : r_38 = 1 := rq_38
        subst rq_38
        have hP : va_P D classes [(m_shownMark, .inl (cI, 28000, .inl g_shownMark)), (mo, .inr (8, [.int 1, .int z_size, .ref m_row, .ref m_shelves, .ref m_many, .ref m_widths, .int (nI mk), .ref m_mark, .int (nI sh), .ref m_shownMark, .int z_wasRun, .int z_wrong, .int z_ended, .int (nI sp), .int z_hints, .int z_hasWidth, .int z_width, .int z_first, .int z_moved, .int z_deepest, .int z_x, .int z_y, .int (nI t), .ref m_stack, .ref m_places, .int (nI d), .ref m_kinds, .ref m_ats, .ref m_ends]))] H := hP
        have hD : va_D A_ [(m_shownMark, .inl (cI, 28000, .inl g_shownMark)), (mo, .inr (8, [.int 1, .int z_size, .ref m_row, .ref m_shelves, .ref m_many, .ref m_widths, .int (nI mk), .ref m_mark, .int (nI sh), .ref m_shownMark, .int z_wasRun, .int z_wrong, .int z_ended, .int (nI sp), .int z_hints, .int z_hasWidth, .int z_width, .int z_first, .int z_moved, .int z_deepest, .int z_x, .int z_y, .int (nI t), .ref m_stack, .ref m_places, .int (nI d), .ref m_kinds, .ref m_ats, .ref m_ends]))] := hD
        refine lv_if_eq (tgt := 48) hx hb d_Mo_mark_41 (by decide) (fun c_41 => absurd c_41 (by decide)) (fun c_41 => ?_)
        clear c_41
        refine lv_iconst (v := 0) hx hb d_Mo_mark_44 (by decide) ?_
        refine lv_goto (tgt := 59) hx hb d_Mo_mark_45 (by decide) ?_
        exact t_iret hx hb hr hlk d_Mo_mark_59 (hP.subm (ws' := [(mo, .inr (8, [.int 1, .int z_size, .ref m_row, .ref m_shelves, .ref m_many, .ref m_widths, .int (nI mk), .ref m_mark, .int (nI sh), .ref m_shownMark, .int z_wasRun, .int z_wrong, .int z_ended, .int (nI sp), .int z_hints, .int z_hasWidth, .int z_width, .int z_first, .int z_moved, .int z_deepest, .int z_x, .int z_y, .int (nI t), .ref m_stack, .ref m_places, .int (nI d), .ref m_kinds, .ref m_ats, .ref m_ends])), (m_shownMark, .inl (cI, 28000, .inl g_shownMark))]) [1, 0] rfl) (hD.sub (ws' := [(mo, .inr (8, [.int 1, .int z_size, .ref m_row, .ref m_shelves, .ref m_many, .ref m_widths, .int (nI mk), .ref m_mark, .int (nI sh), .ref m_shownMark, .int z_wasRun, .int z_wrong, .int z_ended, .int (nI sp), .int z_hints, .int z_hasWidth, .int z_width, .int z_first, .int z_moved, .int z_deepest, .int z_x, .int z_y, .int (nI t), .ref m_stack, .ref m_places, .int (nI d), .ref m_kinds, .ref m_ats, .ref m_ends])), (m_shownMark, .inl (cI, 28000, .inl g_shownMark))]) [1, 0] rfl rfl) hS ⟨_, rfl, rfl, rfl, Or.inl ⟨ho_0 (Or.inr (Or.inr (Or.inl c_13))), rfl, rfl⟩⟩
      · refine lv_iload_n hx hb d_Mo_mark_16 rfl (lv_at hl 2 rfl) ?_
        refine lv_bipush (v := 6) hx hb d_Mo_mark_17 (by decide) ?_
        refine lv_icmp_gt (tgt := 26) hx hb d_Mo_mark_19 (by decide) (fun c_19 => ?_) (fun c_19 => ?_)
        · refine lv_iconst (v := 0) hx hb d_Mo_mark_26 (by decide) ?_
          refine lv_istore_n (lv' := [(3, .int 0), (0, .ref mo), (1, .int i), (2, .int wh)]) hx hb d_Mo_mark_27 rfl hl (by decide) rfl (fun ls hl => ?_)
          refine lv_aload_n hx hb d_Mo_mark_28 rfl (lv_at hl 1 rfl) ?_
          refine lv_iload_n hx hb d_Mo_mark_29 rfl (lv_at hl 0 rfl) ?_
          refine lv_if_eq (tgt := 37) hx hb d_Mo_mark_30 (by decide) (fun c_30 => ?_) (fun c_30 => absurd (by decide) c_30)
          clear c_30
          refine lv_iconst (v := 1) hx hb d_Mo_mark_37 (by decide) ?_
          have hC : Cut [(mo, .inr (8, [.int z_fault, .int z_size, .ref m_row, .ref m_shelves, .ref m_many, .ref m_widths, .int (nI mk), .ref m_mark, .int (nI sh), .ref m_shownMark, .int z_wasRun, .int z_wrong, .int z_ended, .int (nI sp), .int z_hints, .int z_hasWidth, .int z_width, .int z_first, .int z_moved, .int z_deepest, .int z_x, .int z_y, .int (nI t), .ref m_stack, .ref m_places, .int (nI d), .ref m_kinds, .ref m_ats, .ref m_ends])), (m_shownMark, .inl (cI, 28000, .inl g_shownMark))] [(mo, .inr (8, [.int z_fault, .int z_size, .ref m_row, .ref m_shelves, .ref m_many, .ref m_widths, .int (nI mk), .ref m_mark, .int (nI sh), .ref m_shownMark, .int z_wasRun, .int z_wrong, .int z_ended, .int (nI sp), .int z_hints, .int z_hasWidth, .int z_width, .int z_first, .int z_moved, .int z_deepest, .int z_x, .int z_y, .int (nI t), .ref m_stack, .ref m_places, .int (nI d), .ref m_kinds, .ref m_ats, .ref m_ends]))] [(m_shownMark, .inl (cI, 28000, .inl g_shownMark))] [0] [1] := ⟨rfl, rfl, rfl, rfl, by decide⟩
          refine goI0 (trV (As := [.int 1]) (rest := []) ⟨hx, hb, hml, hown, hts⟩ gd_good (c_Mo_refused l D cB cI cJ mo m_row m_shelves m_many m_widths m_mark m_shownMark m_stack m_places m_kinds m_ats m_ends mk sp t d z_fault z_size (nI sh) z_wasRun z_wrong z_ended z_hints z_hasWidth z_width z_first z_moved z_deepest z_x z_y 1) cal_Mo_refused ml_Mo_51 ⟨Nat.le_of_ble_eq_true rfl, Nat.le_of_ble_eq_true rfl⟩ hZ hP hD hC 0 (ci := 8) rfl rfl rfl rfl hl.1 rfl (Nat.le_of_ble_eq_true rfl) d_Mo_mark_38 ⟨Nat.le_of_ble_eq_true rfl, Nat.le_of_ble_eq_true rfl⟩) hZ hP hD hS hC (fun r_38 w1 H locs hq hP hD hS => ?_)
          obtain ⟨rq_38, rfl⟩ := hq
          have rq_38 : r_38 = 1 := rq_38
          subst rq_38
          have hP : va_P D classes [(m_shownMark, .inl (cI, 28000, .inl g_shownMark)), (mo, .inr (8, [.int 1, .int z_size, .ref m_row, .ref m_shelves, .ref m_many, .ref m_widths, .int (nI mk), .ref m_mark, .int (nI sh), .ref m_shownMark, .int z_wasRun, .int z_wrong, .int z_ended, .int (nI sp), .int z_hints, .int z_hasWidth, .int z_width, .int z_first, .int z_moved, .int z_deepest, .int z_x, .int z_y, .int (nI t), .ref m_stack, .ref m_places, .int (nI d), .ref m_kinds, .ref m_ats, .ref m_ends]))] H := hP
          have hD : va_D A_ [(m_shownMark, .inl (cI, 28000, .inl g_shownMark)), (mo, .inr (8, [.int 1, .int z_size, .ref m_row, .ref m_shelves, .ref m_many, .ref m_widths, .int (nI mk), .ref m_mark, .int (nI sh), .ref m_shownMark, .int z_wasRun, .int z_wrong, .int z_ended, .int (nI sp), .int z_hints, .int z_hasWidth, .int z_width, .int z_first, .int z_moved, .int z_deepest, .int z_x, .int z_y, .int (nI t), .ref m_stack, .ref m_places, .int (nI d), .ref m_kinds, .ref m_ats, .ref m_ends]))] := hD
          refine lv_if_eq (tgt := 48) hx hb d_Mo_mark_41 (by decide) (fun c_41 => absurd c_41 (by decide)) (fun c_41 => ?_)
          clear c_41
          refine lv_iconst (v := 0) hx hb d_Mo_mark_44 (by decide) ?_
          refine lv_goto (tgt := 59) hx hb d_Mo_mark_45 (by decide) ?_
          exact t_iret hx hb hr hlk d_Mo_mark_59 (hP.subm (ws' := [(mo, .inr (8, [.int 1, .int z_size, .ref m_row, .ref m_shelves, .ref m_many, .ref m_widths, .int (nI mk), .ref m_mark, .int (nI sh), .ref m_shownMark, .int z_wasRun, .int z_wrong, .int z_ended, .int (nI sp), .int z_hints, .int z_hasWidth, .int z_width, .int z_first, .int z_moved, .int z_deepest, .int z_x, .int z_y, .int (nI t), .ref m_stack, .ref m_places, .int (nI d), .ref m_kinds, .ref m_ats, .ref m_ends])), (m_shownMark, .inl (cI, 28000, .inl g_shownMark))]) [1, 0] rfl) (hD.sub (ws' := [(mo, .inr (8, [.int 1, .int z_size, .ref m_row, .ref m_shelves, .ref m_many, .ref m_widths, .int (nI mk), .ref m_mark, .int (nI sh), .ref m_shownMark, .int z_wasRun, .int z_wrong, .int z_ended, .int (nI sp), .int z_hints, .int z_hasWidth, .int z_width, .int z_first, .int z_moved, .int z_deepest, .int z_x, .int z_y, .int (nI t), .ref m_stack, .ref m_places, .int (nI d), .ref m_kinds, .ref m_ats, .ref m_ends])), (m_shownMark, .inl (cI, 28000, .inl g_shownMark))]) [1, 0] rfl rfl) hS ⟨_, rfl, rfl, rfl, Or.inl ⟨ho_0 (Or.inr (Or.inr (Or.inr c_19))), rfl, rfl⟩⟩
        · refine lv_iconst (v := 1) hx hb d_Mo_mark_22 (by decide) ?_
          refine lv_goto (tgt := 27) hx hb d_Mo_mark_23 (by decide) ?_
          refine lv_istore_n (lv' := [(3, .int 1), (0, .ref mo), (1, .int i), (2, .int wh)]) hx hb d_Mo_mark_27 rfl hl (by decide) rfl (fun ls hl => ?_)
          refine lv_aload_n hx hb d_Mo_mark_28 rfl (lv_at hl 1 rfl) ?_
          refine lv_iload_n hx hb d_Mo_mark_29 rfl (lv_at hl 0 rfl) ?_
          refine lv_if_eq (tgt := 37) hx hb d_Mo_mark_30 (by decide) (fun c_30 => absurd c_30 (by decide)) (fun c_30 => ?_)
          clear c_30
          refine lv_iconst (v := 0) hx hb d_Mo_mark_33 (by decide) ?_
          refine lv_goto (tgt := 38) hx hb d_Mo_mark_34 (by decide) ?_
          have hC : Cut [(mo, .inr (8, [.int z_fault, .int z_size, .ref m_row, .ref m_shelves, .ref m_many, .ref m_widths, .int (nI mk), .ref m_mark, .int (nI sh), .ref m_shownMark, .int z_wasRun, .int z_wrong, .int z_ended, .int (nI sp), .int z_hints, .int z_hasWidth, .int z_width, .int z_first, .int z_moved, .int z_deepest, .int z_x, .int z_y, .int (nI t), .ref m_stack, .ref m_places, .int (nI d), .ref m_kinds, .ref m_ats, .ref m_ends])), (m_shownMark, .inl (cI, 28000, .inl g_shownMark))] [(mo, .inr (8, [.int z_fault, .int z_size, .ref m_row, .ref m_shelves, .ref m_many, .ref m_widths, .int (nI mk), .ref m_mark, .int (nI sh), .ref m_shownMark, .int z_wasRun, .int z_wrong, .int z_ended, .int (nI sp), .int z_hints, .int z_hasWidth, .int z_width, .int z_first, .int z_moved, .int z_deepest, .int z_x, .int z_y, .int (nI t), .ref m_stack, .ref m_places, .int (nI d), .ref m_kinds, .ref m_ats, .ref m_ends]))] [(m_shownMark, .inl (cI, 28000, .inl g_shownMark))] [0] [1] := ⟨rfl, rfl, rfl, rfl, by decide⟩
          refine goI0 (trV (As := [.int 0]) (rest := []) ⟨hx, hb, hml, hown, hts⟩ gd_good (c_Mo_refused l D cB cI cJ mo m_row m_shelves m_many m_widths m_mark m_shownMark m_stack m_places m_kinds m_ats m_ends mk sp t d z_fault z_size (nI sh) z_wasRun z_wrong z_ended z_hints z_hasWidth z_width z_first z_moved z_deepest z_x z_y 0) cal_Mo_refused ml_Mo_51 ⟨Nat.le_of_ble_eq_true rfl, Nat.le_of_ble_eq_true rfl⟩ hZ hP hD hC 0 (ci := 8) rfl rfl rfl rfl hl.1 rfl (Nat.le_of_ble_eq_true rfl) d_Mo_mark_38 ⟨Nat.le_of_ble_eq_true rfl, Nat.le_of_ble_eq_true rfl⟩) hZ hP hD hS hC (fun r_38 w1 H locs hq hP hD hS => ?_)
          obtain ⟨rq_38, rfl⟩ := hq
          have rq_38 : r_38 = 0 := rq_38
          subst rq_38
          have hP : va_P D classes [(m_shownMark, .inl (cI, 28000, .inl g_shownMark)), (mo, .inr (8, [.int 0, .int z_size, .ref m_row, .ref m_shelves, .ref m_many, .ref m_widths, .int (nI mk), .ref m_mark, .int (nI sh), .ref m_shownMark, .int z_wasRun, .int z_wrong, .int z_ended, .int (nI sp), .int z_hints, .int z_hasWidth, .int z_width, .int z_first, .int z_moved, .int z_deepest, .int z_x, .int z_y, .int (nI t), .ref m_stack, .ref m_places, .int (nI d), .ref m_kinds, .ref m_ats, .ref m_ends]))] H := hP
          have hD : va_D A_ [(m_shownMark, .inl (cI, 28000, .inl g_shownMark)), (mo, .inr (8, [.int 0, .int z_size, .ref m_row, .ref m_shelves, .ref m_many, .ref m_widths, .int (nI mk), .ref m_mark, .int (nI sh), .ref m_shownMark, .int z_wasRun, .int z_wrong, .int z_ended, .int (nI sp), .int z_hints, .int z_hasWidth, .int z_width, .int z_first, .int z_moved, .int z_deepest, .int z_x, .int z_y, .int (nI t), .ref m_stack, .ref m_places, .int (nI d), .ref m_kinds, .ref m_ats, .ref m_ends]))] := hD
          refine lv_if_eq (tgt := 48) hx hb d_Mo_mark_41 (by decide) (fun c_41 => ?_) (fun c_41 => absurd (by decide) c_41)
          clear c_41
          obtain ⟨ia, hia, ei⟩ := in_ok c_1 (Int32.not_le.mp c_9) (by omega)
          obtain ⟨wb, hwb, ew⟩ := nI_of c_13
          subst ei
          subst ew
          have hw6 : wb ≤ 6 := (nI_leI (b := 6) hwb (by omega)).mp (Int32.not_lt.mp c_19)
          refine lv_aload_n hx hb d_Mo_mark_48 rfl (lv_at hl 1 rfl) ?_
          refine va_get (D := D) (ci := 8) (v := .ref m_shownMark) (C := R_Mo) (T := F_Mo) (N := 29) hx hb hts i_Mo hown hZ.1 hP 1 rfl rfl 9 (by decide) (hts _ fl_Mo_26) (fun _ h9 => h9) rfl d_Mo_mark_49 ?_
          refine lv_bipush (v := 7) hx hb d_Mo_mark_52 (by decide) ?_
          refine lv_iload_n hx hb d_Mo_mark_54 rfl (lv_at hl 2 rfl) ?_
          refine lv_imul hx hb d_Mo_mark_55 ?_
          refine lv_tv (y := nI (7 * ia)) (pk_mul 7 ia) ?_
          refine lv_iload_n hx hb d_Mo_mark_56 rfl (lv_at hl 3 rfl) ?_
          refine lv_iadd hx hb d_Mo_mark_57 ?_
          refine lv_tv (y := nI (7 * ia + wb)) (nI_add (7 * ia) wb) ?_
          refine va_iald hx hb hZ.1 hP 0 1 rfl rfl (vp_in_nI (by omega) (by omega)) d_Mo_mark_58 ?_
          refine lv_tv (y := g_shownMark (7 * ia + wb)) (by rw [nI_clamp (by omega)]) ?_
          exact t_iret hx hb hr hlk d_Mo_mark_59 (hP.subm (ws' := [(mo, .inr (8, [.int 0, .int z_size, .ref m_row, .ref m_shelves, .ref m_many, .ref m_widths, .int (nI mk), .ref m_mark, .int (nI sh), .ref m_shownMark, .int z_wasRun, .int z_wrong, .int z_ended, .int (nI sp), .int z_hints, .int z_hasWidth, .int z_width, .int z_first, .int z_moved, .int z_deepest, .int z_x, .int z_y, .int (nI t), .ref m_stack, .ref m_places, .int (nI d), .ref m_kinds, .ref m_ats, .ref m_ends])), (m_shownMark, .inl (cI, 28000, .inl g_shownMark))]) [1, 0] rfl) (hD.sub (ws' := [(mo, .inr (8, [.int 0, .int z_size, .ref m_row, .ref m_shelves, .ref m_many, .ref m_widths, .int (nI mk), .ref m_mark, .int (nI sh), .ref m_shownMark, .int z_wasRun, .int z_wrong, .int z_ended, .int (nI sp), .int z_hints, .int z_hasWidth, .int z_width, .int z_first, .int z_moved, .int z_deepest, .int z_x, .int z_y, .int (nI t), .ref m_stack, .ref m_places, .int (nI d), .ref m_kinds, .ref m_ats, .ref m_ends])), (m_shownMark, .inl (cI, 28000, .inl g_shownMark))]) [1, 0] rfl rfl) hS ⟨_, rfl, rfl, rfl, Or.inr ⟨ia, wb, rfl, hia, rfl, by omega, rfl, rfl⟩⟩
set_option maxHeartbeats 1000000 in
set_option maxRecDepth 100000 in
theorem c_Mo_last (l : Launch) (D : va_G) (cB cI cJ : ClassId) (mo m_row m_shelves m_many m_widths m_mark m_shownMark m_stack m_places m_kinds m_ats m_ends : Nat) (mk sp t d : Nat) (z_fault z_size z_shown z_wasRun z_wrong z_ended z_hints z_hasWidth z_width z_first z_moved z_deepest z_x z_y : Int32) (k : Int32) : Tr l D classes (TY cB cI cJ) gd_tbl nx_tbl y_Mo_last b_Mo_last 2 (some .int) ({ frames := 0, cells := 0, slots := 0, locals := 0 }) [.ref mo, .int k] [(mo, .inr (8, [.int z_fault, .int z_size, .ref m_row, .ref m_shelves, .ref m_many, .ref m_widths, .int (nI mk), .ref m_mark, .int z_shown, .ref m_shownMark, .int z_wasRun, .int z_wrong, .int z_ended, .int (nI sp), .int z_hints, .int z_hasWidth, .int z_width, .int z_first, .int z_moved, .int z_deepest, .int z_x, .int z_y, .int (nI t), .ref m_stack, .ref m_places, .int (nI d), .ref m_kinds, .ref m_ats, .ref m_ends]))] (pI0 (fun r w => w = [(mo, .inr (8, [.int 0, .int z_size, .ref m_row, .ref m_shelves, .ref m_many, .ref m_widths, .int (nI mk), .ref m_mark, .int z_shown, .ref m_shownMark, .int z_wasRun, .int z_wrong, .int z_ended, .int (nI sp), .int z_hints, .int z_hasWidth, .int z_width, .int z_first, .int z_moved, .int z_deepest, .int z_x, .int z_y, .int (nI t), .ref m_stack, .ref m_places, .int (nI d), .ref m_kinds, .ref m_ats, .ref m_ends]))])) := by
  refine Tr.intro (by decide +kernel) nx_ok (Nat.le_of_ble_eq_true rfl) ?_
  intro p_ e_ s_ m_ args_ below_ meth_ c_ A_ ls hx hb hml hown hts hr hlk hnm hZ hP hD hS hl
  have hl : lv_has ls 2 [(0, .ref mo), (1, .int k)] := hl
  refine lv_aload_n hx hb d_Mo_last_0 rfl (lv_at hl 0 rfl) ?_
  refine lv_iconst (v := 0) hx hb d_Mo_last_1 (by decide) ?_
  refine va_put (D := D) (ci := 8) (v := .int 0) (ty := .int) (C := R_Mo) (T := F_Mo) (N := 29) hx hb hts i_Mo t_Mo t_Mo_ok n_Mo hown hZ.1 hP hD hS 0 rfl rfl 0 (by decide) (hts _ fl_Mo_44) (fun _ h9 => h9) rfl (by decide +kernel) rfl rfl (Nat.le_of_ble_eq_true rfl) d_Mo_last_2 (fun H locs hP hD hS => ?_)
  have hP : va_P D classes [(mo, .inr (8, [.int 0, .int z_size, .ref m_row, .ref m_shelves, .ref m_many, .ref m_widths, .int (nI mk), .ref m_mark, .int z_shown, .ref m_shownMark, .int z_wasRun, .int z_wrong, .int z_ended, .int (nI sp), .int z_hints, .int z_hasWidth, .int z_width, .int z_first, .int z_moved, .int z_deepest, .int z_x, .int z_y, .int (nI t), .ref m_stack, .ref m_places, .int (nI d), .ref m_kinds, .ref m_ats, .ref m_ends]))] H := hP
  have hD : va_D A_ [(mo, .inr (8, [.int 0, .int z_size, .ref m_row, .ref m_shelves, .ref m_many, .ref m_widths, .int (nI mk), .ref m_mark, .int z_shown, .ref m_shownMark, .int z_wasRun, .int z_wrong, .int z_ended, .int (nI sp), .int z_hints, .int z_hasWidth, .int z_width, .int z_first, .int z_moved, .int z_deepest, .int z_x, .int z_y, .int (nI t), .ref m_stack, .ref m_places, .int (nI d), .ref m_kinds, .ref m_ats, .ref m_ends]))] := hD
  refine lv_aload_n hx hb d_Mo_last_5 rfl (lv_at hl 0 rfl) ?_
  refine va_get (D := D) (ci := 8) (v := .int z_wasRun) (C := R_Mo) (T := F_Mo) (N := 29) hx hb hts i_Mo hown hZ.1 hP 0 rfl rfl 10 (by decide) (hts _ fl_Mo_85) (fun _ h9 => h9) rfl d_Mo_last_6 ?_
  refine lv_if_ne (tgt := 14) hx hb d_Mo_last_9 (by decide) (fun c_9 => ?_) (fun c_9 => ?_)
  · refine lv_iload_n hx hb d_Mo_last_14 rfl (lv_at hl 1 rfl) ?_
    refine lv_tableAny hx hb d_Mo_last_15 (by decide) (by decide) (fun off hoff => ?_)
    have hof : off = 37 ∨ off = 42 ∨ off = 47 ∨ off = 60 ∨ off = 65 ∨ off = 70 ∨ off = 75 := by
      rcases hoff with rfl | hoff
      · decide
      · exact (show ∀ off ∈ ([37, 42, 47, 60, 65, 70] : List Int), off = 37 ∨ off = 42 ∨ off = 47 ∨ off = 60 ∨ off = 65 ∨ off = 70 ∨ off = 75 by decide) off hoff
    clear hoff
    rcases hof with rfl | rfl | rfl | rfl | rfl | rfl | rfl
    · refine ⟨52, by decide, ?_⟩
      refine lv_aload_n hx hb d_Mo_last_52 rfl (lv_at hl 0 rfl) ?_
      refine va_get (D := D) (ci := 8) (v := .int (nI sp)) (C := R_Mo) (T := F_Mo) (N := 29) hx hb hts i_Mo hown hZ.1 hP 0 rfl rfl 13 (by decide) (hts _ fl_Mo_92) (fun _ h9 => h9) rfl d_Mo_last_53 ?_
      exact t_iret hx hb hr hlk d_Mo_last_56 hP hD hS ⟨_, rfl, rfl, rfl, rfl⟩
    · refine ⟨57, by decide, ?_⟩
      refine lv_aload_n hx hb d_Mo_last_57 rfl (lv_at hl 0 rfl) ?_
      refine va_get (D := D) (ci := 8) (v := .int z_hints) (C := R_Mo) (T := F_Mo) (N := 29) hx hb hts i_Mo hown hZ.1 hP 0 rfl rfl 14 (by decide) (hts _ fl_Mo_95) (fun _ h9 => h9) rfl d_Mo_last_58 ?_
      exact t_iret hx hb hr hlk d_Mo_last_61 hP hD hS ⟨_, rfl, rfl, rfl, rfl⟩
    · refine ⟨62, by decide, ?_⟩
      refine lv_aload_n hx hb d_Mo_last_62 rfl (lv_at hl 0 rfl) ?_
      refine va_get (D := D) (ci := 8) (v := .int z_hasWidth) (C := R_Mo) (T := F_Mo) (N := 29) hx hb hts i_Mo hown hZ.1 hP 0 rfl rfl 15 (by decide) (hts _ fl_Mo_98) (fun _ h9 => h9) rfl d_Mo_last_63 ?_
      refine lv_if_eq (tgt := 73) hx hb d_Mo_last_66 (by decide) (fun c_66 => ?_) (fun c_66 => ?_)
      · refine lv_iconst (v := 0) hx hb d_Mo_last_73 (by decide) ?_
        exact t_iret hx hb hr hlk d_Mo_last_74 hP hD hS ⟨_, rfl, rfl, rfl, rfl⟩
      · refine lv_iconst (v := 1) hx hb d_Mo_last_69 (by decide) ?_
        refine lv_goto (tgt := 74) hx hb d_Mo_last_70 (by decide) ?_
        exact t_iret hx hb hr hlk d_Mo_last_74 hP hD hS ⟨_, rfl, rfl, rfl, rfl⟩
    · refine ⟨75, by decide, ?_⟩
      refine lv_aload_n hx hb d_Mo_last_75 rfl (lv_at hl 0 rfl) ?_
      refine va_get (D := D) (ci := 8) (v := .int z_width) (C := R_Mo) (T := F_Mo) (N := 29) hx hb hts i_Mo hown hZ.1 hP 0 rfl rfl 16 (by decide) (hts _ fl_Mo_101) (fun _ h9 => h9) rfl d_Mo_last_76 ?_
      exact t_iret hx hb hr hlk d_Mo_last_79 hP hD hS ⟨_, rfl, rfl, rfl, rfl⟩
    · refine ⟨80, by decide, ?_⟩
      refine lv_aload_n hx hb d_Mo_last_80 rfl (lv_at hl 0 rfl) ?_
      refine va_get (D := D) (ci := 8) (v := .int (nI t)) (C := R_Mo) (T := F_Mo) (N := 29) hx hb hts i_Mo hown hZ.1 hP 0 rfl rfl 22 (by decide) (hts _ fl_Mo_82) (fun _ h9 => h9) rfl d_Mo_last_81 ?_
      exact t_iret hx hb hr hlk d_Mo_last_84 hP hD hS ⟨_, rfl, rfl, rfl, rfl⟩
    · refine ⟨85, by decide, ?_⟩
      refine lv_aload_n hx hb d_Mo_last_85 rfl (lv_at hl 0 rfl) ?_
      refine va_get (D := D) (ci := 8) (v := .int z_deepest) (C := R_Mo) (T := F_Mo) (N := 29) hx hb hts i_Mo hown hZ.1 hP 0 rfl rfl 19 (by decide) (hts _ fl_Mo_72) (fun _ h9 => h9) rfl d_Mo_last_86 ?_
      exact t_iret hx hb hr hlk d_Mo_last_89 hP hD hS ⟨_, rfl, rfl, rfl, rfl⟩
    · refine ⟨90, by decide, ?_⟩
      refine lv_iconst (v := (-1)) hx hb d_Mo_last_90 (by decide) ?_
      exact t_iret hx hb hr hlk d_Mo_last_91 hP hD hS ⟨_, rfl, rfl, rfl, rfl⟩
  · refine lv_iconst (v := (-1)) hx hb d_Mo_last_12 (by decide) ?_
    exact t_iret hx hb hr hlk d_Mo_last_13 hP hD hS ⟨_, rfl, rfl, rfl, rfl⟩
set_option maxHeartbeats 1000000 in
set_option maxRecDepth 100000 in
theorem c_Mo_run (l : Launch) (D : va_G) (cB cI cJ : ClassId) (mo m_row m_shelves m_many m_widths m_mark m_shownMark m_stack m_places m_kinds m_ats m_ends : Nat) (mk sp t d : Nat) (z_fault z_size z_shown z_wasRun z_wrong z_ended z_hints z_hasWidth z_width z_first z_moved z_deepest z_x z_y : Int32) (g_kinds g_ats g_ends g_shelves g_many g_widths g_stack g_mark g_places g_shownMark : Nat → Int32) (sh : Nat) (k : Int32) (hiv : t ≤ 48 ∧ d ≤ 10 ∧ mk ≤ 4000 ∧ sp ≤ 20000) (hsh : sh ≤ 4000) (hvs : VSH g_shelves g_many g_widths) (T : Tr7) (hR : SHR T g_shelves g_many g_widths) : Tr l D classes (TY cB cI cJ) gd_tbl nx_tbl y_Mo_run b_Mo_run 3 (some .int) ({ frames := 7, cells := 0, slots := 0, locals := 171 }) [.ref mo, .int k] [(mo, .inr (8, [.int z_fault, .int z_size, .ref m_row, .ref m_shelves, .ref m_many, .ref m_widths, .int (nI mk), .ref m_mark, .int (nI sh), .ref m_shownMark, .int z_wasRun, .int z_wrong, .int z_ended, .int (nI sp), .int z_hints, .int z_hasWidth, .int z_width, .int z_first, .int z_moved, .int z_deepest, .int z_x, .int z_y, .int (nI t), .ref m_stack, .ref m_places, .int (nI d), .ref m_kinds, .ref m_ats, .ref m_ends])), (m_kinds, .inl (cI, 11, .inl g_kinds)), (m_ats, .inl (cI, 11, .inl g_ats)), (m_ends, .inl (cI, 11, .inl g_ends)), (m_shelves, .inl (cI, 49152, .inl g_shelves)), (m_many, .inl (cI, 3, .inl g_many)), (m_widths, .inl (cI, 3, .inl g_widths)), (m_stack, .inl (cI, 48, .inl g_stack)), (m_mark, .inl (cI, 28000, .inl g_mark)), (m_places, .inl (cI, 32, .inl g_places)), (m_shownMark, .inl (cI, 28000, .inl g_shownMark))] (pI0 (fun r w => (hasS T.1.1 k = 0 ∧ r = 0 ∧ w = [(mo, .inr (8, [.int 1, .int z_size, .ref m_row, .ref m_shelves, .ref m_many, .ref m_widths, .int (nI mk), .ref m_mark, .int (nI sh), .ref m_shownMark, .int z_wasRun, .int z_wrong, .int z_ended, .int (nI sp), .int z_hints, .int z_hasWidth, .int z_width, .int z_first, .int z_moved, .int z_deepest, .int z_x, .int z_y, .int (nI t), .ref m_stack, .ref m_places, .int (nI d), .ref m_kinds, .ref m_ats, .ref m_ends])), (m_kinds, .inl (cI, 11, .inl g_kinds)), (m_ats, .inl (cI, 11, .inl g_ats)), (m_ends, .inl (cI, 11, .inl g_ends)), (m_shelves, .inl (cI, 49152, .inl g_shelves)), (m_many, .inl (cI, 3, .inl g_many)), (m_widths, .inl (cI, 3, .inl g_widths)), (m_stack, .inl (cI, 48, .inl g_stack)), (m_mark, .inl (cI, 28000, .inl g_mark)), (m_places, .inl (cI, 32, .inl g_places)), (m_shownMark, .inl (cI, 28000, .inl g_shownMark))]) ∨ (¬ hasS T.1.1 k = 0 ∧ ∃ (z_fault' : Int32) (z_wasRun' : Int32) (z_wrong' : Int32) (z_ended' : Int32) (sp' : Nat) (z_hints' : Int32) (z_hasWidth' : Int32) (z_width' : Int32) (z_first' : Int32) (z_moved' : Int32) (z_deepest' : Int32) (z_x' : Int32) (z_y' : Int32) (t' : Nat) (d' : Nat) (mk' : Nat) (sh' : Nat) (g_kinds' g_ats' g_ends' g_stack' g_mark' g_places' g_shownMark' : Nat → Int32), w = [(mo, .inr (8, [.int z_fault', .int z_size, .ref m_row, .ref m_shelves, .ref m_many, .ref m_widths, .int (nI mk'), .ref m_mark, .int (nI sh'), .ref m_shownMark, .int z_wasRun', .int z_wrong', .int z_ended', .int (nI sp'), .int z_hints', .int z_hasWidth', .int z_width', .int z_first', .int z_moved', .int z_deepest', .int z_x', .int z_y', .int (nI t'), .ref m_stack, .ref m_places, .int (nI d'), .ref m_kinds, .ref m_ats, .ref m_ends])), (m_kinds, .inl (cI, 11, .inl g_kinds')), (m_ats, .inl (cI, 11, .inl g_ats')), (m_ends, .inl (cI, 11, .inl g_ends')), (m_shelves, .inl (cI, 49152, .inl g_shelves)), (m_many, .inl (cI, 3, .inl g_many)), (m_widths, .inl (cI, 3, .inl g_widths)), (m_stack, .inl (cI, 48, .inl g_stack')), (m_mark, .inl (cI, 28000, .inl g_mark')), (m_places, .inl (cI, 32, .inl g_places')), (m_shownMark, .inl (cI, 28000, .inl g_shownMark'))] ∧ (t' ≤ 48 ∧ d' ≤ 10 ∧ mk' ≤ 4000 ∧ sp' ≤ 20000) ∧ sh' ≤ 4000 ∧ shoP ((iniP T k).bind (runP T 20001 0)) = (sh', trunc (sh' * 7) g_shownMark')))) := by
  refine Tr.intro (by decide +kernel) nx_ok (Nat.le_of_ble_eq_true rfl) ?_
  intro p_ e_ s_ m_ args_ below_ meth_ c_ A_ ls hx hb hml hown hts hr hlk hnm hZ hP hD hS hl
  have hl : lv_has ls 3 [(0, .ref mo), (1, .int k)] := hl
  have hm0 : g_many 0 = nI T.1.1 := (hR 0 (by omega)).1
  refine lv_aload_n hx hb d_Mo_run_0 rfl (lv_at hl 0 rfl) ?_
  refine lv_iload_n hx hb d_Mo_run_1 rfl (lv_at hl 1 rfl) ?_
  refine lv_if_lt (tgt := 15) hx hb d_Mo_run_2 (by decide) (fun c_2 => ?_) (fun c_2 => ?_)
  · refine lv_iconst (v := 1) hx hb d_Mo_run_15 (by decide) ?_
    refine lv_goto (tgt := 20) hx hb d_Mo_run_16 (by decide) ?_
    have hC : Cut [(mo, .inr (8, [.int z_fault, .int z_size, .ref m_row, .ref m_shelves, .ref m_many, .ref m_widths, .int (nI mk), .ref m_mark, .int (nI sh), .ref m_shownMark, .int z_wasRun, .int z_wrong, .int z_ended, .int (nI sp), .int z_hints, .int z_hasWidth, .int z_width, .int z_first, .int z_moved, .int z_deepest, .int z_x, .int z_y, .int (nI t), .ref m_stack, .ref m_places, .int (nI d), .ref m_kinds, .ref m_ats, .ref m_ends])), (m_kinds, .inl (cI, 11, .inl g_kinds)), (m_ats, .inl (cI, 11, .inl g_ats)), (m_ends, .inl (cI, 11, .inl g_ends)), (m_shelves, .inl (cI, 49152, .inl g_shelves)), (m_many, .inl (cI, 3, .inl g_many)), (m_widths, .inl (cI, 3, .inl g_widths)), (m_stack, .inl (cI, 48, .inl g_stack)), (m_mark, .inl (cI, 28000, .inl g_mark)), (m_places, .inl (cI, 32, .inl g_places)), (m_shownMark, .inl (cI, 28000, .inl g_shownMark))] [(mo, .inr (8, [.int z_fault, .int z_size, .ref m_row, .ref m_shelves, .ref m_many, .ref m_widths, .int (nI mk), .ref m_mark, .int (nI sh), .ref m_shownMark, .int z_wasRun, .int z_wrong, .int z_ended, .int (nI sp), .int z_hints, .int z_hasWidth, .int z_width, .int z_first, .int z_moved, .int z_deepest, .int z_x, .int z_y, .int (nI t), .ref m_stack, .ref m_places, .int (nI d), .ref m_kinds, .ref m_ats, .ref m_ends]))] [(m_kinds, .inl (cI, 11, .inl g_kinds)), (m_ats, .inl (cI, 11, .inl g_ats)), (m_ends, .inl (cI, 11, .inl g_ends)), (m_shelves, .inl (cI, 49152, .inl g_shelves)), (m_many, .inl (cI, 3, .inl g_many)), (m_widths, .inl (cI, 3, .inl g_widths)), (m_stack, .inl (cI, 48, .inl g_stack)), (m_mark, .inl (cI, 28000, .inl g_mark)), (m_places, .inl (cI, 32, .inl g_places)), (m_shownMark, .inl (cI, 28000, .inl g_shownMark))] [0] [1, 2, 3, 4, 5, 6, 7, 8, 9, 10] := ⟨rfl, rfl, rfl, rfl, by decide⟩
    refine goI0 (trV (As := [.int 1]) (rest := []) ⟨hx, hb, hml, hown, hts⟩ gd_good (c_Mo_refused l D cB cI cJ mo m_row m_shelves m_many m_widths m_mark m_shownMark m_stack m_places m_kinds m_ats m_ends mk sp t d z_fault z_size (nI sh) z_wasRun z_wrong z_ended z_hints z_hasWidth z_width z_first z_moved z_deepest z_x z_y 1) cal_Mo_refused ml_Mo_51 ⟨Nat.le_of_ble_eq_true rfl, Nat.le_of_ble_eq_true rfl⟩ hZ hP hD hC 0 (ci := 8) rfl rfl rfl rfl hl.1 rfl (Nat.le_of_ble_eq_true rfl) d_Mo_run_20 ⟨Nat.le_of_ble_eq_true rfl, Nat.le_of_ble_eq_true rfl⟩) hZ hP hD hS hC (fun r_20 w1 H locs hq hP hD hS => ?_)
    obtain ⟨rq_20, rfl⟩ := hq
    have rq_20 : r_20 = 1 := rq_20
    subst rq_20
    have hP : va_P D classes [(m_kinds, .inl (cI, 11, .inl g_kinds)), (m_ats, .inl (cI, 11, .inl g_ats)), (m_ends, .inl (cI, 11, .inl g_ends)), (m_shelves, .inl (cI, 49152, .inl g_shelves)), (m_many, .inl (cI, 3, .inl g_many)), (m_widths, .inl (cI, 3, .inl g_widths)), (m_stack, .inl (cI, 48, .inl g_stack)), (m_mark, .inl (cI, 28000, .inl g_mark)), (m_places, .inl (cI, 32, .inl g_places)), (m_shownMark, .inl (cI, 28000, .inl g_shownMark)), (mo, .inr (8, [.int 1, .int z_size, .ref m_row, .ref m_shelves, .ref m_many, .ref m_widths, .int (nI mk), .ref m_mark, .int (nI sh), .ref m_shownMark, .int z_wasRun, .int z_wrong, .int z_ended, .int (nI sp), .int z_hints, .int z_hasWidth, .int z_width, .int z_first, .int z_moved, .int z_deepest, .int z_x, .int z_y, .int (nI t), .ref m_stack, .ref m_places, .int (nI d), .ref m_kinds, .ref m_ats, .ref m_ends]))] H := hP
    have hD : va_D A_ [(m_kinds, .inl (cI, 11, .inl g_kinds)), (m_ats, .inl (cI, 11, .inl g_ats)), (m_ends, .inl (cI, 11, .inl g_ends)), (m_shelves, .inl (cI, 49152, .inl g_shelves)), (m_many, .inl (cI, 3, .inl g_many)), (m_widths, .inl (cI, 3, .inl g_widths)), (m_stack, .inl (cI, 48, .inl g_stack)), (m_mark, .inl (cI, 28000, .inl g_mark)), (m_places, .inl (cI, 32, .inl g_places)), (m_shownMark, .inl (cI, 28000, .inl g_shownMark)), (mo, .inr (8, [.int 1, .int z_size, .ref m_row, .ref m_shelves, .ref m_many, .ref m_widths, .int (nI mk), .ref m_mark, .int (nI sh), .ref m_shownMark, .int z_wasRun, .int z_wrong, .int z_ended, .int (nI sp), .int z_hints, .int z_hasWidth, .int z_width, .int z_first, .int z_moved, .int z_deepest, .int z_x, .int z_y, .int (nI t), .ref m_stack, .ref m_places, .int (nI d), .ref m_kinds, .ref m_ats, .ref m_ends]))] := hD
    refine lv_if_eq (tgt := 28) hx hb d_Mo_run_23 (by decide) (fun c_23 => absurd c_23 (by decide)) (fun c_23 => ?_)
    clear c_23
    refine lv_iconst (v := 0) hx hb d_Mo_run_26 (by decide) ?_
    exact t_iret hx hb hr hlk d_Mo_run_27 (hP.subm (ws' := [(mo, .inr (8, [.int 1, .int z_size, .ref m_row, .ref m_shelves, .ref m_many, .ref m_widths, .int (nI mk), .ref m_mark, .int (nI sh), .ref m_shownMark, .int z_wasRun, .int z_wrong, .int z_ended, .int (nI sp), .int z_hints, .int z_hasWidth, .int z_width, .int z_first, .int z_moved, .int z_deepest, .int z_x, .int z_y, .int (nI t), .ref m_stack, .ref m_places, .int (nI d), .ref m_kinds, .ref m_ats, .ref m_ends])), (m_kinds, .inl (cI, 11, .inl g_kinds)), (m_ats, .inl (cI, 11, .inl g_ats)), (m_ends, .inl (cI, 11, .inl g_ends)), (m_shelves, .inl (cI, 49152, .inl g_shelves)), (m_many, .inl (cI, 3, .inl g_many)), (m_widths, .inl (cI, 3, .inl g_widths)), (m_stack, .inl (cI, 48, .inl g_stack)), (m_mark, .inl (cI, 28000, .inl g_mark)), (m_places, .inl (cI, 32, .inl g_places)), (m_shownMark, .inl (cI, 28000, .inl g_shownMark))]) [10, 0, 1, 2, 3, 4, 5, 6, 7, 8, 9] rfl) (hD.sub (ws' := [(mo, .inr (8, [.int 1, .int z_size, .ref m_row, .ref m_shelves, .ref m_many, .ref m_widths, .int (nI mk), .ref m_mark, .int (nI sh), .ref m_shownMark, .int z_wasRun, .int z_wrong, .int z_ended, .int (nI sp), .int z_hints, .int z_hasWidth, .int z_width, .int z_first, .int z_moved, .int z_deepest, .int z_x, .int z_y, .int (nI t), .ref m_stack, .ref m_places, .int (nI d), .ref m_kinds, .ref m_ats, .ref m_ends])), (m_kinds, .inl (cI, 11, .inl g_kinds)), (m_ats, .inl (cI, 11, .inl g_ats)), (m_ends, .inl (cI, 11, .inl g_ends)), (m_shelves, .inl (cI, 49152, .inl g_shelves)), (m_many, .inl (cI, 3, .inl g_many)), (m_widths, .inl (cI, 3, .inl g_widths)), (m_stack, .inl (cI, 48, .inl g_stack)), (m_mark, .inl (cI, 28000, .inl g_mark)), (m_places, .inl (cI, 32, .inl g_places)), (m_shownMark, .inl (cI, 28000, .inl g_shownMark))]) [10, 0, 1, 2, 3, 4, 5, 6, 7, 8, 9] rfl rfl) hS ⟨_, rfl, rfl, rfl, Or.inl ⟨if_pos c_2, rfl, rfl⟩⟩
  · refine lv_iload_n hx hb d_Mo_run_5 rfl (lv_at hl 1 rfl) ?_
    refine lv_aload_n hx hb d_Mo_run_6 rfl (lv_at hl 0 rfl) ?_
    refine va_get (D := D) (ci := 8) (v := .ref m_many) (C := R_Mo) (T := F_Mo) (N := 29) hx hb hts i_Mo hown hZ.1 hP 0 rfl rfl 4 (by decide) (hts _ fl_Mo_17) (fun _ h9 => h9) rfl d_Mo_run_7 ?_
    refine lv_iconst (v := 0) hx hb d_Mo_run_10 (by decide) ?_
    refine va_iald hx hb hZ.1 hP 5 1 rfl rfl (show vp_in (nI 0) 3 from vp_in_nI (by decide) (by decide)) d_Mo_run_11 ?_
    refine lv_tv (y := g_many 0) rfl ?_
    refine lv_icmp_lt (tgt := 19) hx hb d_Mo_run_12 (by decide) (fun c_12 => ?_) (fun c_12 => ?_)
    · refine lv_iconst (v := 0) hx hb d_Mo_run_19 (by decide) ?_
      have hC : Cut [(mo, .inr (8, [.int z_fault, .int z_size, .ref m_row, .ref m_shelves, .ref m_many, .ref m_widths, .int (nI mk), .ref m_mark, .int (nI sh), .ref m_shownMark, .int z_wasRun, .int z_wrong, .int z_ended, .int (nI sp), .int z_hints, .int z_hasWidth, .int z_width, .int z_first, .int z_moved, .int z_deepest, .int z_x, .int z_y, .int (nI t), .ref m_stack, .ref m_places, .int (nI d), .ref m_kinds, .ref m_ats, .ref m_ends])), (m_kinds, .inl (cI, 11, .inl g_kinds)), (m_ats, .inl (cI, 11, .inl g_ats)), (m_ends, .inl (cI, 11, .inl g_ends)), (m_shelves, .inl (cI, 49152, .inl g_shelves)), (m_many, .inl (cI, 3, .inl g_many)), (m_widths, .inl (cI, 3, .inl g_widths)), (m_stack, .inl (cI, 48, .inl g_stack)), (m_mark, .inl (cI, 28000, .inl g_mark)), (m_places, .inl (cI, 32, .inl g_places)), (m_shownMark, .inl (cI, 28000, .inl g_shownMark))] [(mo, .inr (8, [.int z_fault, .int z_size, .ref m_row, .ref m_shelves, .ref m_many, .ref m_widths, .int (nI mk), .ref m_mark, .int (nI sh), .ref m_shownMark, .int z_wasRun, .int z_wrong, .int z_ended, .int (nI sp), .int z_hints, .int z_hasWidth, .int z_width, .int z_first, .int z_moved, .int z_deepest, .int z_x, .int z_y, .int (nI t), .ref m_stack, .ref m_places, .int (nI d), .ref m_kinds, .ref m_ats, .ref m_ends]))] [(m_kinds, .inl (cI, 11, .inl g_kinds)), (m_ats, .inl (cI, 11, .inl g_ats)), (m_ends, .inl (cI, 11, .inl g_ends)), (m_shelves, .inl (cI, 49152, .inl g_shelves)), (m_many, .inl (cI, 3, .inl g_many)), (m_widths, .inl (cI, 3, .inl g_widths)), (m_stack, .inl (cI, 48, .inl g_stack)), (m_mark, .inl (cI, 28000, .inl g_mark)), (m_places, .inl (cI, 32, .inl g_places)), (m_shownMark, .inl (cI, 28000, .inl g_shownMark))] [0] [1, 2, 3, 4, 5, 6, 7, 8, 9, 10] := ⟨rfl, rfl, rfl, rfl, by decide⟩
      refine goI0 (trV (As := [.int 0]) (rest := []) ⟨hx, hb, hml, hown, hts⟩ gd_good (c_Mo_refused l D cB cI cJ mo m_row m_shelves m_many m_widths m_mark m_shownMark m_stack m_places m_kinds m_ats m_ends mk sp t d z_fault z_size (nI sh) z_wasRun z_wrong z_ended z_hints z_hasWidth z_width z_first z_moved z_deepest z_x z_y 0) cal_Mo_refused ml_Mo_51 ⟨Nat.le_of_ble_eq_true rfl, Nat.le_of_ble_eq_true rfl⟩ hZ hP hD hC 0 (ci := 8) rfl rfl rfl rfl hl.1 rfl (Nat.le_of_ble_eq_true rfl) d_Mo_run_20 ⟨Nat.le_of_ble_eq_true rfl, Nat.le_of_ble_eq_true rfl⟩) hZ hP hD hS hC (fun r_20 w1 H locs hq hP hD hS => ?_)
      obtain ⟨rq_20, rfl⟩ := hq
      have rq_20 : r_20 = 0 := rq_20
      subst rq_20
      have hP : va_P D classes [(m_kinds, .inl (cI, 11, .inl g_kinds)), (m_ats, .inl (cI, 11, .inl g_ats)), (m_ends, .inl (cI, 11, .inl g_ends)), (m_shelves, .inl (cI, 49152, .inl g_shelves)), (m_many, .inl (cI, 3, .inl g_many)), (m_widths, .inl (cI, 3, .inl g_widths)), (m_stack, .inl (cI, 48, .inl g_stack)), (m_mark, .inl (cI, 28000, .inl g_mark)), (m_places, .inl (cI, 32, .inl g_places)), (m_shownMark, .inl (cI, 28000, .inl g_shownMark)), (mo, .inr (8, [.int 0, .int z_size, .ref m_row, .ref m_shelves, .ref m_many, .ref m_widths, .int (nI mk), .ref m_mark, .int (nI sh), .ref m_shownMark, .int z_wasRun, .int z_wrong, .int z_ended, .int (nI sp), .int z_hints, .int z_hasWidth, .int z_width, .int z_first, .int z_moved, .int z_deepest, .int z_x, .int z_y, .int (nI t), .ref m_stack, .ref m_places, .int (nI d), .ref m_kinds, .ref m_ats, .ref m_ends]))] H := hP
      have hD : va_D A_ [(m_kinds, .inl (cI, 11, .inl g_kinds)), (m_ats, .inl (cI, 11, .inl g_ats)), (m_ends, .inl (cI, 11, .inl g_ends)), (m_shelves, .inl (cI, 49152, .inl g_shelves)), (m_many, .inl (cI, 3, .inl g_many)), (m_widths, .inl (cI, 3, .inl g_widths)), (m_stack, .inl (cI, 48, .inl g_stack)), (m_mark, .inl (cI, 28000, .inl g_mark)), (m_places, .inl (cI, 32, .inl g_places)), (m_shownMark, .inl (cI, 28000, .inl g_shownMark)), (mo, .inr (8, [.int 0, .int z_size, .ref m_row, .ref m_shelves, .ref m_many, .ref m_widths, .int (nI mk), .ref m_mark, .int (nI sh), .ref m_shownMark, .int z_wasRun, .int z_wrong, .int z_ended, .int (nI sp), .int z_hints, .int z_hasWidth, .int z_width, .int z_first, .int z_moved, .int z_deepest, .int z_x, .int z_y, .int (nI t), .ref m_stack, .ref m_places, .int (nI d), .ref m_kinds, .ref m_ats, .ref m_ends]))] := hD
      refine lv_if_eq (tgt := 28) hx hb d_Mo_run_23 (by decide) (fun c_23 => ?_) (fun c_23 => absurd (by decide) c_23)
      clear c_23
      refine lv_aload_n hx hb d_Mo_run_28 rfl (lv_at hl 0 rfl) ?_
      refine lv_iconst (v := 1) hx hb d_Mo_run_29 (by decide) ?_
      refine va_put (D := D) (ci := 8) (v := .int 1) (ty := .boolean) (C := R_Mo) (T := F_Mo) (N := 29) hx hb hts i_Mo t_Mo t_Mo_ok n_Mo hown hZ.1 hP hD hS 10 rfl rfl 10 (by decide) (hts _ fl_Mo_85) (fun _ h9 => h9) rfl (by decide +kernel) (by decide +kernel) rfl (Nat.le_of_ble_eq_true rfl) d_Mo_run_30 (fun H locs hP hD hS => ?_)
      have hP : va_P D classes [(m_kinds, .inl (cI, 11, .inl g_kinds)), (m_ats, .inl (cI, 11, .inl g_ats)), (m_ends, .inl (cI, 11, .inl g_ends)), (m_shelves, .inl (cI, 49152, .inl g_shelves)), (m_many, .inl (cI, 3, .inl g_many)), (m_widths, .inl (cI, 3, .inl g_widths)), (m_stack, .inl (cI, 48, .inl g_stack)), (m_mark, .inl (cI, 28000, .inl g_mark)), (m_places, .inl (cI, 32, .inl g_places)), (m_shownMark, .inl (cI, 28000, .inl g_shownMark)), (mo, .inr (8, [.int 0, .int z_size, .ref m_row, .ref m_shelves, .ref m_many, .ref m_widths, .int (nI mk), .ref m_mark, .int (nI sh), .ref m_shownMark, .int 1, .int z_wrong, .int z_ended, .int (nI sp), .int z_hints, .int z_hasWidth, .int z_width, .int z_first, .int z_moved, .int z_deepest, .int z_x, .int z_y, .int (nI t), .ref m_stack, .ref m_places, .int (nI d), .ref m_kinds, .ref m_ats, .ref m_ends]))] H := hP
      have hD : va_D A_ [(m_kinds, .inl (cI, 11, .inl g_kinds)), (m_ats, .inl (cI, 11, .inl g_ats)), (m_ends, .inl (cI, 11, .inl g_ends)), (m_shelves, .inl (cI, 49152, .inl g_shelves)), (m_many, .inl (cI, 3, .inl g_many)), (m_widths, .inl (cI, 3, .inl g_widths)), (m_stack, .inl (cI, 48, .inl g_stack)), (m_mark, .inl (cI, 28000, .inl g_mark)), (m_places, .inl (cI, 32, .inl g_places)), (m_shownMark, .inl (cI, 28000, .inl g_shownMark)), (mo, .inr (8, [.int 0, .int z_size, .ref m_row, .ref m_shelves, .ref m_many, .ref m_widths, .int (nI mk), .ref m_mark, .int (nI sh), .ref m_shownMark, .int 1, .int z_wrong, .int z_ended, .int (nI sp), .int z_hints, .int z_hasWidth, .int z_width, .int z_first, .int z_moved, .int z_deepest, .int z_x, .int z_y, .int (nI t), .ref m_stack, .ref m_places, .int (nI d), .ref m_kinds, .ref m_ats, .ref m_ends]))] := hD
      refine lv_aload_n hx hb d_Mo_run_33 rfl (lv_at hl 0 rfl) ?_
      refine lv_iconst (v := 0) hx hb d_Mo_run_34 (by decide) ?_
      refine va_put (D := D) (ci := 8) (v := .int 0) (ty := .int) (C := R_Mo) (T := F_Mo) (N := 29) hx hb hts i_Mo t_Mo t_Mo_ok n_Mo hown hZ.1 hP hD hS 10 rfl rfl 11 (by decide) (hts _ fl_Mo_75) (fun _ h9 => h9) rfl (by decide +kernel) rfl rfl (Nat.le_of_ble_eq_true rfl) d_Mo_run_35 (fun H locs hP hD hS => ?_)
      have hP : va_P D classes [(m_kinds, .inl (cI, 11, .inl g_kinds)), (m_ats, .inl (cI, 11, .inl g_ats)), (m_ends, .inl (cI, 11, .inl g_ends)), (m_shelves, .inl (cI, 49152, .inl g_shelves)), (m_many, .inl (cI, 3, .inl g_many)), (m_widths, .inl (cI, 3, .inl g_widths)), (m_stack, .inl (cI, 48, .inl g_stack)), (m_mark, .inl (cI, 28000, .inl g_mark)), (m_places, .inl (cI, 32, .inl g_places)), (m_shownMark, .inl (cI, 28000, .inl g_shownMark)), (mo, .inr (8, [.int 0, .int z_size, .ref m_row, .ref m_shelves, .ref m_many, .ref m_widths, .int (nI mk), .ref m_mark, .int (nI sh), .ref m_shownMark, .int 1, .int 0, .int z_ended, .int (nI sp), .int z_hints, .int z_hasWidth, .int z_width, .int z_first, .int z_moved, .int z_deepest, .int z_x, .int z_y, .int (nI t), .ref m_stack, .ref m_places, .int (nI d), .ref m_kinds, .ref m_ats, .ref m_ends]))] H := hP
      have hD : va_D A_ [(m_kinds, .inl (cI, 11, .inl g_kinds)), (m_ats, .inl (cI, 11, .inl g_ats)), (m_ends, .inl (cI, 11, .inl g_ends)), (m_shelves, .inl (cI, 49152, .inl g_shelves)), (m_many, .inl (cI, 3, .inl g_many)), (m_widths, .inl (cI, 3, .inl g_widths)), (m_stack, .inl (cI, 48, .inl g_stack)), (m_mark, .inl (cI, 28000, .inl g_mark)), (m_places, .inl (cI, 32, .inl g_places)), (m_shownMark, .inl (cI, 28000, .inl g_shownMark)), (mo, .inr (8, [.int 0, .int z_size, .ref m_row, .ref m_shelves, .ref m_many, .ref m_widths, .int (nI mk), .ref m_mark, .int (nI sh), .ref m_shownMark, .int 1, .int 0, .int z_ended, .int (nI sp), .int z_hints, .int z_hasWidth, .int z_width, .int z_first, .int z_moved, .int z_deepest, .int z_x, .int z_y, .int (nI t), .ref m_stack, .ref m_places, .int (nI d), .ref m_kinds, .ref m_ats, .ref m_ends]))] := hD
      refine lv_aload_n hx hb d_Mo_run_38 rfl (lv_at hl 0 rfl) ?_
      refine lv_iconst (v := 0) hx hb d_Mo_run_39 (by decide) ?_
      refine va_put (D := D) (ci := 8) (v := .int 0) (ty := .boolean) (C := R_Mo) (T := F_Mo) (N := 29) hx hb hts i_Mo t_Mo t_Mo_ok n_Mo hown hZ.1 hP hD hS 10 rfl rfl 12 (by decide) (hts _ fl_Mo_89) (fun _ h9 => h9) rfl (by decide +kernel) (by decide +kernel) rfl (Nat.le_of_ble_eq_true rfl) d_Mo_run_40 (fun H locs hP hD hS => ?_)
      have hP : va_P D classes [(m_kinds, .inl (cI, 11, .inl g_kinds)), (m_ats, .inl (cI, 11, .inl g_ats)), (m_ends, .inl (cI, 11, .inl g_ends)), (m_shelves, .inl (cI, 49152, .inl g_shelves)), (m_many, .inl (cI, 3, .inl g_many)), (m_widths, .inl (cI, 3, .inl g_widths)), (m_stack, .inl (cI, 48, .inl g_stack)), (m_mark, .inl (cI, 28000, .inl g_mark)), (m_places, .inl (cI, 32, .inl g_places)), (m_shownMark, .inl (cI, 28000, .inl g_shownMark)), (mo, .inr (8, [.int 0, .int z_size, .ref m_row, .ref m_shelves, .ref m_many, .ref m_widths, .int (nI mk), .ref m_mark, .int (nI sh), .ref m_shownMark, .int 1, .int 0, .int 0, .int (nI sp), .int z_hints, .int z_hasWidth, .int z_width, .int z_first, .int z_moved, .int z_deepest, .int z_x, .int z_y, .int (nI t), .ref m_stack, .ref m_places, .int (nI d), .ref m_kinds, .ref m_ats, .ref m_ends]))] H := hP
      have hD : va_D A_ [(m_kinds, .inl (cI, 11, .inl g_kinds)), (m_ats, .inl (cI, 11, .inl g_ats)), (m_ends, .inl (cI, 11, .inl g_ends)), (m_shelves, .inl (cI, 49152, .inl g_shelves)), (m_many, .inl (cI, 3, .inl g_many)), (m_widths, .inl (cI, 3, .inl g_widths)), (m_stack, .inl (cI, 48, .inl g_stack)), (m_mark, .inl (cI, 28000, .inl g_mark)), (m_places, .inl (cI, 32, .inl g_places)), (m_shownMark, .inl (cI, 28000, .inl g_shownMark)), (mo, .inr (8, [.int 0, .int z_size, .ref m_row, .ref m_shelves, .ref m_many, .ref m_widths, .int (nI mk), .ref m_mark, .int (nI sh), .ref m_shownMark, .int 1, .int 0, .int 0, .int (nI sp), .int z_hints, .int z_hasWidth, .int z_width, .int z_first, .int z_moved, .int z_deepest, .int z_x, .int z_y, .int (nI t), .ref m_stack, .ref m_places, .int (nI d), .ref m_kinds, .ref m_ats, .ref m_ends]))] := hD
      refine lv_aload_n hx hb d_Mo_run_43 rfl (lv_at hl 0 rfl) ?_
      refine lv_iconst (v := 0) hx hb d_Mo_run_44 (by decide) ?_
      refine va_put (D := D) (ci := 8) (v := .int 0) (ty := .int) (C := R_Mo) (T := F_Mo) (N := 29) hx hb hts i_Mo t_Mo t_Mo_ok n_Mo hown hZ.1 hP hD hS 10 rfl rfl 13 (by decide) (hts _ fl_Mo_92) (fun _ h9 => h9) rfl (by decide +kernel) rfl rfl (Nat.le_of_ble_eq_true rfl) d_Mo_run_45 (fun H locs hP hD hS => ?_)
      have hP : va_P D classes [(m_kinds, .inl (cI, 11, .inl g_kinds)), (m_ats, .inl (cI, 11, .inl g_ats)), (m_ends, .inl (cI, 11, .inl g_ends)), (m_shelves, .inl (cI, 49152, .inl g_shelves)), (m_many, .inl (cI, 3, .inl g_many)), (m_widths, .inl (cI, 3, .inl g_widths)), (m_stack, .inl (cI, 48, .inl g_stack)), (m_mark, .inl (cI, 28000, .inl g_mark)), (m_places, .inl (cI, 32, .inl g_places)), (m_shownMark, .inl (cI, 28000, .inl g_shownMark)), (mo, .inr (8, [.int 0, .int z_size, .ref m_row, .ref m_shelves, .ref m_many, .ref m_widths, .int (nI mk), .ref m_mark, .int (nI sh), .ref m_shownMark, .int 1, .int 0, .int 0, .int 0, .int z_hints, .int z_hasWidth, .int z_width, .int z_first, .int z_moved, .int z_deepest, .int z_x, .int z_y, .int (nI t), .ref m_stack, .ref m_places, .int (nI d), .ref m_kinds, .ref m_ats, .ref m_ends]))] H := hP
      have hD : va_D A_ [(m_kinds, .inl (cI, 11, .inl g_kinds)), (m_ats, .inl (cI, 11, .inl g_ats)), (m_ends, .inl (cI, 11, .inl g_ends)), (m_shelves, .inl (cI, 49152, .inl g_shelves)), (m_many, .inl (cI, 3, .inl g_many)), (m_widths, .inl (cI, 3, .inl g_widths)), (m_stack, .inl (cI, 48, .inl g_stack)), (m_mark, .inl (cI, 28000, .inl g_mark)), (m_places, .inl (cI, 32, .inl g_places)), (m_shownMark, .inl (cI, 28000, .inl g_shownMark)), (mo, .inr (8, [.int 0, .int z_size, .ref m_row, .ref m_shelves, .ref m_many, .ref m_widths, .int (nI mk), .ref m_mark, .int (nI sh), .ref m_shownMark, .int 1, .int 0, .int 0, .int 0, .int z_hints, .int z_hasWidth, .int z_width, .int z_first, .int z_moved, .int z_deepest, .int z_x, .int z_y, .int (nI t), .ref m_stack, .ref m_places, .int (nI d), .ref m_kinds, .ref m_ats, .ref m_ends]))] := hD
      refine lv_aload_n hx hb d_Mo_run_48 rfl (lv_at hl 0 rfl) ?_
      refine lv_iconst (v := 0) hx hb d_Mo_run_49 (by decide) ?_
      refine va_put (D := D) (ci := 8) (v := .int 0) (ty := .int) (C := R_Mo) (T := F_Mo) (N := 29) hx hb hts i_Mo t_Mo t_Mo_ok n_Mo hown hZ.1 hP hD hS 10 rfl rfl 14 (by decide) (hts _ fl_Mo_95) (fun _ h9 => h9) rfl (by decide +kernel) rfl rfl (Nat.le_of_ble_eq_true rfl) d_Mo_run_50 (fun H locs hP hD hS => ?_)
      have hP : va_P D classes [(m_kinds, .inl (cI, 11, .inl g_kinds)), (m_ats, .inl (cI, 11, .inl g_ats)), (m_ends, .inl (cI, 11, .inl g_ends)), (m_shelves, .inl (cI, 49152, .inl g_shelves)), (m_many, .inl (cI, 3, .inl g_many)), (m_widths, .inl (cI, 3, .inl g_widths)), (m_stack, .inl (cI, 48, .inl g_stack)), (m_mark, .inl (cI, 28000, .inl g_mark)), (m_places, .inl (cI, 32, .inl g_places)), (m_shownMark, .inl (cI, 28000, .inl g_shownMark)), (mo, .inr (8, [.int 0, .int z_size, .ref m_row, .ref m_shelves, .ref m_many, .ref m_widths, .int (nI mk), .ref m_mark, .int (nI sh), .ref m_shownMark, .int 1, .int 0, .int 0, .int 0, .int 0, .int z_hasWidth, .int z_width, .int z_first, .int z_moved, .int z_deepest, .int z_x, .int z_y, .int (nI t), .ref m_stack, .ref m_places, .int (nI d), .ref m_kinds, .ref m_ats, .ref m_ends]))] H := hP
      have hD : va_D A_ [(m_kinds, .inl (cI, 11, .inl g_kinds)), (m_ats, .inl (cI, 11, .inl g_ats)), (m_ends, .inl (cI, 11, .inl g_ends)), (m_shelves, .inl (cI, 49152, .inl g_shelves)), (m_many, .inl (cI, 3, .inl g_many)), (m_widths, .inl (cI, 3, .inl g_widths)), (m_stack, .inl (cI, 48, .inl g_stack)), (m_mark, .inl (cI, 28000, .inl g_mark)), (m_places, .inl (cI, 32, .inl g_places)), (m_shownMark, .inl (cI, 28000, .inl g_shownMark)), (mo, .inr (8, [.int 0, .int z_size, .ref m_row, .ref m_shelves, .ref m_many, .ref m_widths, .int (nI mk), .ref m_mark, .int (nI sh), .ref m_shownMark, .int 1, .int 0, .int 0, .int 0, .int 0, .int z_hasWidth, .int z_width, .int z_first, .int z_moved, .int z_deepest, .int z_x, .int z_y, .int (nI t), .ref m_stack, .ref m_places, .int (nI d), .ref m_kinds, .ref m_ats, .ref m_ends]))] := hD
      refine lv_aload_n hx hb d_Mo_run_53 rfl (lv_at hl 0 rfl) ?_
      refine lv_iconst (v := 0) hx hb d_Mo_run_54 (by decide) ?_
      refine va_put (D := D) (ci := 8) (v := .int 0) (ty := .boolean) (C := R_Mo) (T := F_Mo) (N := 29) hx hb hts i_Mo t_Mo t_Mo_ok n_Mo hown hZ.1 hP hD hS 10 rfl rfl 15 (by decide) (hts _ fl_Mo_98) (fun _ h9 => h9) rfl (by decide +kernel) (by decide +kernel) rfl (Nat.le_of_ble_eq_true rfl) d_Mo_run_55 (fun H locs hP hD hS => ?_)
      have hP : va_P D classes [(m_kinds, .inl (cI, 11, .inl g_kinds)), (m_ats, .inl (cI, 11, .inl g_ats)), (m_ends, .inl (cI, 11, .inl g_ends)), (m_shelves, .inl (cI, 49152, .inl g_shelves)), (m_many, .inl (cI, 3, .inl g_many)), (m_widths, .inl (cI, 3, .inl g_widths)), (m_stack, .inl (cI, 48, .inl g_stack)), (m_mark, .inl (cI, 28000, .inl g_mark)), (m_places, .inl (cI, 32, .inl g_places)), (m_shownMark, .inl (cI, 28000, .inl g_shownMark)), (mo, .inr (8, [.int 0, .int z_size, .ref m_row, .ref m_shelves, .ref m_many, .ref m_widths, .int (nI mk), .ref m_mark, .int (nI sh), .ref m_shownMark, .int 1, .int 0, .int 0, .int 0, .int 0, .int 0, .int z_width, .int z_first, .int z_moved, .int z_deepest, .int z_x, .int z_y, .int (nI t), .ref m_stack, .ref m_places, .int (nI d), .ref m_kinds, .ref m_ats, .ref m_ends]))] H := hP
      have hD : va_D A_ [(m_kinds, .inl (cI, 11, .inl g_kinds)), (m_ats, .inl (cI, 11, .inl g_ats)), (m_ends, .inl (cI, 11, .inl g_ends)), (m_shelves, .inl (cI, 49152, .inl g_shelves)), (m_many, .inl (cI, 3, .inl g_many)), (m_widths, .inl (cI, 3, .inl g_widths)), (m_stack, .inl (cI, 48, .inl g_stack)), (m_mark, .inl (cI, 28000, .inl g_mark)), (m_places, .inl (cI, 32, .inl g_places)), (m_shownMark, .inl (cI, 28000, .inl g_shownMark)), (mo, .inr (8, [.int 0, .int z_size, .ref m_row, .ref m_shelves, .ref m_many, .ref m_widths, .int (nI mk), .ref m_mark, .int (nI sh), .ref m_shownMark, .int 1, .int 0, .int 0, .int 0, .int 0, .int 0, .int z_width, .int z_first, .int z_moved, .int z_deepest, .int z_x, .int z_y, .int (nI t), .ref m_stack, .ref m_places, .int (nI d), .ref m_kinds, .ref m_ats, .ref m_ends]))] := hD
      refine lv_aload_n hx hb d_Mo_run_58 rfl (lv_at hl 0 rfl) ?_
      refine lv_iconst (v := 0) hx hb d_Mo_run_59 (by decide) ?_
      refine va_put (D := D) (ci := 8) (v := .int 0) (ty := .int) (C := R_Mo) (T := F_Mo) (N := 29) hx hb hts i_Mo t_Mo t_Mo_ok n_Mo hown hZ.1 hP hD hS 10 rfl rfl 16 (by decide) (hts _ fl_Mo_101) (fun _ h9 => h9) rfl (by decide +kernel) rfl rfl (Nat.le_of_ble_eq_true rfl) d_Mo_run_60 (fun H locs hP hD hS => ?_)
      have hP : va_P D classes [(m_kinds, .inl (cI, 11, .inl g_kinds)), (m_ats, .inl (cI, 11, .inl g_ats)), (m_ends, .inl (cI, 11, .inl g_ends)), (m_shelves, .inl (cI, 49152, .inl g_shelves)), (m_many, .inl (cI, 3, .inl g_many)), (m_widths, .inl (cI, 3, .inl g_widths)), (m_stack, .inl (cI, 48, .inl g_stack)), (m_mark, .inl (cI, 28000, .inl g_mark)), (m_places, .inl (cI, 32, .inl g_places)), (m_shownMark, .inl (cI, 28000, .inl g_shownMark)), (mo, .inr (8, [.int 0, .int z_size, .ref m_row, .ref m_shelves, .ref m_many, .ref m_widths, .int (nI mk), .ref m_mark, .int (nI sh), .ref m_shownMark, .int 1, .int 0, .int 0, .int 0, .int 0, .int 0, .int 0, .int z_first, .int z_moved, .int z_deepest, .int z_x, .int z_y, .int (nI t), .ref m_stack, .ref m_places, .int (nI d), .ref m_kinds, .ref m_ats, .ref m_ends]))] H := hP
      have hD : va_D A_ [(m_kinds, .inl (cI, 11, .inl g_kinds)), (m_ats, .inl (cI, 11, .inl g_ats)), (m_ends, .inl (cI, 11, .inl g_ends)), (m_shelves, .inl (cI, 49152, .inl g_shelves)), (m_many, .inl (cI, 3, .inl g_many)), (m_widths, .inl (cI, 3, .inl g_widths)), (m_stack, .inl (cI, 48, .inl g_stack)), (m_mark, .inl (cI, 28000, .inl g_mark)), (m_places, .inl (cI, 32, .inl g_places)), (m_shownMark, .inl (cI, 28000, .inl g_shownMark)), (mo, .inr (8, [.int 0, .int z_size, .ref m_row, .ref m_shelves, .ref m_many, .ref m_widths, .int (nI mk), .ref m_mark, .int (nI sh), .ref m_shownMark, .int 1, .int 0, .int 0, .int 0, .int 0, .int 0, .int 0, .int z_first, .int z_moved, .int z_deepest, .int z_x, .int z_y, .int (nI t), .ref m_stack, .ref m_places, .int (nI d), .ref m_kinds, .ref m_ats, .ref m_ends]))] := hD
      refine lv_aload_n hx hb d_Mo_run_63 rfl (lv_at hl 0 rfl) ?_
      refine lv_iconst (v := 1) hx hb d_Mo_run_64 (by decide) ?_
      refine va_put (D := D) (ci := 8) (v := .int 1) (ty := .boolean) (C := R_Mo) (T := F_Mo) (N := 29) hx hb hts i_Mo t_Mo t_Mo_ok n_Mo hown hZ.1 hP hD hS 10 rfl rfl 17 (by decide) (hts _ fl_Mo_104) (fun _ h9 => h9) rfl (by decide +kernel) (by decide +kernel) rfl (Nat.le_of_ble_eq_true rfl) d_Mo_run_65 (fun H locs hP hD hS => ?_)
      have hP : va_P D classes [(m_kinds, .inl (cI, 11, .inl g_kinds)), (m_ats, .inl (cI, 11, .inl g_ats)), (m_ends, .inl (cI, 11, .inl g_ends)), (m_shelves, .inl (cI, 49152, .inl g_shelves)), (m_many, .inl (cI, 3, .inl g_many)), (m_widths, .inl (cI, 3, .inl g_widths)), (m_stack, .inl (cI, 48, .inl g_stack)), (m_mark, .inl (cI, 28000, .inl g_mark)), (m_places, .inl (cI, 32, .inl g_places)), (m_shownMark, .inl (cI, 28000, .inl g_shownMark)), (mo, .inr (8, [.int 0, .int z_size, .ref m_row, .ref m_shelves, .ref m_many, .ref m_widths, .int (nI mk), .ref m_mark, .int (nI sh), .ref m_shownMark, .int 1, .int 0, .int 0, .int 0, .int 0, .int 0, .int 0, .int 1, .int z_moved, .int z_deepest, .int z_x, .int z_y, .int (nI t), .ref m_stack, .ref m_places, .int (nI d), .ref m_kinds, .ref m_ats, .ref m_ends]))] H := hP
      have hD : va_D A_ [(m_kinds, .inl (cI, 11, .inl g_kinds)), (m_ats, .inl (cI, 11, .inl g_ats)), (m_ends, .inl (cI, 11, .inl g_ends)), (m_shelves, .inl (cI, 49152, .inl g_shelves)), (m_many, .inl (cI, 3, .inl g_many)), (m_widths, .inl (cI, 3, .inl g_widths)), (m_stack, .inl (cI, 48, .inl g_stack)), (m_mark, .inl (cI, 28000, .inl g_mark)), (m_places, .inl (cI, 32, .inl g_places)), (m_shownMark, .inl (cI, 28000, .inl g_shownMark)), (mo, .inr (8, [.int 0, .int z_size, .ref m_row, .ref m_shelves, .ref m_many, .ref m_widths, .int (nI mk), .ref m_mark, .int (nI sh), .ref m_shownMark, .int 1, .int 0, .int 0, .int 0, .int 0, .int 0, .int 0, .int 1, .int z_moved, .int z_deepest, .int z_x, .int z_y, .int (nI t), .ref m_stack, .ref m_places, .int (nI d), .ref m_kinds, .ref m_ats, .ref m_ends]))] := hD
      refine lv_aload_n hx hb d_Mo_run_68 rfl (lv_at hl 0 rfl) ?_
      refine lv_iconst (v := 0) hx hb d_Mo_run_69 (by decide) ?_
      refine va_put (D := D) (ci := 8) (v := .int 0) (ty := .boolean) (C := R_Mo) (T := F_Mo) (N := 29) hx hb hts i_Mo t_Mo t_Mo_ok n_Mo hown hZ.1 hP hD hS 10 rfl rfl 18 (by decide) (hts _ fl_Mo_107) (fun _ h9 => h9) rfl (by decide +kernel) (by decide +kernel) rfl (Nat.le_of_ble_eq_true rfl) d_Mo_run_70 (fun H locs hP hD hS => ?_)
      have hP : va_P D classes [(m_kinds, .inl (cI, 11, .inl g_kinds)), (m_ats, .inl (cI, 11, .inl g_ats)), (m_ends, .inl (cI, 11, .inl g_ends)), (m_shelves, .inl (cI, 49152, .inl g_shelves)), (m_many, .inl (cI, 3, .inl g_many)), (m_widths, .inl (cI, 3, .inl g_widths)), (m_stack, .inl (cI, 48, .inl g_stack)), (m_mark, .inl (cI, 28000, .inl g_mark)), (m_places, .inl (cI, 32, .inl g_places)), (m_shownMark, .inl (cI, 28000, .inl g_shownMark)), (mo, .inr (8, [.int 0, .int z_size, .ref m_row, .ref m_shelves, .ref m_many, .ref m_widths, .int (nI mk), .ref m_mark, .int (nI sh), .ref m_shownMark, .int 1, .int 0, .int 0, .int 0, .int 0, .int 0, .int 0, .int 1, .int 0, .int z_deepest, .int z_x, .int z_y, .int (nI t), .ref m_stack, .ref m_places, .int (nI d), .ref m_kinds, .ref m_ats, .ref m_ends]))] H := hP
      have hD : va_D A_ [(m_kinds, .inl (cI, 11, .inl g_kinds)), (m_ats, .inl (cI, 11, .inl g_ats)), (m_ends, .inl (cI, 11, .inl g_ends)), (m_shelves, .inl (cI, 49152, .inl g_shelves)), (m_many, .inl (cI, 3, .inl g_many)), (m_widths, .inl (cI, 3, .inl g_widths)), (m_stack, .inl (cI, 48, .inl g_stack)), (m_mark, .inl (cI, 28000, .inl g_mark)), (m_places, .inl (cI, 32, .inl g_places)), (m_shownMark, .inl (cI, 28000, .inl g_shownMark)), (mo, .inr (8, [.int 0, .int z_size, .ref m_row, .ref m_shelves, .ref m_many, .ref m_widths, .int (nI mk), .ref m_mark, .int (nI sh), .ref m_shownMark, .int 1, .int 0, .int 0, .int 0, .int 0, .int 0, .int 0, .int 1, .int 0, .int z_deepest, .int z_x, .int z_y, .int (nI t), .ref m_stack, .ref m_places, .int (nI d), .ref m_kinds, .ref m_ats, .ref m_ends]))] := hD
      refine lv_aload_n hx hb d_Mo_run_73 rfl (lv_at hl 0 rfl) ?_
      refine lv_iconst (v := 0) hx hb d_Mo_run_74 (by decide) ?_
      refine va_put (D := D) (ci := 8) (v := .int 0) (ty := .int) (C := R_Mo) (T := F_Mo) (N := 29) hx hb hts i_Mo t_Mo t_Mo_ok n_Mo hown hZ.1 hP hD hS 10 rfl rfl 19 (by decide) (hts _ fl_Mo_72) (fun _ h9 => h9) rfl (by decide +kernel) rfl rfl (Nat.le_of_ble_eq_true rfl) d_Mo_run_75 (fun H locs hP hD hS => ?_)
      have hP : va_P D classes [(m_kinds, .inl (cI, 11, .inl g_kinds)), (m_ats, .inl (cI, 11, .inl g_ats)), (m_ends, .inl (cI, 11, .inl g_ends)), (m_shelves, .inl (cI, 49152, .inl g_shelves)), (m_many, .inl (cI, 3, .inl g_many)), (m_widths, .inl (cI, 3, .inl g_widths)), (m_stack, .inl (cI, 48, .inl g_stack)), (m_mark, .inl (cI, 28000, .inl g_mark)), (m_places, .inl (cI, 32, .inl g_places)), (m_shownMark, .inl (cI, 28000, .inl g_shownMark)), (mo, .inr (8, [.int 0, .int z_size, .ref m_row, .ref m_shelves, .ref m_many, .ref m_widths, .int (nI mk), .ref m_mark, .int (nI sh), .ref m_shownMark, .int 1, .int 0, .int 0, .int 0, .int 0, .int 0, .int 0, .int 1, .int 0, .int 0, .int z_x, .int z_y, .int (nI t), .ref m_stack, .ref m_places, .int (nI d), .ref m_kinds, .ref m_ats, .ref m_ends]))] H := hP
      have hD : va_D A_ [(m_kinds, .inl (cI, 11, .inl g_kinds)), (m_ats, .inl (cI, 11, .inl g_ats)), (m_ends, .inl (cI, 11, .inl g_ends)), (m_shelves, .inl (cI, 49152, .inl g_shelves)), (m_many, .inl (cI, 3, .inl g_many)), (m_widths, .inl (cI, 3, .inl g_widths)), (m_stack, .inl (cI, 48, .inl g_stack)), (m_mark, .inl (cI, 28000, .inl g_mark)), (m_places, .inl (cI, 32, .inl g_places)), (m_shownMark, .inl (cI, 28000, .inl g_shownMark)), (mo, .inr (8, [.int 0, .int z_size, .ref m_row, .ref m_shelves, .ref m_many, .ref m_widths, .int (nI mk), .ref m_mark, .int (nI sh), .ref m_shownMark, .int 1, .int 0, .int 0, .int 0, .int 0, .int 0, .int 0, .int 1, .int 0, .int 0, .int z_x, .int z_y, .int (nI t), .ref m_stack, .ref m_places, .int (nI d), .ref m_kinds, .ref m_ats, .ref m_ends]))] := hD
      refine lv_aload_n hx hb d_Mo_run_78 rfl (lv_at hl 0 rfl) ?_
      refine lv_iconst (v := 0) hx hb d_Mo_run_79 (by decide) ?_
      refine va_put (D := D) (ci := 8) (v := .int 0) (ty := .int) (C := R_Mo) (T := F_Mo) (N := 29) hx hb hts i_Mo t_Mo t_Mo_ok n_Mo hown hZ.1 hP hD hS 10 rfl rfl 20 (by decide) (hts _ fl_Mo_110) (fun _ h9 => h9) rfl (by decide +kernel) rfl rfl (Nat.le_of_ble_eq_true rfl) d_Mo_run_80 (fun H locs hP hD hS => ?_)
      have hP : va_P D classes [(m_kinds, .inl (cI, 11, .inl g_kinds)), (m_ats, .inl (cI, 11, .inl g_ats)), (m_ends, .inl (cI, 11, .inl g_ends)), (m_shelves, .inl (cI, 49152, .inl g_shelves)), (m_many, .inl (cI, 3, .inl g_many)), (m_widths, .inl (cI, 3, .inl g_widths)), (m_stack, .inl (cI, 48, .inl g_stack)), (m_mark, .inl (cI, 28000, .inl g_mark)), (m_places, .inl (cI, 32, .inl g_places)), (m_shownMark, .inl (cI, 28000, .inl g_shownMark)), (mo, .inr (8, [.int 0, .int z_size, .ref m_row, .ref m_shelves, .ref m_many, .ref m_widths, .int (nI mk), .ref m_mark, .int (nI sh), .ref m_shownMark, .int 1, .int 0, .int 0, .int 0, .int 0, .int 0, .int 0, .int 1, .int 0, .int 0, .int 0, .int z_y, .int (nI t), .ref m_stack, .ref m_places, .int (nI d), .ref m_kinds, .ref m_ats, .ref m_ends]))] H := hP
      have hD : va_D A_ [(m_kinds, .inl (cI, 11, .inl g_kinds)), (m_ats, .inl (cI, 11, .inl g_ats)), (m_ends, .inl (cI, 11, .inl g_ends)), (m_shelves, .inl (cI, 49152, .inl g_shelves)), (m_many, .inl (cI, 3, .inl g_many)), (m_widths, .inl (cI, 3, .inl g_widths)), (m_stack, .inl (cI, 48, .inl g_stack)), (m_mark, .inl (cI, 28000, .inl g_mark)), (m_places, .inl (cI, 32, .inl g_places)), (m_shownMark, .inl (cI, 28000, .inl g_shownMark)), (mo, .inr (8, [.int 0, .int z_size, .ref m_row, .ref m_shelves, .ref m_many, .ref m_widths, .int (nI mk), .ref m_mark, .int (nI sh), .ref m_shownMark, .int 1, .int 0, .int 0, .int 0, .int 0, .int 0, .int 0, .int 1, .int 0, .int 0, .int 0, .int z_y, .int (nI t), .ref m_stack, .ref m_places, .int (nI d), .ref m_kinds, .ref m_ats, .ref m_ends]))] := hD
      refine lv_aload_n hx hb d_Mo_run_83 rfl (lv_at hl 0 rfl) ?_
      refine lv_iconst (v := 0) hx hb d_Mo_run_84 (by decide) ?_
      refine va_put (D := D) (ci := 8) (v := .int 0) (ty := .int) (C := R_Mo) (T := F_Mo) (N := 29) hx hb hts i_Mo t_Mo t_Mo_ok n_Mo hown hZ.1 hP hD hS 10 rfl rfl 21 (by decide) (hts _ fl_Mo_113) (fun _ h9 => h9) rfl (by decide +kernel) rfl rfl (Nat.le_of_ble_eq_true rfl) d_Mo_run_85 (fun H locs hP hD hS => ?_)
      have hP : va_P D classes [(m_kinds, .inl (cI, 11, .inl g_kinds)), (m_ats, .inl (cI, 11, .inl g_ats)), (m_ends, .inl (cI, 11, .inl g_ends)), (m_shelves, .inl (cI, 49152, .inl g_shelves)), (m_many, .inl (cI, 3, .inl g_many)), (m_widths, .inl (cI, 3, .inl g_widths)), (m_stack, .inl (cI, 48, .inl g_stack)), (m_mark, .inl (cI, 28000, .inl g_mark)), (m_places, .inl (cI, 32, .inl g_places)), (m_shownMark, .inl (cI, 28000, .inl g_shownMark)), (mo, .inr (8, [.int 0, .int z_size, .ref m_row, .ref m_shelves, .ref m_many, .ref m_widths, .int (nI mk), .ref m_mark, .int (nI sh), .ref m_shownMark, .int 1, .int 0, .int 0, .int 0, .int 0, .int 0, .int 0, .int 1, .int 0, .int 0, .int 0, .int 0, .int (nI t), .ref m_stack, .ref m_places, .int (nI d), .ref m_kinds, .ref m_ats, .ref m_ends]))] H := hP
      have hD : va_D A_ [(m_kinds, .inl (cI, 11, .inl g_kinds)), (m_ats, .inl (cI, 11, .inl g_ats)), (m_ends, .inl (cI, 11, .inl g_ends)), (m_shelves, .inl (cI, 49152, .inl g_shelves)), (m_many, .inl (cI, 3, .inl g_many)), (m_widths, .inl (cI, 3, .inl g_widths)), (m_stack, .inl (cI, 48, .inl g_stack)), (m_mark, .inl (cI, 28000, .inl g_mark)), (m_places, .inl (cI, 32, .inl g_places)), (m_shownMark, .inl (cI, 28000, .inl g_shownMark)), (mo, .inr (8, [.int 0, .int z_size, .ref m_row, .ref m_shelves, .ref m_many, .ref m_widths, .int (nI mk), .ref m_mark, .int (nI sh), .ref m_shownMark, .int 1, .int 0, .int 0, .int 0, .int 0, .int 0, .int 0, .int 1, .int 0, .int 0, .int 0, .int 0, .int (nI t), .ref m_stack, .ref m_places, .int (nI d), .ref m_kinds, .ref m_ats, .ref m_ends]))] := hD
      refine lv_aload_n hx hb d_Mo_run_88 rfl (lv_at hl 0 rfl) ?_
      refine lv_iconst (v := 0) hx hb d_Mo_run_89 (by decide) ?_
      refine va_put (D := D) (ci := 8) (v := .int 0) (ty := .int) (C := R_Mo) (T := F_Mo) (N := 29) hx hb hts i_Mo t_Mo t_Mo_ok n_Mo hown hZ.1 hP hD hS 10 rfl rfl 22 (by decide) (hts _ fl_Mo_82) (fun _ h9 => h9) rfl (by decide +kernel) rfl rfl (Nat.le_of_ble_eq_true rfl) d_Mo_run_90 (fun H locs hP hD hS => ?_)
      have hP : va_P D classes [(m_kinds, .inl (cI, 11, .inl g_kinds)), (m_ats, .inl (cI, 11, .inl g_ats)), (m_ends, .inl (cI, 11, .inl g_ends)), (m_shelves, .inl (cI, 49152, .inl g_shelves)), (m_many, .inl (cI, 3, .inl g_many)), (m_widths, .inl (cI, 3, .inl g_widths)), (m_stack, .inl (cI, 48, .inl g_stack)), (m_mark, .inl (cI, 28000, .inl g_mark)), (m_places, .inl (cI, 32, .inl g_places)), (m_shownMark, .inl (cI, 28000, .inl g_shownMark)), (mo, .inr (8, [.int 0, .int z_size, .ref m_row, .ref m_shelves, .ref m_many, .ref m_widths, .int (nI mk), .ref m_mark, .int (nI sh), .ref m_shownMark, .int 1, .int 0, .int 0, .int 0, .int 0, .int 0, .int 0, .int 1, .int 0, .int 0, .int 0, .int 0, .int 0, .ref m_stack, .ref m_places, .int (nI d), .ref m_kinds, .ref m_ats, .ref m_ends]))] H := hP
      have hD : va_D A_ [(m_kinds, .inl (cI, 11, .inl g_kinds)), (m_ats, .inl (cI, 11, .inl g_ats)), (m_ends, .inl (cI, 11, .inl g_ends)), (m_shelves, .inl (cI, 49152, .inl g_shelves)), (m_many, .inl (cI, 3, .inl g_many)), (m_widths, .inl (cI, 3, .inl g_widths)), (m_stack, .inl (cI, 48, .inl g_stack)), (m_mark, .inl (cI, 28000, .inl g_mark)), (m_places, .inl (cI, 32, .inl g_places)), (m_shownMark, .inl (cI, 28000, .inl g_shownMark)), (mo, .inr (8, [.int 0, .int z_size, .ref m_row, .ref m_shelves, .ref m_many, .ref m_widths, .int (nI mk), .ref m_mark, .int (nI sh), .ref m_shownMark, .int 1, .int 0, .int 0, .int 0, .int 0, .int 0, .int 0, .int 1, .int 0, .int 0, .int 0, .int 0, .int 0, .ref m_stack, .ref m_places, .int (nI d), .ref m_kinds, .ref m_ats, .ref m_ends]))] := hD
      refine lv_aload_n hx hb d_Mo_run_93 rfl (lv_at hl 0 rfl) ?_
      refine lv_iconst (v := 0) hx hb d_Mo_run_94 (by decide) ?_
      refine va_put (D := D) (ci := 8) (v := .int 0) (ty := .int) (C := R_Mo) (T := F_Mo) (N := 29) hx hb hts i_Mo t_Mo t_Mo_ok n_Mo hown hZ.1 hP hD hS 10 rfl rfl 25 (by decide) (hts _ fl_Mo_65) (fun _ h9 => h9) rfl (by decide +kernel) rfl rfl (Nat.le_of_ble_eq_true rfl) d_Mo_run_95 (fun H locs hP hD hS => ?_)
      have hP : va_P D classes [(m_kinds, .inl (cI, 11, .inl g_kinds)), (m_ats, .inl (cI, 11, .inl g_ats)), (m_ends, .inl (cI, 11, .inl g_ends)), (m_shelves, .inl (cI, 49152, .inl g_shelves)), (m_many, .inl (cI, 3, .inl g_many)), (m_widths, .inl (cI, 3, .inl g_widths)), (m_stack, .inl (cI, 48, .inl g_stack)), (m_mark, .inl (cI, 28000, .inl g_mark)), (m_places, .inl (cI, 32, .inl g_places)), (m_shownMark, .inl (cI, 28000, .inl g_shownMark)), (mo, .inr (8, [.int 0, .int z_size, .ref m_row, .ref m_shelves, .ref m_many, .ref m_widths, .int (nI mk), .ref m_mark, .int (nI sh), .ref m_shownMark, .int 1, .int 0, .int 0, .int 0, .int 0, .int 0, .int 0, .int 1, .int 0, .int 0, .int 0, .int 0, .int 0, .ref m_stack, .ref m_places, .int 0, .ref m_kinds, .ref m_ats, .ref m_ends]))] H := hP
      have hD : va_D A_ [(m_kinds, .inl (cI, 11, .inl g_kinds)), (m_ats, .inl (cI, 11, .inl g_ats)), (m_ends, .inl (cI, 11, .inl g_ends)), (m_shelves, .inl (cI, 49152, .inl g_shelves)), (m_many, .inl (cI, 3, .inl g_many)), (m_widths, .inl (cI, 3, .inl g_widths)), (m_stack, .inl (cI, 48, .inl g_stack)), (m_mark, .inl (cI, 28000, .inl g_mark)), (m_places, .inl (cI, 32, .inl g_places)), (m_shownMark, .inl (cI, 28000, .inl g_shownMark)), (mo, .inr (8, [.int 0, .int z_size, .ref m_row, .ref m_shelves, .ref m_many, .ref m_widths, .int (nI mk), .ref m_mark, .int (nI sh), .ref m_shownMark, .int 1, .int 0, .int 0, .int 0, .int 0, .int 0, .int 0, .int 1, .int 0, .int 0, .int 0, .int 0, .int 0, .ref m_stack, .ref m_places, .int 0, .ref m_kinds, .ref m_ats, .ref m_ends]))] := hD
      refine lv_aload_n hx hb d_Mo_run_98 rfl (lv_at hl 0 rfl) ?_
      refine lv_iconst (v := 0) hx hb d_Mo_run_99 (by decide) ?_
      refine va_put (D := D) (ci := 8) (v := .int 0) (ty := .int) (C := R_Mo) (T := F_Mo) (N := 29) hx hb hts i_Mo t_Mo t_Mo_ok n_Mo hown hZ.1 hP hD hS 10 rfl rfl 6 (by decide) (hts _ fl_Mo_116) (fun _ h9 => h9) rfl (by decide +kernel) rfl rfl (Nat.le_of_ble_eq_true rfl) d_Mo_run_100 (fun H locs hP hD hS => ?_)
      have hP : va_P D classes [(m_kinds, .inl (cI, 11, .inl g_kinds)), (m_ats, .inl (cI, 11, .inl g_ats)), (m_ends, .inl (cI, 11, .inl g_ends)), (m_shelves, .inl (cI, 49152, .inl g_shelves)), (m_many, .inl (cI, 3, .inl g_many)), (m_widths, .inl (cI, 3, .inl g_widths)), (m_stack, .inl (cI, 48, .inl g_stack)), (m_mark, .inl (cI, 28000, .inl g_mark)), (m_places, .inl (cI, 32, .inl g_places)), (m_shownMark, .inl (cI, 28000, .inl g_shownMark)), (mo, .inr (8, [.int 0, .int z_size, .ref m_row, .ref m_shelves, .ref m_many, .ref m_widths, .int 0, .ref m_mark, .int (nI sh), .ref m_shownMark, .int 1, .int 0, .int 0, .int 0, .int 0, .int 0, .int 0, .int 1, .int 0, .int 0, .int 0, .int 0, .int 0, .ref m_stack, .ref m_places, .int 0, .ref m_kinds, .ref m_ats, .ref m_ends]))] H := hP
      have hD : va_D A_ [(m_kinds, .inl (cI, 11, .inl g_kinds)), (m_ats, .inl (cI, 11, .inl g_ats)), (m_ends, .inl (cI, 11, .inl g_ends)), (m_shelves, .inl (cI, 49152, .inl g_shelves)), (m_many, .inl (cI, 3, .inl g_many)), (m_widths, .inl (cI, 3, .inl g_widths)), (m_stack, .inl (cI, 48, .inl g_stack)), (m_mark, .inl (cI, 28000, .inl g_mark)), (m_places, .inl (cI, 32, .inl g_places)), (m_shownMark, .inl (cI, 28000, .inl g_shownMark)), (mo, .inr (8, [.int 0, .int z_size, .ref m_row, .ref m_shelves, .ref m_many, .ref m_widths, .int 0, .ref m_mark, .int (nI sh), .ref m_shownMark, .int 1, .int 0, .int 0, .int 0, .int 0, .int 0, .int 0, .int 1, .int 0, .int 0, .int 0, .int 0, .int 0, .ref m_stack, .ref m_places, .int 0, .ref m_kinds, .ref m_ats, .ref m_ends]))] := hD
      refine lv_iconst (v := 0) hx hb d_Mo_run_103 (by decide) ?_
      refine lv_istore_n (lv' := [(2, .int 0), (0, .ref mo), (1, .int k)]) hx hb d_Mo_run_104 rfl hl (by decide) rfl (fun ls hl => ?_)
      have lp_105 : ∀ (fu : Nat) (q : Nat) (gp : Nat → Int32) (H : Heap) (locs : List Loc) (ls : Array Slot), (q ≤ 32 ∧ ∀ i, i < q → gp i = 0) → (40 - q) < fu → va_P D classes [(mo, .inr (8, [.int 0, .int z_size, .ref m_row, .ref m_shelves, .ref m_many, .ref m_widths, .int (nI 0), .ref m_mark, .int (nI sh), .ref m_shownMark, .int 1, .int 0, .int 0, .int (nI 0), .int 0, .int 0, .int 0, .int 1, .int 0, .int 0, .int 0, .int 0, .int (nI 0), .ref m_stack, .ref m_places, .int (nI 0), .ref m_kinds, .ref m_ats, .ref m_ends])), (m_kinds, .inl (cI, 11, .inl g_kinds)), (m_ats, .inl (cI, 11, .inl g_ats)), (m_ends, .inl (cI, 11, .inl g_ends)), (m_shelves, .inl (cI, 49152, .inl g_shelves)), (m_many, .inl (cI, 3, .inl g_many)), (m_widths, .inl (cI, 3, .inl g_widths)), (m_stack, .inl (cI, 48, .inl g_stack)), (m_mark, .inl (cI, 28000, .inl g_mark)), (m_places, .inl (cI, 32, .inl gp)), (m_shownMark, .inl (cI, 28000, .inl g_shownMark))] H → va_D A_ [(mo, .inr (8, [.int 0, .int z_size, .ref m_row, .ref m_shelves, .ref m_many, .ref m_widths, .int (nI 0), .ref m_mark, .int (nI sh), .ref m_shownMark, .int 1, .int 0, .int 0, .int (nI 0), .int 0, .int 0, .int 0, .int 1, .int 0, .int 0, .int 0, .int 0, .int (nI 0), .ref m_stack, .ref m_places, .int (nI 0), .ref m_kinds, .ref m_ats, .ref m_ends])), (m_kinds, .inl (cI, 11, .inl g_kinds)), (m_ats, .inl (cI, 11, .inl g_ats)), (m_ends, .inl (cI, 11, .inl g_ends)), (m_shelves, .inl (cI, 49152, .inl g_shelves)), (m_many, .inl (cI, 3, .inl g_many)), (m_widths, .inl (cI, 3, .inl g_widths)), (m_stack, .inl (cI, 48, .inl g_stack)), (m_mark, .inl (cI, 28000, .inl g_mark)), (m_places, .inl (cI, 32, .inl gp)), (m_shownMark, .inl (cI, 28000, .inl g_shownMark))] → va_S A_ s_.heap H locs → lv_has ls 3 [(0, .ref mo), (1, .int k), (2, .int (nI q))] → W p_ l e_ ({ frames := 7, cells := 0, slots := 0, locals := 171 }) s_ m_ args_ below_ meth_ c_ H locs (0) (0) (MQT below_ D classes A_ (pI0 (fun r w => (hasS T.1.1 k = 0 ∧ r = 0 ∧ w = [(mo, .inr (8, [.int 1, .int z_size, .ref m_row, .ref m_shelves, .ref m_many, .ref m_widths, .int (nI mk), .ref m_mark, .int (nI sh), .ref m_shownMark, .int z_wasRun, .int z_wrong, .int z_ended, .int (nI sp), .int z_hints, .int z_hasWidth, .int z_width, .int z_first, .int z_moved, .int z_deepest, .int z_x, .int z_y, .int (nI t), .ref m_stack, .ref m_places, .int (nI d), .ref m_kinds, .ref m_ats, .ref m_ends])), (m_kinds, .inl (cI, 11, .inl g_kinds)), (m_ats, .inl (cI, 11, .inl g_ats)), (m_ends, .inl (cI, 11, .inl g_ends)), (m_shelves, .inl (cI, 49152, .inl g_shelves)), (m_many, .inl (cI, 3, .inl g_many)), (m_widths, .inl (cI, 3, .inl g_widths)), (m_stack, .inl (cI, 48, .inl g_stack)), (m_mark, .inl (cI, 28000, .inl g_mark)), (m_places, .inl (cI, 32, .inl g_places)), (m_shownMark, .inl (cI, 28000, .inl g_shownMark))]) ∨ (¬ hasS T.1.1 k = 0 ∧ ∃ (z_fault' : Int32) (z_wasRun' : Int32) (z_wrong' : Int32) (z_ended' : Int32) (sp' : Nat) (z_hints' : Int32) (z_hasWidth' : Int32) (z_width' : Int32) (z_first' : Int32) (z_moved' : Int32) (z_deepest' : Int32) (z_x' : Int32) (z_y' : Int32) (t' : Nat) (d' : Nat) (mk' : Nat) (sh' : Nat) (g_kinds' g_ats' g_ends' g_stack' g_mark' g_places' g_shownMark' : Nat → Int32), w = [(mo, .inr (8, [.int z_fault', .int z_size, .ref m_row, .ref m_shelves, .ref m_many, .ref m_widths, .int (nI mk'), .ref m_mark, .int (nI sh'), .ref m_shownMark, .int z_wasRun', .int z_wrong', .int z_ended', .int (nI sp'), .int z_hints', .int z_hasWidth', .int z_width', .int z_first', .int z_moved', .int z_deepest', .int z_x', .int z_y', .int (nI t'), .ref m_stack, .ref m_places, .int (nI d'), .ref m_kinds, .ref m_ats, .ref m_ends])), (m_kinds, .inl (cI, 11, .inl g_kinds')), (m_ats, .inl (cI, 11, .inl g_ats')), (m_ends, .inl (cI, 11, .inl g_ends')), (m_shelves, .inl (cI, 49152, .inl g_shelves)), (m_many, .inl (cI, 3, .inl g_many)), (m_widths, .inl (cI, 3, .inl g_widths)), (m_stack, .inl (cI, 48, .inl g_stack')), (m_mark, .inl (cI, 28000, .inl g_mark')), (m_places, .inl (cI, 32, .inl g_places')), (m_shownMark, .inl (cI, 28000, .inl g_shownMark'))] ∧ (t' ≤ 48 ∧ d' ≤ 10 ∧ mk' ≤ 4000 ∧ sp' ≤ 20000) ∧ sh' ≤ 4000 ∧ shoP ((iniP T k).bind (runP T 20001 0)) = (sh', trunc (sh' * 7) g_shownMark')))) s_) (F0 m_ 105 ls []) := by
        intro fu
        induction fu with
        | zero => intro q gp H locs ls hinv hfu; exact absurd hfu (Nat.not_lt_zero _)
        | succ fu ih_105 =>
          intro q gp H locs ls hinv hfu hP hD hS hl
          obtain ⟨hq32, hgp⟩ := hinv
          refine lv_iload_n hx hb d_Mo_run_105 rfl (lv_at hl 2 rfl) ?_
          refine lv_bipush (v := 32) hx hb d_Mo_run_106 (by decide) ?_
          refine lv_icmp_ge (tgt := 124) hx hb d_Mo_run_108 (by decide) (fun c_108 => ?_) (fun c_108 => ?_)
          · have n_108 : (32) ≤ (q) := (nI_leI (a := 32) (b := q) (by omega) (by omega)).mp c_108
            have hgp : ∀ i, i < 32 → gp i = 0 := fun i hi => hgp i (by omega)
            have hhas : ¬ hasS T.1.1 k = 0 := hs_ok c_2 (by rw [← hm0]; exact c_12)
            obtain ⟨kn, hkn, eKn⟩ := nI_of c_2
            rw [eKn] at hl
            have c_12 : nI kn < g_many 0 := by rw [← eKn]; exact c_12
            obtain ⟨hms, hvk⟩ := (hR 0 (by omega)).2.resolve_left (fun z => nI_pos hkn (by rw [hm0, show T.1.1 = 0 from z] at c_12; exact c_12))
            have hm65 := mS_le hvk.2.1
            have hkb : kn < mS (bt (selT T (nI 0)).2.1 (selT T (nI 0)).2.2) := (nI_ltI hkn (by omega)).mp (by rw [← hms]; show _ < nI T.1.1; rw [← hm0]; exact c_12)
            have hst0 := IST_0 g_kinds g_ats g_ends
            refine lv_aload_n hx hb d_Mo_run_124 rfl (lv_at hl 0 rfl) ?_
            refine lv_iconst (v := 0) hx hb d_Mo_run_125 (by decide) ?_
            refine lv_iload_n hx hb d_Mo_run_126 rfl (lv_at hl 1 rfl) ?_
            have hC : Cut [(mo, .inr (8, [.int 0, .int z_size, .ref m_row, .ref m_shelves, .ref m_many, .ref m_widths, .int (nI 0), .ref m_mark, .int (nI sh), .ref m_shownMark, .int 1, .int 0, .int 0, .int (nI 0), .int 0, .int 0, .int 0, .int 1, .int 0, .int 0, .int 0, .int 0, .int (nI 0), .ref m_stack, .ref m_places, .int (nI 0), .ref m_kinds, .ref m_ats, .ref m_ends])), (m_kinds, .inl (cI, 11, .inl g_kinds)), (m_ats, .inl (cI, 11, .inl g_ats)), (m_ends, .inl (cI, 11, .inl g_ends)), (m_shelves, .inl (cI, 49152, .inl g_shelves)), (m_many, .inl (cI, 3, .inl g_many)), (m_widths, .inl (cI, 3, .inl g_widths)), (m_stack, .inl (cI, 48, .inl g_stack)), (m_mark, .inl (cI, 28000, .inl g_mark)), (m_places, .inl (cI, 32, .inl gp)), (m_shownMark, .inl (cI, 28000, .inl g_shownMark))] [(mo, .inr (8, [.int 0, .int z_size, .ref m_row, .ref m_shelves, .ref m_many, .ref m_widths, .int (nI 0), .ref m_mark, .int (nI sh), .ref m_shownMark, .int 1, .int 0, .int 0, .int (nI 0), .int 0, .int 0, .int 0, .int 1, .int 0, .int 0, .int 0, .int 0, .int (nI 0), .ref m_stack, .ref m_places, .int (nI 0), .ref m_kinds, .ref m_ats, .ref m_ends])), (m_kinds, .inl (cI, 11, .inl g_kinds)), (m_ats, .inl (cI, 11, .inl g_ats)), (m_ends, .inl (cI, 11, .inl g_ends)), (m_shelves, .inl (cI, 49152, .inl g_shelves)), (m_many, .inl (cI, 3, .inl g_many)), (m_widths, .inl (cI, 3, .inl g_widths))] [(m_stack, .inl (cI, 48, .inl g_stack)), (m_mark, .inl (cI, 28000, .inl g_mark)), (m_places, .inl (cI, 32, .inl gp)), (m_shownMark, .inl (cI, 28000, .inl g_shownMark))] [0, 1, 2, 3, 4, 5, 6] [7, 8, 9, 10] := ⟨rfl, rfl, rfl, rfl, by decide⟩
            refine goV0 (trV (As := [.int 0, .int (nI kn)]) (rest := []) ⟨hx, hb, hml, hown, hts⟩ gd_good (c_Mo_enter l D cB cI cJ mo m_row m_shelves m_many m_widths m_mark m_shownMark m_stack m_places m_kinds m_ats m_ends 0 0 0 0 0 z_size (nI sh) 1 0 0 0 0 0 1 0 0 0 0 g_kinds g_ats g_ends g_shelves g_many g_widths 0 kn (by omega) hst0 hvs (by omega) (by omega) (selT T (nI 0)).2.1 (bt (selT T (nI 0)).2.1 (selT T (nI 0)).2.2) hvk hkb) cal_Mo_enter ml_Mo_119 ⟨Nat.le_of_ble_eq_true rfl, Nat.le_of_ble_eq_true rfl⟩ hZ hP hD hC 0 (ci := 8) rfl rfl rfl rfl hl.1 rfl (Nat.le_of_ble_eq_true rfl) d_Mo_run_127 ⟨Nat.le_of_ble_eq_true rfl, Nat.le_of_ble_eq_true rfl⟩) hZ hP hD hS hC (fun w1 H locs hq hP hD hS => ?_)
            obtain ⟨d_1, z_deepest_1, g_kinds_1, g_ats_1, g_ends_1, rfl, hv_1, hd_1, hst_1, hx_1⟩ := hq
            have hP : va_P D classes [(m_stack, .inl (cI, 48, .inl g_stack)), (m_mark, .inl (cI, 28000, .inl g_mark)), (m_places, .inl (cI, 32, .inl gp)), (m_shownMark, .inl (cI, 28000, .inl g_shownMark)), (mo, .inr (8, [.int 0, .int z_size, .ref m_row, .ref m_shelves, .ref m_many, .ref m_widths, .int (nI 0), .ref m_mark, .int (nI sh), .ref m_shownMark, .int 1, .int 0, .int 0, .int (nI 0), .int 0, .int 0, .int 0, .int 1, .int 0, .int z_deepest_1, .int 0, .int 0, .int (nI 0), .ref m_stack, .ref m_places, .int (nI d_1), .ref m_kinds, .ref m_ats, .ref m_ends])), (m_kinds, .inl (cI, 11, .inl g_kinds_1)), (m_ats, .inl (cI, 11, .inl g_ats_1)), (m_ends, .inl (cI, 11, .inl g_ends_1)), (m_shelves, .inl (cI, 49152, .inl g_shelves)), (m_many, .inl (cI, 3, .inl g_many)), (m_widths, .inl (cI, 3, .inl g_widths))] H := hP
            have hD : va_D A_ [(m_stack, .inl (cI, 48, .inl g_stack)), (m_mark, .inl (cI, 28000, .inl g_mark)), (m_places, .inl (cI, 32, .inl gp)), (m_shownMark, .inl (cI, 28000, .inl g_shownMark)), (mo, .inr (8, [.int 0, .int z_size, .ref m_row, .ref m_shelves, .ref m_many, .ref m_widths, .int (nI 0), .ref m_mark, .int (nI sh), .ref m_shownMark, .int 1, .int 0, .int 0, .int (nI 0), .int 0, .int 0, .int 0, .int 1, .int 0, .int z_deepest_1, .int 0, .int 0, .int (nI 0), .ref m_stack, .ref m_places, .int (nI d_1), .ref m_kinds, .ref m_ats, .ref m_ends])), (m_kinds, .inl (cI, 11, .inl g_kinds_1)), (m_ats, .inl (cI, 11, .inl g_ats_1)), (m_ends, .inl (cI, 11, .inl g_ends_1)), (m_shelves, .inl (cI, 49152, .inl g_shelves)), (m_many, .inl (cI, 3, .inl g_many)), (m_widths, .inl (cI, 3, .inl g_widths))] := hD
            have hini : enterP T (0, zero7, zero7, zero7) 0 k = some (sS d_1 g_kinds_1 g_ats_1 g_ends_1) := by rw [hx_1.2, ← sS_0 g_kinds g_ats g_ends, eKn]; exact em_ok rfl hkb hms hvk (by omega)
            have lp_130 : ∀ (fu : Nat) (z_wrongL : Int32) (z_endedL : Int32) (z_hintsL : Int32) (z_hasWidthL : Int32) (z_widthL : Int32) (z_firstL : Int32) (z_movedL : Int32) (z_deepestL : Int32) (z_xL : Int32) (z_yL : Int32) (tL : Nat) (dL : Nat) (mkL : Nat) (spL : Nat) (g_kindsL : Nat → Int32) (g_atsL : Nat → Int32) (g_endsL : Nat → Int32) (g_stackL : Nat → Int32) (g_markL : Nat → Int32) (g_placesL : Nat → Int32) (H : Heap) (locs : List Loc) (ls : Array Slot), ((tL ≤ 48 ∧ dL ≤ 10 ∧ mkL ≤ 4000 ∧ spL ≤ 20000) ∧ 1 ≤ dL ∧ IST dL g_kindsL g_atsL g_endsL ∧ (z_wrongL = 0 → OKE T dL g_kindsL g_endsL ∧ ∃ k, k ≤ 96 ∧ z_hintsL = nI k) ∧ rI T z_wrongL z_endedL spL (⟨vS tL g_stackL, sS dL g_kindsL g_atsL g_endsL, uS mkL z_xL z_yL g_markL, trunc 32 g_placesL, z_hintsL, decide (z_firstL = 0), decide (z_movedL ≠ 0)⟩ : Ms7) = (iniP T k).bind (runP T 20001 0)) → ((if z_wrongL = 0 then 1 else 0) + 2 * (20001 - spL)) < fu → va_P D classes [(mo, .inr (8, [.int 0, .int z_size, .ref m_row, .ref m_shelves, .ref m_many, .ref m_widths, .int (nI mkL), .ref m_mark, .int (nI sh), .ref m_shownMark, .int 1, .int z_wrongL, .int z_endedL, .int (nI spL), .int z_hintsL, .int z_hasWidthL, .int z_widthL, .int z_firstL, .int z_movedL, .int z_deepestL, .int z_xL, .int z_yL, .int (nI tL), .ref m_stack, .ref m_places, .int (nI dL), .ref m_kinds, .ref m_ats, .ref m_ends])), (m_kinds, .inl (cI, 11, .inl g_kindsL)), (m_ats, .inl (cI, 11, .inl g_atsL)), (m_ends, .inl (cI, 11, .inl g_endsL)), (m_shelves, .inl (cI, 49152, .inl g_shelves)), (m_many, .inl (cI, 3, .inl g_many)), (m_widths, .inl (cI, 3, .inl g_widths)), (m_stack, .inl (cI, 48, .inl g_stackL)), (m_mark, .inl (cI, 28000, .inl g_markL)), (m_places, .inl (cI, 32, .inl g_placesL)), (m_shownMark, .inl (cI, 28000, .inl g_shownMark))] H → va_D A_ [(mo, .inr (8, [.int 0, .int z_size, .ref m_row, .ref m_shelves, .ref m_many, .ref m_widths, .int (nI mkL), .ref m_mark, .int (nI sh), .ref m_shownMark, .int 1, .int z_wrongL, .int z_endedL, .int (nI spL), .int z_hintsL, .int z_hasWidthL, .int z_widthL, .int z_firstL, .int z_movedL, .int z_deepestL, .int z_xL, .int z_yL, .int (nI tL), .ref m_stack, .ref m_places, .int (nI dL), .ref m_kinds, .ref m_ats, .ref m_ends])), (m_kinds, .inl (cI, 11, .inl g_kindsL)), (m_ats, .inl (cI, 11, .inl g_atsL)), (m_ends, .inl (cI, 11, .inl g_endsL)), (m_shelves, .inl (cI, 49152, .inl g_shelves)), (m_many, .inl (cI, 3, .inl g_many)), (m_widths, .inl (cI, 3, .inl g_widths)), (m_stack, .inl (cI, 48, .inl g_stackL)), (m_mark, .inl (cI, 28000, .inl g_markL)), (m_places, .inl (cI, 32, .inl g_placesL)), (m_shownMark, .inl (cI, 28000, .inl g_shownMark))] → va_S A_ s_.heap H locs → lv_has ls 3 [(0, .ref mo), (1, .int (nI kn))] → W p_ l e_ ({ frames := 7, cells := 0, slots := 0, locals := 171 }) s_ m_ args_ below_ meth_ c_ H locs (0) (0) (MQT below_ D classes A_ (pI0 (fun r w => (hasS T.1.1 k = 0 ∧ r = 0 ∧ w = [(mo, .inr (8, [.int 1, .int z_size, .ref m_row, .ref m_shelves, .ref m_many, .ref m_widths, .int (nI mk), .ref m_mark, .int (nI sh), .ref m_shownMark, .int z_wasRun, .int z_wrong, .int z_ended, .int (nI sp), .int z_hints, .int z_hasWidth, .int z_width, .int z_first, .int z_moved, .int z_deepest, .int z_x, .int z_y, .int (nI t), .ref m_stack, .ref m_places, .int (nI d), .ref m_kinds, .ref m_ats, .ref m_ends])), (m_kinds, .inl (cI, 11, .inl g_kinds)), (m_ats, .inl (cI, 11, .inl g_ats)), (m_ends, .inl (cI, 11, .inl g_ends)), (m_shelves, .inl (cI, 49152, .inl g_shelves)), (m_many, .inl (cI, 3, .inl g_many)), (m_widths, .inl (cI, 3, .inl g_widths)), (m_stack, .inl (cI, 48, .inl g_stack)), (m_mark, .inl (cI, 28000, .inl g_mark)), (m_places, .inl (cI, 32, .inl g_places)), (m_shownMark, .inl (cI, 28000, .inl g_shownMark))]) ∨ (¬ hasS T.1.1 k = 0 ∧ ∃ (z_fault' : Int32) (z_wasRun' : Int32) (z_wrong' : Int32) (z_ended' : Int32) (sp' : Nat) (z_hints' : Int32) (z_hasWidth' : Int32) (z_width' : Int32) (z_first' : Int32) (z_moved' : Int32) (z_deepest' : Int32) (z_x' : Int32) (z_y' : Int32) (t' : Nat) (d' : Nat) (mk' : Nat) (sh' : Nat) (g_kinds' g_ats' g_ends' g_stack' g_mark' g_places' g_shownMark' : Nat → Int32), w = [(mo, .inr (8, [.int z_fault', .int z_size, .ref m_row, .ref m_shelves, .ref m_many, .ref m_widths, .int (nI mk'), .ref m_mark, .int (nI sh'), .ref m_shownMark, .int z_wasRun', .int z_wrong', .int z_ended', .int (nI sp'), .int z_hints', .int z_hasWidth', .int z_width', .int z_first', .int z_moved', .int z_deepest', .int z_x', .int z_y', .int (nI t'), .ref m_stack, .ref m_places, .int (nI d'), .ref m_kinds, .ref m_ats, .ref m_ends])), (m_kinds, .inl (cI, 11, .inl g_kinds')), (m_ats, .inl (cI, 11, .inl g_ats')), (m_ends, .inl (cI, 11, .inl g_ends')), (m_shelves, .inl (cI, 49152, .inl g_shelves)), (m_many, .inl (cI, 3, .inl g_many)), (m_widths, .inl (cI, 3, .inl g_widths)), (m_stack, .inl (cI, 48, .inl g_stack')), (m_mark, .inl (cI, 28000, .inl g_mark')), (m_places, .inl (cI, 32, .inl g_places')), (m_shownMark, .inl (cI, 28000, .inl g_shownMark'))] ∧ (t' ≤ 48 ∧ d' ≤ 10 ∧ mk' ≤ 4000 ∧ sp' ≤ 20000) ∧ sh' ≤ 4000 ∧ shoP ((iniP T k).bind (runP T 20001 0)) = (sh', trunc (sh' * 7) g_shownMark')))) s_) (F0 m_ 130 ls []) := by
              intro fu
              induction fu with
              | zero => intro z_wrongL z_endedL z_hintsL z_hasWidthL z_widthL z_firstL z_movedL z_deepestL z_xL z_yL tL dL mkL spL g_kindsL g_atsL g_endsL g_stackL g_markL g_placesL H locs ls hinv hfu; exact absurd hfu (Nat.not_lt_zero _)
              | succ fu ih_130 =>
                intro z_wrongL z_endedL z_hintsL z_hasWidthL z_widthL z_firstL z_movedL z_deepestL z_xL z_yL tL dL mkL spL g_kindsL g_atsL g_endsL g_stackL g_markL g_placesL H locs ls hinv hfu hP hD hS hl
                obtain ⟨hivL, hdL, hstL, hok, hrun⟩ := hinv
                refine lv_aload_n hx hb d_Mo_run_130 rfl (lv_at hl 0 rfl) ?_
                refine va_get (D := D) (ci := 8) (v := .int z_wrongL) (C := R_Mo) (T := F_Mo) (N := 29) hx hb hts i_Mo hown hZ.1 hP 0 rfl rfl 11 (by decide) (hts _ fl_Mo_75) (fun _ h9 => h9) rfl d_Mo_run_131 ?_
                refine lv_if_ne (tgt := 151) hx hb d_Mo_run_134 (by decide) (fun c_134 => ?_) (fun c_134 => ?_)
                · refine lv_aload_n hx hb d_Mo_run_151 rfl (lv_at hl 0 rfl) ?_
                  refine va_get (D := D) (ci := 8) (v := .int z_wrongL) (C := R_Mo) (T := F_Mo) (N := 29) hx hb hts i_Mo hown hZ.1 hP 0 rfl rfl 11 (by decide) (hts _ fl_Mo_75) (fun _ h9 => h9) rfl d_Mo_run_152 ?_
                  refine lv_if_eq (tgt := 168) hx hb d_Mo_run_155 (by decide) (fun c_155 => ?_) (fun c_155 => ?_)
                  · refine lv_aload_n hx hb d_Mo_run_168 rfl (lv_at hl 0 rfl) ?_
                    refine lv_aload_n hx hb d_Mo_run_169 rfl (lv_at hl 0 rfl) ?_
                    refine va_get (D := D) (ci := 8) (v := .int (nI mkL)) (C := R_Mo) (T := F_Mo) (N := 29) hx hb hts i_Mo hown hZ.1 hP 0 rfl rfl 6 (by decide) (hts _ fl_Mo_116) (fun _ h9 => h9) rfl d_Mo_run_170 ?_
                    refine va_put (D := D) (ci := 8) (v := .int (nI mkL)) (ty := .int) (C := R_Mo) (T := F_Mo) (N := 29) hx hb hts i_Mo t_Mo t_Mo_ok n_Mo hown hZ.1 hP hD hS 0 rfl rfl 8 (by decide) (hts _ fl_Mo_126) (fun _ h9 => h9) rfl (by decide +kernel) rfl rfl (Nat.le_of_ble_eq_true rfl) d_Mo_run_173 (fun H locs hP hD hS => ?_)
                    have hP : va_P D classes [(mo, .inr (8, [.int 0, .int z_size, .ref m_row, .ref m_shelves, .ref m_many, .ref m_widths, .int (nI mkL), .ref m_mark, .int (nI mkL), .ref m_shownMark, .int 1, .int z_wrongL, .int z_endedL, .int (nI spL), .int z_hintsL, .int z_hasWidthL, .int z_widthL, .int z_firstL, .int z_movedL, .int z_deepestL, .int z_xL, .int z_yL, .int (nI tL), .ref m_stack, .ref m_places, .int (nI dL), .ref m_kinds, .ref m_ats, .ref m_ends])), (m_kinds, .inl (cI, 11, .inl g_kindsL)), (m_ats, .inl (cI, 11, .inl g_atsL)), (m_ends, .inl (cI, 11, .inl g_endsL)), (m_shelves, .inl (cI, 49152, .inl g_shelves)), (m_many, .inl (cI, 3, .inl g_many)), (m_widths, .inl (cI, 3, .inl g_widths)), (m_stack, .inl (cI, 48, .inl g_stackL)), (m_mark, .inl (cI, 28000, .inl g_markL)), (m_places, .inl (cI, 32, .inl g_placesL)), (m_shownMark, .inl (cI, 28000, .inl g_shownMark))] H := hP
                    have hD : va_D A_ [(mo, .inr (8, [.int 0, .int z_size, .ref m_row, .ref m_shelves, .ref m_many, .ref m_widths, .int (nI mkL), .ref m_mark, .int (nI mkL), .ref m_shownMark, .int 1, .int z_wrongL, .int z_endedL, .int (nI spL), .int z_hintsL, .int z_hasWidthL, .int z_widthL, .int z_firstL, .int z_movedL, .int z_deepestL, .int z_xL, .int z_yL, .int (nI tL), .ref m_stack, .ref m_places, .int (nI dL), .ref m_kinds, .ref m_ats, .ref m_ends])), (m_kinds, .inl (cI, 11, .inl g_kindsL)), (m_ats, .inl (cI, 11, .inl g_atsL)), (m_ends, .inl (cI, 11, .inl g_endsL)), (m_shelves, .inl (cI, 49152, .inl g_shelves)), (m_many, .inl (cI, 3, .inl g_many)), (m_widths, .inl (cI, 3, .inl g_widths)), (m_stack, .inl (cI, 48, .inl g_stackL)), (m_mark, .inl (cI, 28000, .inl g_markL)), (m_places, .inl (cI, 32, .inl g_placesL)), (m_shownMark, .inl (cI, 28000, .inl g_shownMark))] := hD
                    refine lv_iconst (v := 0) hx hb d_Mo_run_176 (by decide) ?_
                    refine lv_istore_n (lv' := [(2, .int 0), (0, .ref mo), (1, .int (nI kn))]) hx hb d_Mo_run_177 rfl hl (by decide) rfl (fun ls hl => ?_)
                    have lp_178 : ∀ (fu : Nat) (q : Nat) (gq : Nat → Int32) (H : Heap) (locs : List Loc) (ls : Array Slot), (q ≤ 7 * mkL ∧ ∀ i, i < q → gq i = g_markL i) → (7 * mkL - q) < fu → va_P D classes [(mo, .inr (8, [.int 0, .int z_size, .ref m_row, .ref m_shelves, .ref m_many, .ref m_widths, .int (nI mkL), .ref m_mark, .int (nI mkL), .ref m_shownMark, .int 1, .int z_wrongL, .int z_endedL, .int (nI spL), .int z_hintsL, .int z_hasWidthL, .int z_widthL, .int z_firstL, .int z_movedL, .int z_deepestL, .int z_xL, .int z_yL, .int (nI tL), .ref m_stack, .ref m_places, .int (nI dL), .ref m_kinds, .ref m_ats, .ref m_ends])), (m_kinds, .inl (cI, 11, .inl g_kindsL)), (m_ats, .inl (cI, 11, .inl g_atsL)), (m_ends, .inl (cI, 11, .inl g_endsL)), (m_shelves, .inl (cI, 49152, .inl g_shelves)), (m_many, .inl (cI, 3, .inl g_many)), (m_widths, .inl (cI, 3, .inl g_widths)), (m_stack, .inl (cI, 48, .inl g_stackL)), (m_mark, .inl (cI, 28000, .inl g_markL)), (m_places, .inl (cI, 32, .inl g_placesL)), (m_shownMark, .inl (cI, 28000, .inl gq))] H → va_D A_ [(mo, .inr (8, [.int 0, .int z_size, .ref m_row, .ref m_shelves, .ref m_many, .ref m_widths, .int (nI mkL), .ref m_mark, .int (nI mkL), .ref m_shownMark, .int 1, .int z_wrongL, .int z_endedL, .int (nI spL), .int z_hintsL, .int z_hasWidthL, .int z_widthL, .int z_firstL, .int z_movedL, .int z_deepestL, .int z_xL, .int z_yL, .int (nI tL), .ref m_stack, .ref m_places, .int (nI dL), .ref m_kinds, .ref m_ats, .ref m_ends])), (m_kinds, .inl (cI, 11, .inl g_kindsL)), (m_ats, .inl (cI, 11, .inl g_atsL)), (m_ends, .inl (cI, 11, .inl g_endsL)), (m_shelves, .inl (cI, 49152, .inl g_shelves)), (m_many, .inl (cI, 3, .inl g_many)), (m_widths, .inl (cI, 3, .inl g_widths)), (m_stack, .inl (cI, 48, .inl g_stackL)), (m_mark, .inl (cI, 28000, .inl g_markL)), (m_places, .inl (cI, 32, .inl g_placesL)), (m_shownMark, .inl (cI, 28000, .inl gq))] → va_S A_ s_.heap H locs → lv_has ls 3 [(0, .ref mo), (1, .int (nI kn)), (2, .int (nI q))] → W p_ l e_ ({ frames := 7, cells := 0, slots := 0, locals := 171 }) s_ m_ args_ below_ meth_ c_ H locs (0) (0) (MQT below_ D classes A_ (pI0 (fun r w => (hasS T.1.1 k = 0 ∧ r = 0 ∧ w = [(mo, .inr (8, [.int 1, .int z_size, .ref m_row, .ref m_shelves, .ref m_many, .ref m_widths, .int (nI mk), .ref m_mark, .int (nI sh), .ref m_shownMark, .int z_wasRun, .int z_wrong, .int z_ended, .int (nI sp), .int z_hints, .int z_hasWidth, .int z_width, .int z_first, .int z_moved, .int z_deepest, .int z_x, .int z_y, .int (nI t), .ref m_stack, .ref m_places, .int (nI d), .ref m_kinds, .ref m_ats, .ref m_ends])), (m_kinds, .inl (cI, 11, .inl g_kinds)), (m_ats, .inl (cI, 11, .inl g_ats)), (m_ends, .inl (cI, 11, .inl g_ends)), (m_shelves, .inl (cI, 49152, .inl g_shelves)), (m_many, .inl (cI, 3, .inl g_many)), (m_widths, .inl (cI, 3, .inl g_widths)), (m_stack, .inl (cI, 48, .inl g_stack)), (m_mark, .inl (cI, 28000, .inl g_mark)), (m_places, .inl (cI, 32, .inl g_places)), (m_shownMark, .inl (cI, 28000, .inl g_shownMark))]) ∨ (¬ hasS T.1.1 k = 0 ∧ ∃ (z_fault' : Int32) (z_wasRun' : Int32) (z_wrong' : Int32) (z_ended' : Int32) (sp' : Nat) (z_hints' : Int32) (z_hasWidth' : Int32) (z_width' : Int32) (z_first' : Int32) (z_moved' : Int32) (z_deepest' : Int32) (z_x' : Int32) (z_y' : Int32) (t' : Nat) (d' : Nat) (mk' : Nat) (sh' : Nat) (g_kinds' g_ats' g_ends' g_stack' g_mark' g_places' g_shownMark' : Nat → Int32), w = [(mo, .inr (8, [.int z_fault', .int z_size, .ref m_row, .ref m_shelves, .ref m_many, .ref m_widths, .int (nI mk'), .ref m_mark, .int (nI sh'), .ref m_shownMark, .int z_wasRun', .int z_wrong', .int z_ended', .int (nI sp'), .int z_hints', .int z_hasWidth', .int z_width', .int z_first', .int z_moved', .int z_deepest', .int z_x', .int z_y', .int (nI t'), .ref m_stack, .ref m_places, .int (nI d'), .ref m_kinds, .ref m_ats, .ref m_ends])), (m_kinds, .inl (cI, 11, .inl g_kinds')), (m_ats, .inl (cI, 11, .inl g_ats')), (m_ends, .inl (cI, 11, .inl g_ends')), (m_shelves, .inl (cI, 49152, .inl g_shelves)), (m_many, .inl (cI, 3, .inl g_many)), (m_widths, .inl (cI, 3, .inl g_widths)), (m_stack, .inl (cI, 48, .inl g_stack')), (m_mark, .inl (cI, 28000, .inl g_mark')), (m_places, .inl (cI, 32, .inl g_places')), (m_shownMark, .inl (cI, 28000, .inl g_shownMark'))] ∧ (t' ≤ 48 ∧ d' ≤ 10 ∧ mk' ≤ 4000 ∧ sp' ≤ 20000) ∧ sh' ≤ 4000 ∧ shoP ((iniP T k).bind (runP T 20001 0)) = (sh', trunc (sh' * 7) g_shownMark')))) s_) (F0 m_ 178 ls []) := by
                      intro fu
                      induction fu with
                      | zero => intro q gq H locs ls hinv hfu; exact absurd hfu (Nat.not_lt_zero _)
                      | succ fu ih_178 =>
                        intro q gq H locs ls hinv hfu hP hD hS hl
                        obtain ⟨hq7, hcq⟩ := hinv
                        refine lv_iload_n hx hb d_Mo_run_178 rfl (lv_at hl 2 rfl) ?_
                        refine lv_bipush (v := 7) hx hb d_Mo_run_179 (by decide) ?_
                        refine lv_aload_n hx hb d_Mo_run_181 rfl (lv_at hl 0 rfl) ?_
                        refine va_get (D := D) (ci := 8) (v := .int (nI mkL)) (C := R_Mo) (T := F_Mo) (N := 29) hx hb hts i_Mo hown hZ.1 hP 0 rfl rfl 6 (by decide) (hts _ fl_Mo_116) (fun _ h9 => h9) rfl d_Mo_run_182 ?_
                        refine lv_imul hx hb d_Mo_run_185 ?_
                        refine lv_tv (y := nI (7 * mkL)) (pk_mul 7 mkL) ?_
                        refine lv_icmp_ge (tgt := 207) hx hb d_Mo_run_186 (by decide) (fun c_186 => ?_) (fun c_186 => ?_)
                        · have n_186 : (7 * mkL) ≤ (q) := (nI_leI (a := 7 * mkL) (b := q) (by omega) (by omega)).mp c_186
                          refine lv_aload_n hx hb d_Mo_run_207 rfl (lv_at hl 0 rfl) ?_
                          refine va_get (D := D) (ci := 8) (v := .int (nI mkL)) (C := R_Mo) (T := F_Mo) (N := 29) hx hb hts i_Mo hown hZ.1 hP 0 rfl rfl 6 (by decide) (hts _ fl_Mo_116) (fun _ h9 => h9) rfl d_Mo_run_208 ?_
                          exact t_iret hx hb hr hlk d_Mo_run_211 (hP.subm (ws' := [(mo, .inr (8, [.int 0, .int z_size, .ref m_row, .ref m_shelves, .ref m_many, .ref m_widths, .int (nI mkL), .ref m_mark, .int (nI mkL), .ref m_shownMark, .int 1, .int z_wrongL, .int z_endedL, .int (nI spL), .int z_hintsL, .int z_hasWidthL, .int z_widthL, .int z_firstL, .int z_movedL, .int z_deepestL, .int z_xL, .int z_yL, .int (nI tL), .ref m_stack, .ref m_places, .int (nI dL), .ref m_kinds, .ref m_ats, .ref m_ends])), (m_kinds, .inl (cI, 11, .inl g_kindsL)), (m_ats, .inl (cI, 11, .inl g_atsL)), (m_ends, .inl (cI, 11, .inl g_endsL)), (m_shelves, .inl (cI, 49152, .inl g_shelves)), (m_many, .inl (cI, 3, .inl g_many)), (m_widths, .inl (cI, 3, .inl g_widths)), (m_stack, .inl (cI, 48, .inl g_stackL)), (m_mark, .inl (cI, 28000, .inl g_markL)), (m_places, .inl (cI, 32, .inl g_placesL)), (m_shownMark, .inl (cI, 28000, .inl gq))]) [0, 1, 2, 3, 4, 5, 6, 7, 8, 9, 10] rfl) (hD.sub (ws' := [(mo, .inr (8, [.int 0, .int z_size, .ref m_row, .ref m_shelves, .ref m_many, .ref m_widths, .int (nI mkL), .ref m_mark, .int (nI mkL), .ref m_shownMark, .int 1, .int z_wrongL, .int z_endedL, .int (nI spL), .int z_hintsL, .int z_hasWidthL, .int z_widthL, .int z_firstL, .int z_movedL, .int z_deepestL, .int z_xL, .int z_yL, .int (nI tL), .ref m_stack, .ref m_places, .int (nI dL), .ref m_kinds, .ref m_ats, .ref m_ends])), (m_kinds, .inl (cI, 11, .inl g_kindsL)), (m_ats, .inl (cI, 11, .inl g_atsL)), (m_ends, .inl (cI, 11, .inl g_endsL)), (m_shelves, .inl (cI, 49152, .inl g_shelves)), (m_many, .inl (cI, 3, .inl g_many)), (m_widths, .inl (cI, 3, .inl g_widths)), (m_stack, .inl (cI, 48, .inl g_stackL)), (m_mark, .inl (cI, 28000, .inl g_markL)), (m_places, .inl (cI, 32, .inl g_placesL)), (m_shownMark, .inl (cI, 28000, .inl gq))]) [0, 1, 2, 3, 4, 5, 6, 7, 8, 9, 10] rfl rfl) hS ⟨_, rfl, rfl, rfl, Or.inr ⟨hhas, _, _, _, _, spL, _, _, _, _, _, _, _, _, tL, dL, mkL, mkL, _, _, _, _, _, _, _, rfl, (by omega), (by omega), (run_f1 hrun c_155 (absurd c_155 c_134) (fun i hi => hcq i (by omega)))⟩⟩
                        · have n_186 : ¬ (7 * mkL) ≤ (q) := fun z => c_186 ((nI_leI (a := 7 * mkL) (b := q) (by omega) (by omega)).mpr z)
                          refine lv_aload_n hx hb d_Mo_run_189 rfl (lv_at hl 0 rfl) ?_
                          refine va_get (D := D) (ci := 8) (v := .ref m_shownMark) (C := R_Mo) (T := F_Mo) (N := 29) hx hb hts i_Mo hown hZ.1 hP 0 rfl rfl 9 (by decide) (hts _ fl_Mo_26) (fun _ h9 => h9) rfl d_Mo_run_190 ?_
                          refine lv_iload_n hx hb d_Mo_run_193 rfl (lv_at hl 2 rfl) ?_
                          refine lv_aload_n hx hb d_Mo_run_194 rfl (lv_at hl 0 rfl) ?_
                          refine va_get (D := D) (ci := 8) (v := .ref m_mark) (C := R_Mo) (T := F_Mo) (N := 29) hx hb hts i_Mo hown hZ.1 hP 0 rfl rfl 7 (by decide) (hts _ fl_Mo_23) (fun _ h9 => h9) rfl d_Mo_run_195 ?_
                          refine lv_iload_n hx hb d_Mo_run_198 rfl (lv_at hl 2 rfl) ?_
                          refine va_iald hx hb hZ.1 hP 8 1 rfl rfl (vp_in_nI (by omega) (by omega)) d_Mo_run_199 ?_
                          refine lv_tv (y := g_markL q) (by rw [nI_clamp (by omega)]) ?_
                          refine va_iast hx hb hZ.1 hP hD hS 10 1 rfl rfl (vp_in_nI (by omega) (by omega)) d_Mo_run_200 (fun H locs hP hD hS => ?_)
                          rw [show ((nI q).toNatClampNeg) = q from nI_clamp (by omega)] at hP hD
                          have hP : va_P D classes [(mo, .inr (8, [.int 0, .int z_size, .ref m_row, .ref m_shelves, .ref m_many, .ref m_widths, .int (nI mkL), .ref m_mark, .int (nI mkL), .ref m_shownMark, .int 1, .int z_wrongL, .int z_endedL, .int (nI spL), .int z_hintsL, .int z_hasWidthL, .int z_widthL, .int z_firstL, .int z_movedL, .int z_deepestL, .int z_xL, .int z_yL, .int (nI tL), .ref m_stack, .ref m_places, .int (nI dL), .ref m_kinds, .ref m_ats, .ref m_ends])), (m_kinds, .inl (cI, 11, .inl g_kindsL)), (m_ats, .inl (cI, 11, .inl g_atsL)), (m_ends, .inl (cI, 11, .inl g_endsL)), (m_shelves, .inl (cI, 49152, .inl g_shelves)), (m_many, .inl (cI, 3, .inl g_many)), (m_widths, .inl (cI, 3, .inl g_widths)), (m_stack, .inl (cI, 48, .inl g_stackL)), (m_mark, .inl (cI, 28000, .inl g_markL)), (m_places, .inl (cI, 32, .inl g_placesL)), (m_shownMark, .inl (cI, 28000, .inl (upd gq q (g_markL q))))] H := hP
                          have hD : va_D A_ [(mo, .inr (8, [.int 0, .int z_size, .ref m_row, .ref m_shelves, .ref m_many, .ref m_widths, .int (nI mkL), .ref m_mark, .int (nI mkL), .ref m_shownMark, .int 1, .int z_wrongL, .int z_endedL, .int (nI spL), .int z_hintsL, .int z_hasWidthL, .int z_widthL, .int z_firstL, .int z_movedL, .int z_deepestL, .int z_xL, .int z_yL, .int (nI tL), .ref m_stack, .ref m_places, .int (nI dL), .ref m_kinds, .ref m_ats, .ref m_ends])), (m_kinds, .inl (cI, 11, .inl g_kindsL)), (m_ats, .inl (cI, 11, .inl g_atsL)), (m_ends, .inl (cI, 11, .inl g_endsL)), (m_shelves, .inl (cI, 49152, .inl g_shelves)), (m_many, .inl (cI, 3, .inl g_many)), (m_widths, .inl (cI, 3, .inl g_widths)), (m_stack, .inl (cI, 48, .inl g_stackL)), (m_mark, .inl (cI, 28000, .inl g_markL)), (m_places, .inl (cI, 32, .inl g_placesL)), (m_shownMark, .inl (cI, 28000, .inl (upd gq q (g_markL q))))] := hD
                          refine lv_iinc (v := nI (q + 1)) (lv' := [(2, .int (nI (q + 1))), (0, .ref mo), (1, .int (nI kn))]) hx hb d_Mo_run_201 hl (k := 2) rfl (nI_add q 1) (by decide) rfl (fun ls hl => ?_)
                          refine lv_goto (tgt := 178) hx hb d_Mo_run_204 (by decide) ?_
                          exact ih_178  (q + 1) (upd gq q (g_markL q)) _ _ _ ⟨by omega, cp_all hcq⟩ (by omega) (hP.subm [0, 1, 2, 3, 4, 5, 6, 7, 8, 9, 10] rfl) (hD.sub [0, 1, 2, 3, 4, 5, 6, 7, 8, 9, 10] rfl rfl) hS (lv_sub hl [1, 2, 0] rfl)
                    exact lp_178 _ 0 g_shownMark _ _ _ ⟨by omega, fun i hi => absurd hi (Nat.not_lt_zero _)⟩ (Nat.lt_succ_self _) (hP.subm [0, 1, 2, 3, 4, 5, 6, 7, 8, 9, 10] rfl) (hD.sub [0, 1, 2, 3, 4, 5, 6, 7, 8, 9, 10] rfl rfl) hS (lv_sub hl [1, 2, 0] rfl)
                  · refine lv_aload_n hx hb d_Mo_run_158 rfl (lv_at hl 0 rfl) ?_
                    refine lv_iconst (v := 0) hx hb d_Mo_run_159 (by decide) ?_
                    refine va_put (D := D) (ci := 8) (v := .int 0) (ty := .int) (C := R_Mo) (T := F_Mo) (N := 29) hx hb hts i_Mo t_Mo t_Mo_ok n_Mo hown hZ.1 hP hD hS 0 rfl rfl 8 (by decide) (hts _ fl_Mo_126) (fun _ h9 => h9) rfl (by decide +kernel) rfl rfl (Nat.le_of_ble_eq_true rfl) d_Mo_run_160 (fun H locs hP hD hS => ?_)
                    have hP : va_P D classes [(mo, .inr (8, [.int 0, .int z_size, .ref m_row, .ref m_shelves, .ref m_many, .ref m_widths, .int (nI mkL), .ref m_mark, .int 0, .ref m_shownMark, .int 1, .int z_wrongL, .int z_endedL, .int (nI spL), .int z_hintsL, .int z_hasWidthL, .int z_widthL, .int z_firstL, .int z_movedL, .int z_deepestL, .int z_xL, .int z_yL, .int (nI tL), .ref m_stack, .ref m_places, .int (nI dL), .ref m_kinds, .ref m_ats, .ref m_ends])), (m_kinds, .inl (cI, 11, .inl g_kindsL)), (m_ats, .inl (cI, 11, .inl g_atsL)), (m_ends, .inl (cI, 11, .inl g_endsL)), (m_shelves, .inl (cI, 49152, .inl g_shelves)), (m_many, .inl (cI, 3, .inl g_many)), (m_widths, .inl (cI, 3, .inl g_widths)), (m_stack, .inl (cI, 48, .inl g_stackL)), (m_mark, .inl (cI, 28000, .inl g_markL)), (m_places, .inl (cI, 32, .inl g_placesL)), (m_shownMark, .inl (cI, 28000, .inl g_shownMark))] H := hP
                    have hD : va_D A_ [(mo, .inr (8, [.int 0, .int z_size, .ref m_row, .ref m_shelves, .ref m_many, .ref m_widths, .int (nI mkL), .ref m_mark, .int 0, .ref m_shownMark, .int 1, .int z_wrongL, .int z_endedL, .int (nI spL), .int z_hintsL, .int z_hasWidthL, .int z_widthL, .int z_firstL, .int z_movedL, .int z_deepestL, .int z_xL, .int z_yL, .int (nI tL), .ref m_stack, .ref m_places, .int (nI dL), .ref m_kinds, .ref m_ats, .ref m_ends])), (m_kinds, .inl (cI, 11, .inl g_kindsL)), (m_ats, .inl (cI, 11, .inl g_atsL)), (m_ends, .inl (cI, 11, .inl g_endsL)), (m_shelves, .inl (cI, 49152, .inl g_shelves)), (m_many, .inl (cI, 3, .inl g_many)), (m_widths, .inl (cI, 3, .inl g_widths)), (m_stack, .inl (cI, 48, .inl g_stackL)), (m_mark, .inl (cI, 28000, .inl g_markL)), (m_places, .inl (cI, 32, .inl g_placesL)), (m_shownMark, .inl (cI, 28000, .inl g_shownMark))] := hD
                    refine lv_aload_n hx hb d_Mo_run_163 rfl (lv_at hl 0 rfl) ?_
                    refine va_get (D := D) (ci := 8) (v := .int z_wrongL) (C := R_Mo) (T := F_Mo) (N := 29) hx hb hts i_Mo hown hZ.1 hP 0 rfl rfl 11 (by decide) (hts _ fl_Mo_75) (fun _ h9 => h9) rfl d_Mo_run_164 ?_
                    exact t_iret hx hb hr hlk d_Mo_run_167 (hP.subm (ws' := [(mo, .inr (8, [.int 0, .int z_size, .ref m_row, .ref m_shelves, .ref m_many, .ref m_widths, .int (nI mkL), .ref m_mark, .int 0, .ref m_shownMark, .int 1, .int z_wrongL, .int z_endedL, .int (nI spL), .int z_hintsL, .int z_hasWidthL, .int z_widthL, .int z_firstL, .int z_movedL, .int z_deepestL, .int z_xL, .int z_yL, .int (nI tL), .ref m_stack, .ref m_places, .int (nI dL), .ref m_kinds, .ref m_ats, .ref m_ends])), (m_kinds, .inl (cI, 11, .inl g_kindsL)), (m_ats, .inl (cI, 11, .inl g_atsL)), (m_ends, .inl (cI, 11, .inl g_endsL)), (m_shelves, .inl (cI, 49152, .inl g_shelves)), (m_many, .inl (cI, 3, .inl g_many)), (m_widths, .inl (cI, 3, .inl g_widths)), (m_stack, .inl (cI, 48, .inl g_stackL)), (m_mark, .inl (cI, 28000, .inl g_markL)), (m_places, .inl (cI, 32, .inl g_placesL)), (m_shownMark, .inl (cI, 28000, .inl g_shownMark))]) [0, 1, 2, 3, 4, 5, 6, 7, 8, 9, 10] rfl) (hD.sub (ws' := [(mo, .inr (8, [.int 0, .int z_size, .ref m_row, .ref m_shelves, .ref m_many, .ref m_widths, .int (nI mkL), .ref m_mark, .int 0, .ref m_shownMark, .int 1, .int z_wrongL, .int z_endedL, .int (nI spL), .int z_hintsL, .int z_hasWidthL, .int z_widthL, .int z_firstL, .int z_movedL, .int z_deepestL, .int z_xL, .int z_yL, .int (nI tL), .ref m_stack, .ref m_places, .int (nI dL), .ref m_kinds, .ref m_ats, .ref m_ends])), (m_kinds, .inl (cI, 11, .inl g_kindsL)), (m_ats, .inl (cI, 11, .inl g_atsL)), (m_ends, .inl (cI, 11, .inl g_endsL)), (m_shelves, .inl (cI, 49152, .inl g_shelves)), (m_many, .inl (cI, 3, .inl g_many)), (m_widths, .inl (cI, 3, .inl g_widths)), (m_stack, .inl (cI, 48, .inl g_stackL)), (m_mark, .inl (cI, 28000, .inl g_markL)), (m_places, .inl (cI, 32, .inl g_placesL)), (m_shownMark, .inl (cI, 28000, .inl g_shownMark))]) [0, 1, 2, 3, 4, 5, 6, 7, 8, 9, 10] rfl rfl) hS ⟨_, rfl, rfl, rfl, Or.inr ⟨hhas, _, _, _, _, spL, _, _, _, _, _, _, _, _, tL, dL, mkL, 0, _, _, _, _, _, _, _, rfl, (by omega), (by omega), (run_f0 hrun c_155)⟩⟩
                · refine lv_aload_n hx hb d_Mo_run_137 rfl (lv_at hl 0 rfl) ?_
                  refine va_get (D := D) (ci := 8) (v := .int z_endedL) (C := R_Mo) (T := F_Mo) (N := 29) hx hb hts i_Mo hown hZ.1 hP 0 rfl rfl 12 (by decide) (hts _ fl_Mo_89) (fun _ h9 => h9) rfl d_Mo_run_138 ?_
                  refine lv_if_ne (tgt := 151) hx hb d_Mo_run_141 (by decide) (fun c_141 => ?_) (fun c_141 => ?_)
                  · refine lv_aload_n hx hb d_Mo_run_151 rfl (lv_at hl 0 rfl) ?_
                    refine va_get (D := D) (ci := 8) (v := .int z_wrongL) (C := R_Mo) (T := F_Mo) (N := 29) hx hb hts i_Mo hown hZ.1 hP 0 rfl rfl 11 (by decide) (hts _ fl_Mo_75) (fun _ h9 => h9) rfl d_Mo_run_152 ?_
                    refine lv_if_eq (tgt := 168) hx hb d_Mo_run_155 (by decide) (fun c_155 => ?_) (fun c_155 => ?_)
                    · refine lv_aload_n hx hb d_Mo_run_168 rfl (lv_at hl 0 rfl) ?_
                      refine lv_aload_n hx hb d_Mo_run_169 rfl (lv_at hl 0 rfl) ?_
                      refine va_get (D := D) (ci := 8) (v := .int (nI mkL)) (C := R_Mo) (T := F_Mo) (N := 29) hx hb hts i_Mo hown hZ.1 hP 0 rfl rfl 6 (by decide) (hts _ fl_Mo_116) (fun _ h9 => h9) rfl d_Mo_run_170 ?_
                      refine va_put (D := D) (ci := 8) (v := .int (nI mkL)) (ty := .int) (C := R_Mo) (T := F_Mo) (N := 29) hx hb hts i_Mo t_Mo t_Mo_ok n_Mo hown hZ.1 hP hD hS 0 rfl rfl 8 (by decide) (hts _ fl_Mo_126) (fun _ h9 => h9) rfl (by decide +kernel) rfl rfl (Nat.le_of_ble_eq_true rfl) d_Mo_run_173 (fun H locs hP hD hS => ?_)
                      have hP : va_P D classes [(mo, .inr (8, [.int 0, .int z_size, .ref m_row, .ref m_shelves, .ref m_many, .ref m_widths, .int (nI mkL), .ref m_mark, .int (nI mkL), .ref m_shownMark, .int 1, .int z_wrongL, .int z_endedL, .int (nI spL), .int z_hintsL, .int z_hasWidthL, .int z_widthL, .int z_firstL, .int z_movedL, .int z_deepestL, .int z_xL, .int z_yL, .int (nI tL), .ref m_stack, .ref m_places, .int (nI dL), .ref m_kinds, .ref m_ats, .ref m_ends])), (m_kinds, .inl (cI, 11, .inl g_kindsL)), (m_ats, .inl (cI, 11, .inl g_atsL)), (m_ends, .inl (cI, 11, .inl g_endsL)), (m_shelves, .inl (cI, 49152, .inl g_shelves)), (m_many, .inl (cI, 3, .inl g_many)), (m_widths, .inl (cI, 3, .inl g_widths)), (m_stack, .inl (cI, 48, .inl g_stackL)), (m_mark, .inl (cI, 28000, .inl g_markL)), (m_places, .inl (cI, 32, .inl g_placesL)), (m_shownMark, .inl (cI, 28000, .inl g_shownMark))] H := hP
                      have hD : va_D A_ [(mo, .inr (8, [.int 0, .int z_size, .ref m_row, .ref m_shelves, .ref m_many, .ref m_widths, .int (nI mkL), .ref m_mark, .int (nI mkL), .ref m_shownMark, .int 1, .int z_wrongL, .int z_endedL, .int (nI spL), .int z_hintsL, .int z_hasWidthL, .int z_widthL, .int z_firstL, .int z_movedL, .int z_deepestL, .int z_xL, .int z_yL, .int (nI tL), .ref m_stack, .ref m_places, .int (nI dL), .ref m_kinds, .ref m_ats, .ref m_ends])), (m_kinds, .inl (cI, 11, .inl g_kindsL)), (m_ats, .inl (cI, 11, .inl g_atsL)), (m_ends, .inl (cI, 11, .inl g_endsL)), (m_shelves, .inl (cI, 49152, .inl g_shelves)), (m_many, .inl (cI, 3, .inl g_many)), (m_widths, .inl (cI, 3, .inl g_widths)), (m_stack, .inl (cI, 48, .inl g_stackL)), (m_mark, .inl (cI, 28000, .inl g_markL)), (m_places, .inl (cI, 32, .inl g_placesL)), (m_shownMark, .inl (cI, 28000, .inl g_shownMark))] := hD
                      refine lv_iconst (v := 0) hx hb d_Mo_run_176 (by decide) ?_
                      refine lv_istore_n (lv' := [(2, .int 0), (0, .ref mo), (1, .int (nI kn))]) hx hb d_Mo_run_177 rfl hl (by decide) rfl (fun ls hl => ?_)
                      have lp_178 : ∀ (fu : Nat) (q : Nat) (gq : Nat → Int32) (H : Heap) (locs : List Loc) (ls : Array Slot), (q ≤ 7 * mkL ∧ ∀ i, i < q → gq i = g_markL i) → (7 * mkL - q) < fu → va_P D classes [(mo, .inr (8, [.int 0, .int z_size, .ref m_row, .ref m_shelves, .ref m_many, .ref m_widths, .int (nI mkL), .ref m_mark, .int (nI mkL), .ref m_shownMark, .int 1, .int z_wrongL, .int z_endedL, .int (nI spL), .int z_hintsL, .int z_hasWidthL, .int z_widthL, .int z_firstL, .int z_movedL, .int z_deepestL, .int z_xL, .int z_yL, .int (nI tL), .ref m_stack, .ref m_places, .int (nI dL), .ref m_kinds, .ref m_ats, .ref m_ends])), (m_kinds, .inl (cI, 11, .inl g_kindsL)), (m_ats, .inl (cI, 11, .inl g_atsL)), (m_ends, .inl (cI, 11, .inl g_endsL)), (m_shelves, .inl (cI, 49152, .inl g_shelves)), (m_many, .inl (cI, 3, .inl g_many)), (m_widths, .inl (cI, 3, .inl g_widths)), (m_stack, .inl (cI, 48, .inl g_stackL)), (m_mark, .inl (cI, 28000, .inl g_markL)), (m_places, .inl (cI, 32, .inl g_placesL)), (m_shownMark, .inl (cI, 28000, .inl gq))] H → va_D A_ [(mo, .inr (8, [.int 0, .int z_size, .ref m_row, .ref m_shelves, .ref m_many, .ref m_widths, .int (nI mkL), .ref m_mark, .int (nI mkL), .ref m_shownMark, .int 1, .int z_wrongL, .int z_endedL, .int (nI spL), .int z_hintsL, .int z_hasWidthL, .int z_widthL, .int z_firstL, .int z_movedL, .int z_deepestL, .int z_xL, .int z_yL, .int (nI tL), .ref m_stack, .ref m_places, .int (nI dL), .ref m_kinds, .ref m_ats, .ref m_ends])), (m_kinds, .inl (cI, 11, .inl g_kindsL)), (m_ats, .inl (cI, 11, .inl g_atsL)), (m_ends, .inl (cI, 11, .inl g_endsL)), (m_shelves, .inl (cI, 49152, .inl g_shelves)), (m_many, .inl (cI, 3, .inl g_many)), (m_widths, .inl (cI, 3, .inl g_widths)), (m_stack, .inl (cI, 48, .inl g_stackL)), (m_mark, .inl (cI, 28000, .inl g_markL)), (m_places, .inl (cI, 32, .inl g_placesL)), (m_shownMark, .inl (cI, 28000, .inl gq))] → va_S A_ s_.heap H locs → lv_has ls 3 [(0, .ref mo), (1, .int (nI kn)), (2, .int (nI q))] → W p_ l e_ ({ frames := 7, cells := 0, slots := 0, locals := 171 }) s_ m_ args_ below_ meth_ c_ H locs (0) (0) (MQT below_ D classes A_ (pI0 (fun r w => (hasS T.1.1 k = 0 ∧ r = 0 ∧ w = [(mo, .inr (8, [.int 1, .int z_size, .ref m_row, .ref m_shelves, .ref m_many, .ref m_widths, .int (nI mk), .ref m_mark, .int (nI sh), .ref m_shownMark, .int z_wasRun, .int z_wrong, .int z_ended, .int (nI sp), .int z_hints, .int z_hasWidth, .int z_width, .int z_first, .int z_moved, .int z_deepest, .int z_x, .int z_y, .int (nI t), .ref m_stack, .ref m_places, .int (nI d), .ref m_kinds, .ref m_ats, .ref m_ends])), (m_kinds, .inl (cI, 11, .inl g_kinds)), (m_ats, .inl (cI, 11, .inl g_ats)), (m_ends, .inl (cI, 11, .inl g_ends)), (m_shelves, .inl (cI, 49152, .inl g_shelves)), (m_many, .inl (cI, 3, .inl g_many)), (m_widths, .inl (cI, 3, .inl g_widths)), (m_stack, .inl (cI, 48, .inl g_stack)), (m_mark, .inl (cI, 28000, .inl g_mark)), (m_places, .inl (cI, 32, .inl g_places)), (m_shownMark, .inl (cI, 28000, .inl g_shownMark))]) ∨ (¬ hasS T.1.1 k = 0 ∧ ∃ (z_fault' : Int32) (z_wasRun' : Int32) (z_wrong' : Int32) (z_ended' : Int32) (sp' : Nat) (z_hints' : Int32) (z_hasWidth' : Int32) (z_width' : Int32) (z_first' : Int32) (z_moved' : Int32) (z_deepest' : Int32) (z_x' : Int32) (z_y' : Int32) (t' : Nat) (d' : Nat) (mk' : Nat) (sh' : Nat) (g_kinds' g_ats' g_ends' g_stack' g_mark' g_places' g_shownMark' : Nat → Int32), w = [(mo, .inr (8, [.int z_fault', .int z_size, .ref m_row, .ref m_shelves, .ref m_many, .ref m_widths, .int (nI mk'), .ref m_mark, .int (nI sh'), .ref m_shownMark, .int z_wasRun', .int z_wrong', .int z_ended', .int (nI sp'), .int z_hints', .int z_hasWidth', .int z_width', .int z_first', .int z_moved', .int z_deepest', .int z_x', .int z_y', .int (nI t'), .ref m_stack, .ref m_places, .int (nI d'), .ref m_kinds, .ref m_ats, .ref m_ends])), (m_kinds, .inl (cI, 11, .inl g_kinds')), (m_ats, .inl (cI, 11, .inl g_ats')), (m_ends, .inl (cI, 11, .inl g_ends')), (m_shelves, .inl (cI, 49152, .inl g_shelves)), (m_many, .inl (cI, 3, .inl g_many)), (m_widths, .inl (cI, 3, .inl g_widths)), (m_stack, .inl (cI, 48, .inl g_stack')), (m_mark, .inl (cI, 28000, .inl g_mark')), (m_places, .inl (cI, 32, .inl g_places')), (m_shownMark, .inl (cI, 28000, .inl g_shownMark'))] ∧ (t' ≤ 48 ∧ d' ≤ 10 ∧ mk' ≤ 4000 ∧ sp' ≤ 20000) ∧ sh' ≤ 4000 ∧ shoP ((iniP T k).bind (runP T 20001 0)) = (sh', trunc (sh' * 7) g_shownMark')))) s_) (F0 m_ 178 ls []) := by
                        intro fu
                        induction fu with
                        | zero => intro q gq H locs ls hinv hfu; exact absurd hfu (Nat.not_lt_zero _)
                        | succ fu ih_178 =>
                          intro q gq H locs ls hinv hfu hP hD hS hl
                          obtain ⟨hq7, hcq⟩ := hinv
                          refine lv_iload_n hx hb d_Mo_run_178 rfl (lv_at hl 2 rfl) ?_
                          refine lv_bipush (v := 7) hx hb d_Mo_run_179 (by decide) ?_
                          refine lv_aload_n hx hb d_Mo_run_181 rfl (lv_at hl 0 rfl) ?_
                          refine va_get (D := D) (ci := 8) (v := .int (nI mkL)) (C := R_Mo) (T := F_Mo) (N := 29) hx hb hts i_Mo hown hZ.1 hP 0 rfl rfl 6 (by decide) (hts _ fl_Mo_116) (fun _ h9 => h9) rfl d_Mo_run_182 ?_
                          refine lv_imul hx hb d_Mo_run_185 ?_
                          refine lv_tv (y := nI (7 * mkL)) (pk_mul 7 mkL) ?_
                          refine lv_icmp_ge (tgt := 207) hx hb d_Mo_run_186 (by decide) (fun c_186 => ?_) (fun c_186 => ?_)
                          · have n_186 : (7 * mkL) ≤ (q) := (nI_leI (a := 7 * mkL) (b := q) (by omega) (by omega)).mp c_186
                            refine lv_aload_n hx hb d_Mo_run_207 rfl (lv_at hl 0 rfl) ?_
                            refine va_get (D := D) (ci := 8) (v := .int (nI mkL)) (C := R_Mo) (T := F_Mo) (N := 29) hx hb hts i_Mo hown hZ.1 hP 0 rfl rfl 6 (by decide) (hts _ fl_Mo_116) (fun _ h9 => h9) rfl d_Mo_run_208 ?_
                            exact t_iret hx hb hr hlk d_Mo_run_211 (hP.subm (ws' := [(mo, .inr (8, [.int 0, .int z_size, .ref m_row, .ref m_shelves, .ref m_many, .ref m_widths, .int (nI mkL), .ref m_mark, .int (nI mkL), .ref m_shownMark, .int 1, .int z_wrongL, .int z_endedL, .int (nI spL), .int z_hintsL, .int z_hasWidthL, .int z_widthL, .int z_firstL, .int z_movedL, .int z_deepestL, .int z_xL, .int z_yL, .int (nI tL), .ref m_stack, .ref m_places, .int (nI dL), .ref m_kinds, .ref m_ats, .ref m_ends])), (m_kinds, .inl (cI, 11, .inl g_kindsL)), (m_ats, .inl (cI, 11, .inl g_atsL)), (m_ends, .inl (cI, 11, .inl g_endsL)), (m_shelves, .inl (cI, 49152, .inl g_shelves)), (m_many, .inl (cI, 3, .inl g_many)), (m_widths, .inl (cI, 3, .inl g_widths)), (m_stack, .inl (cI, 48, .inl g_stackL)), (m_mark, .inl (cI, 28000, .inl g_markL)), (m_places, .inl (cI, 32, .inl g_placesL)), (m_shownMark, .inl (cI, 28000, .inl gq))]) [0, 1, 2, 3, 4, 5, 6, 7, 8, 9, 10] rfl) (hD.sub (ws' := [(mo, .inr (8, [.int 0, .int z_size, .ref m_row, .ref m_shelves, .ref m_many, .ref m_widths, .int (nI mkL), .ref m_mark, .int (nI mkL), .ref m_shownMark, .int 1, .int z_wrongL, .int z_endedL, .int (nI spL), .int z_hintsL, .int z_hasWidthL, .int z_widthL, .int z_firstL, .int z_movedL, .int z_deepestL, .int z_xL, .int z_yL, .int (nI tL), .ref m_stack, .ref m_places, .int (nI dL), .ref m_kinds, .ref m_ats, .ref m_ends])), (m_kinds, .inl (cI, 11, .inl g_kindsL)), (m_ats, .inl (cI, 11, .inl g_atsL)), (m_ends, .inl (cI, 11, .inl g_endsL)), (m_shelves, .inl (cI, 49152, .inl g_shelves)), (m_many, .inl (cI, 3, .inl g_many)), (m_widths, .inl (cI, 3, .inl g_widths)), (m_stack, .inl (cI, 48, .inl g_stackL)), (m_mark, .inl (cI, 28000, .inl g_markL)), (m_places, .inl (cI, 32, .inl g_placesL)), (m_shownMark, .inl (cI, 28000, .inl gq))]) [0, 1, 2, 3, 4, 5, 6, 7, 8, 9, 10] rfl rfl) hS ⟨_, rfl, rfl, rfl, Or.inr ⟨hhas, _, _, _, _, spL, _, _, _, _, _, _, _, _, tL, dL, mkL, mkL, _, _, _, _, _, _, _, rfl, (by omega), (by omega), (run_f1 hrun c_155 c_141 (fun i hi => hcq i (by omega)))⟩⟩
                          · have n_186 : ¬ (7 * mkL) ≤ (q) := fun z => c_186 ((nI_leI (a := 7 * mkL) (b := q) (by omega) (by omega)).mpr z)
                            refine lv_aload_n hx hb d_Mo_run_189 rfl (lv_at hl 0 rfl) ?_
                            refine va_get (D := D) (ci := 8) (v := .ref m_shownMark) (C := R_Mo) (T := F_Mo) (N := 29) hx hb hts i_Mo hown hZ.1 hP 0 rfl rfl 9 (by decide) (hts _ fl_Mo_26) (fun _ h9 => h9) rfl d_Mo_run_190 ?_
                            refine lv_iload_n hx hb d_Mo_run_193 rfl (lv_at hl 2 rfl) ?_
                            refine lv_aload_n hx hb d_Mo_run_194 rfl (lv_at hl 0 rfl) ?_
                            refine va_get (D := D) (ci := 8) (v := .ref m_mark) (C := R_Mo) (T := F_Mo) (N := 29) hx hb hts i_Mo hown hZ.1 hP 0 rfl rfl 7 (by decide) (hts _ fl_Mo_23) (fun _ h9 => h9) rfl d_Mo_run_195 ?_
                            refine lv_iload_n hx hb d_Mo_run_198 rfl (lv_at hl 2 rfl) ?_
                            refine va_iald hx hb hZ.1 hP 8 1 rfl rfl (vp_in_nI (by omega) (by omega)) d_Mo_run_199 ?_
                            refine lv_tv (y := g_markL q) (by rw [nI_clamp (by omega)]) ?_
                            refine va_iast hx hb hZ.1 hP hD hS 10 1 rfl rfl (vp_in_nI (by omega) (by omega)) d_Mo_run_200 (fun H locs hP hD hS => ?_)
                            rw [show ((nI q).toNatClampNeg) = q from nI_clamp (by omega)] at hP hD
                            have hP : va_P D classes [(mo, .inr (8, [.int 0, .int z_size, .ref m_row, .ref m_shelves, .ref m_many, .ref m_widths, .int (nI mkL), .ref m_mark, .int (nI mkL), .ref m_shownMark, .int 1, .int z_wrongL, .int z_endedL, .int (nI spL), .int z_hintsL, .int z_hasWidthL, .int z_widthL, .int z_firstL, .int z_movedL, .int z_deepestL, .int z_xL, .int z_yL, .int (nI tL), .ref m_stack, .ref m_places, .int (nI dL), .ref m_kinds, .ref m_ats, .ref m_ends])), (m_kinds, .inl (cI, 11, .inl g_kindsL)), (m_ats, .inl (cI, 11, .inl g_atsL)), (m_ends, .inl (cI, 11, .inl g_endsL)), (m_shelves, .inl (cI, 49152, .inl g_shelves)), (m_many, .inl (cI, 3, .inl g_many)), (m_widths, .inl (cI, 3, .inl g_widths)), (m_stack, .inl (cI, 48, .inl g_stackL)), (m_mark, .inl (cI, 28000, .inl g_markL)), (m_places, .inl (cI, 32, .inl g_placesL)), (m_shownMark, .inl (cI, 28000, .inl (upd gq q (g_markL q))))] H := hP
                            have hD : va_D A_ [(mo, .inr (8, [.int 0, .int z_size, .ref m_row, .ref m_shelves, .ref m_many, .ref m_widths, .int (nI mkL), .ref m_mark, .int (nI mkL), .ref m_shownMark, .int 1, .int z_wrongL, .int z_endedL, .int (nI spL), .int z_hintsL, .int z_hasWidthL, .int z_widthL, .int z_firstL, .int z_movedL, .int z_deepestL, .int z_xL, .int z_yL, .int (nI tL), .ref m_stack, .ref m_places, .int (nI dL), .ref m_kinds, .ref m_ats, .ref m_ends])), (m_kinds, .inl (cI, 11, .inl g_kindsL)), (m_ats, .inl (cI, 11, .inl g_atsL)), (m_ends, .inl (cI, 11, .inl g_endsL)), (m_shelves, .inl (cI, 49152, .inl g_shelves)), (m_many, .inl (cI, 3, .inl g_many)), (m_widths, .inl (cI, 3, .inl g_widths)), (m_stack, .inl (cI, 48, .inl g_stackL)), (m_mark, .inl (cI, 28000, .inl g_markL)), (m_places, .inl (cI, 32, .inl g_placesL)), (m_shownMark, .inl (cI, 28000, .inl (upd gq q (g_markL q))))] := hD
                            refine lv_iinc (v := nI (q + 1)) (lv' := [(2, .int (nI (q + 1))), (0, .ref mo), (1, .int (nI kn))]) hx hb d_Mo_run_201 hl (k := 2) rfl (nI_add q 1) (by decide) rfl (fun ls hl => ?_)
                            refine lv_goto (tgt := 178) hx hb d_Mo_run_204 (by decide) ?_
                            exact ih_178  (q + 1) (upd gq q (g_markL q)) _ _ _ ⟨by omega, cp_all hcq⟩ (by omega) (hP.subm [0, 1, 2, 3, 4, 5, 6, 7, 8, 9, 10] rfl) (hD.sub [0, 1, 2, 3, 4, 5, 6, 7, 8, 9, 10] rfl rfl) hS (lv_sub hl [1, 2, 0] rfl)
                      exact lp_178 _ 0 g_shownMark _ _ _ ⟨by omega, fun i hi => absurd hi (Nat.not_lt_zero _)⟩ (Nat.lt_succ_self _) (hP.subm [0, 1, 2, 3, 4, 5, 6, 7, 8, 9, 10] rfl) (hD.sub [0, 1, 2, 3, 4, 5, 6, 7, 8, 9, 10] rfl rfl) hS (lv_sub hl [1, 2, 0] rfl)
                    · refine lv_aload_n hx hb d_Mo_run_158 rfl (lv_at hl 0 rfl) ?_
                      refine lv_iconst (v := 0) hx hb d_Mo_run_159 (by decide) ?_
                      refine va_put (D := D) (ci := 8) (v := .int 0) (ty := .int) (C := R_Mo) (T := F_Mo) (N := 29) hx hb hts i_Mo t_Mo t_Mo_ok n_Mo hown hZ.1 hP hD hS 0 rfl rfl 8 (by decide) (hts _ fl_Mo_126) (fun _ h9 => h9) rfl (by decide +kernel) rfl rfl (Nat.le_of_ble_eq_true rfl) d_Mo_run_160 (fun H locs hP hD hS => ?_)
                      have hP : va_P D classes [(mo, .inr (8, [.int 0, .int z_size, .ref m_row, .ref m_shelves, .ref m_many, .ref m_widths, .int (nI mkL), .ref m_mark, .int 0, .ref m_shownMark, .int 1, .int z_wrongL, .int z_endedL, .int (nI spL), .int z_hintsL, .int z_hasWidthL, .int z_widthL, .int z_firstL, .int z_movedL, .int z_deepestL, .int z_xL, .int z_yL, .int (nI tL), .ref m_stack, .ref m_places, .int (nI dL), .ref m_kinds, .ref m_ats, .ref m_ends])), (m_kinds, .inl (cI, 11, .inl g_kindsL)), (m_ats, .inl (cI, 11, .inl g_atsL)), (m_ends, .inl (cI, 11, .inl g_endsL)), (m_shelves, .inl (cI, 49152, .inl g_shelves)), (m_many, .inl (cI, 3, .inl g_many)), (m_widths, .inl (cI, 3, .inl g_widths)), (m_stack, .inl (cI, 48, .inl g_stackL)), (m_mark, .inl (cI, 28000, .inl g_markL)), (m_places, .inl (cI, 32, .inl g_placesL)), (m_shownMark, .inl (cI, 28000, .inl g_shownMark))] H := hP
                      have hD : va_D A_ [(mo, .inr (8, [.int 0, .int z_size, .ref m_row, .ref m_shelves, .ref m_many, .ref m_widths, .int (nI mkL), .ref m_mark, .int 0, .ref m_shownMark, .int 1, .int z_wrongL, .int z_endedL, .int (nI spL), .int z_hintsL, .int z_hasWidthL, .int z_widthL, .int z_firstL, .int z_movedL, .int z_deepestL, .int z_xL, .int z_yL, .int (nI tL), .ref m_stack, .ref m_places, .int (nI dL), .ref m_kinds, .ref m_ats, .ref m_ends])), (m_kinds, .inl (cI, 11, .inl g_kindsL)), (m_ats, .inl (cI, 11, .inl g_atsL)), (m_ends, .inl (cI, 11, .inl g_endsL)), (m_shelves, .inl (cI, 49152, .inl g_shelves)), (m_many, .inl (cI, 3, .inl g_many)), (m_widths, .inl (cI, 3, .inl g_widths)), (m_stack, .inl (cI, 48, .inl g_stackL)), (m_mark, .inl (cI, 28000, .inl g_markL)), (m_places, .inl (cI, 32, .inl g_placesL)), (m_shownMark, .inl (cI, 28000, .inl g_shownMark))] := hD
                      refine lv_aload_n hx hb d_Mo_run_163 rfl (lv_at hl 0 rfl) ?_
                      refine va_get (D := D) (ci := 8) (v := .int z_wrongL) (C := R_Mo) (T := F_Mo) (N := 29) hx hb hts i_Mo hown hZ.1 hP 0 rfl rfl 11 (by decide) (hts _ fl_Mo_75) (fun _ h9 => h9) rfl d_Mo_run_164 ?_
                      exact t_iret hx hb hr hlk d_Mo_run_167 (hP.subm (ws' := [(mo, .inr (8, [.int 0, .int z_size, .ref m_row, .ref m_shelves, .ref m_many, .ref m_widths, .int (nI mkL), .ref m_mark, .int 0, .ref m_shownMark, .int 1, .int z_wrongL, .int z_endedL, .int (nI spL), .int z_hintsL, .int z_hasWidthL, .int z_widthL, .int z_firstL, .int z_movedL, .int z_deepestL, .int z_xL, .int z_yL, .int (nI tL), .ref m_stack, .ref m_places, .int (nI dL), .ref m_kinds, .ref m_ats, .ref m_ends])), (m_kinds, .inl (cI, 11, .inl g_kindsL)), (m_ats, .inl (cI, 11, .inl g_atsL)), (m_ends, .inl (cI, 11, .inl g_endsL)), (m_shelves, .inl (cI, 49152, .inl g_shelves)), (m_many, .inl (cI, 3, .inl g_many)), (m_widths, .inl (cI, 3, .inl g_widths)), (m_stack, .inl (cI, 48, .inl g_stackL)), (m_mark, .inl (cI, 28000, .inl g_markL)), (m_places, .inl (cI, 32, .inl g_placesL)), (m_shownMark, .inl (cI, 28000, .inl g_shownMark))]) [0, 1, 2, 3, 4, 5, 6, 7, 8, 9, 10] rfl) (hD.sub (ws' := [(mo, .inr (8, [.int 0, .int z_size, .ref m_row, .ref m_shelves, .ref m_many, .ref m_widths, .int (nI mkL), .ref m_mark, .int 0, .ref m_shownMark, .int 1, .int z_wrongL, .int z_endedL, .int (nI spL), .int z_hintsL, .int z_hasWidthL, .int z_widthL, .int z_firstL, .int z_movedL, .int z_deepestL, .int z_xL, .int z_yL, .int (nI tL), .ref m_stack, .ref m_places, .int (nI dL), .ref m_kinds, .ref m_ats, .ref m_ends])), (m_kinds, .inl (cI, 11, .inl g_kindsL)), (m_ats, .inl (cI, 11, .inl g_atsL)), (m_ends, .inl (cI, 11, .inl g_endsL)), (m_shelves, .inl (cI, 49152, .inl g_shelves)), (m_many, .inl (cI, 3, .inl g_many)), (m_widths, .inl (cI, 3, .inl g_widths)), (m_stack, .inl (cI, 48, .inl g_stackL)), (m_mark, .inl (cI, 28000, .inl g_markL)), (m_places, .inl (cI, 32, .inl g_placesL)), (m_shownMark, .inl (cI, 28000, .inl g_shownMark))]) [0, 1, 2, 3, 4, 5, 6, 7, 8, 9, 10] rfl rfl) hS ⟨_, rfl, rfl, rfl, Or.inr ⟨hhas, _, _, _, _, spL, _, _, _, _, _, _, _, _, tL, dL, mkL, 0, _, _, _, _, _, _, _, rfl, (by omega), (by omega), (run_f0 hrun c_155)⟩⟩
                  · refine lv_aload_n hx hb d_Mo_run_144 rfl (lv_at hl 0 rfl) ?_
                    have hC : Cut [(mo, .inr (8, [.int 0, .int z_size, .ref m_row, .ref m_shelves, .ref m_many, .ref m_widths, .int (nI mkL), .ref m_mark, .int (nI sh), .ref m_shownMark, .int 1, .int z_wrongL, .int z_endedL, .int (nI spL), .int z_hintsL, .int z_hasWidthL, .int z_widthL, .int z_firstL, .int z_movedL, .int z_deepestL, .int z_xL, .int z_yL, .int (nI tL), .ref m_stack, .ref m_places, .int (nI dL), .ref m_kinds, .ref m_ats, .ref m_ends])), (m_kinds, .inl (cI, 11, .inl g_kindsL)), (m_ats, .inl (cI, 11, .inl g_atsL)), (m_ends, .inl (cI, 11, .inl g_endsL)), (m_shelves, .inl (cI, 49152, .inl g_shelves)), (m_many, .inl (cI, 3, .inl g_many)), (m_widths, .inl (cI, 3, .inl g_widths)), (m_stack, .inl (cI, 48, .inl g_stackL)), (m_mark, .inl (cI, 28000, .inl g_markL)), (m_places, .inl (cI, 32, .inl g_placesL)), (m_shownMark, .inl (cI, 28000, .inl g_shownMark))] [(mo, .inr (8, [.int 0, .int z_size, .ref m_row, .ref m_shelves, .ref m_many, .ref m_widths, .int (nI mkL), .ref m_mark, .int (nI sh), .ref m_shownMark, .int 1, .int z_wrongL, .int z_endedL, .int (nI spL), .int z_hintsL, .int z_hasWidthL, .int z_widthL, .int z_firstL, .int z_movedL, .int z_deepestL, .int z_xL, .int z_yL, .int (nI tL), .ref m_stack, .ref m_places, .int (nI dL), .ref m_kinds, .ref m_ats, .ref m_ends])), (m_kinds, .inl (cI, 11, .inl g_kindsL)), (m_ats, .inl (cI, 11, .inl g_atsL)), (m_ends, .inl (cI, 11, .inl g_endsL)), (m_shelves, .inl (cI, 49152, .inl g_shelves)), (m_many, .inl (cI, 3, .inl g_many)), (m_widths, .inl (cI, 3, .inl g_widths)), (m_stack, .inl (cI, 48, .inl g_stackL)), (m_mark, .inl (cI, 28000, .inl g_markL)), (m_places, .inl (cI, 32, .inl g_placesL))] [(m_shownMark, .inl (cI, 28000, .inl g_shownMark))] [0, 1, 2, 3, 4, 5, 6, 7, 8, 9] [10] := ⟨rfl, rfl, rfl, rfl, by decide⟩
                    refine goV0 (trV (As := []) (rest := []) ⟨hx, hb, hml, hown, hts⟩ gd_good (c_Mo_step l D cB cI cJ mo m_row m_shelves m_many m_widths m_mark m_shownMark m_stack m_places m_kinds m_ats m_ends mkL spL tL dL 0 z_size (nI sh) 1 z_wrongL z_endedL z_hintsL z_hasWidthL z_widthL z_firstL z_movedL z_deepestL z_xL z_yL g_kindsL g_atsL g_endsL g_shelves g_many g_widths g_stackL g_markL g_placesL (by omega) hstL (by omega) hvs c_134 c_141 T hR (hok c_134).1 (hok c_134).2) cal_Mo_step ml_Mo_123 ⟨Nat.le_of_ble_eq_true rfl, Nat.le_of_ble_eq_true rfl⟩ hZ hP hD hC 0 (ci := 8) rfl rfl rfl rfl hl.1 rfl (Nat.le_of_ble_eq_true rfl) d_Mo_run_145 ⟨Nat.le_of_ble_eq_true rfl, Nat.le_of_ble_eq_true rfl⟩) hZ hP hD hS hC (fun w1 H locs hq hP hD hS => ?_)
                    obtain ⟨z_wrong_2, z_ended_2, z_hints_2, z_hasWidth_2, z_width_2, z_first_2, z_moved_2, z_deepest_2, z_x_2, z_y_2, t_2, d_2, mk_2, sp_2, g_kinds_2, g_ats_2, g_ends_2, g_stack_2, g_mark_2, g_places_2, rfl, hv_2, hd_2, hst_2, hx_2⟩ := hq
                    have hP : va_P D classes [(m_shownMark, .inl (cI, 28000, .inl g_shownMark)), (mo, .inr (8, [.int 0, .int z_size, .ref m_row, .ref m_shelves, .ref m_many, .ref m_widths, .int (nI mk_2), .ref m_mark, .int (nI sh), .ref m_shownMark, .int 1, .int z_wrong_2, .int z_ended_2, .int (nI sp_2), .int z_hints_2, .int z_hasWidth_2, .int z_width_2, .int z_first_2, .int z_moved_2, .int z_deepest_2, .int z_x_2, .int z_y_2, .int (nI t_2), .ref m_stack, .ref m_places, .int (nI d_2), .ref m_kinds, .ref m_ats, .ref m_ends])), (m_kinds, .inl (cI, 11, .inl g_kinds_2)), (m_ats, .inl (cI, 11, .inl g_ats_2)), (m_ends, .inl (cI, 11, .inl g_ends_2)), (m_shelves, .inl (cI, 49152, .inl g_shelves)), (m_many, .inl (cI, 3, .inl g_many)), (m_widths, .inl (cI, 3, .inl g_widths)), (m_stack, .inl (cI, 48, .inl g_stack_2)), (m_mark, .inl (cI, 28000, .inl g_mark_2)), (m_places, .inl (cI, 32, .inl g_places_2))] H := hP
                    have hD : va_D A_ [(m_shownMark, .inl (cI, 28000, .inl g_shownMark)), (mo, .inr (8, [.int 0, .int z_size, .ref m_row, .ref m_shelves, .ref m_many, .ref m_widths, .int (nI mk_2), .ref m_mark, .int (nI sh), .ref m_shownMark, .int 1, .int z_wrong_2, .int z_ended_2, .int (nI sp_2), .int z_hints_2, .int z_hasWidth_2, .int z_width_2, .int z_first_2, .int z_moved_2, .int z_deepest_2, .int z_x_2, .int z_y_2, .int (nI t_2), .ref m_stack, .ref m_places, .int (nI d_2), .ref m_kinds, .ref m_ats, .ref m_ends])), (m_kinds, .inl (cI, 11, .inl g_kinds_2)), (m_ats, .inl (cI, 11, .inl g_ats_2)), (m_ends, .inl (cI, 11, .inl g_ends_2)), (m_shelves, .inl (cI, 49152, .inl g_shelves)), (m_many, .inl (cI, 3, .inl g_many)), (m_widths, .inl (cI, 3, .inl g_widths)), (m_stack, .inl (cI, 48, .inl g_stack_2)), (m_mark, .inl (cI, 28000, .inl g_mark_2)), (m_places, .inl (cI, 32, .inl g_places_2))] := hD
                    refine lv_goto (tgt := 130) hx hb d_Mo_run_148 (by decide) ?_
                    exact ih_130  z_wrong_2 z_ended_2 z_hints_2 z_hasWidth_2 z_width_2 z_first_2 z_moved_2 z_deepest_2 z_x_2 z_y_2 t_2 d_2 mk_2 sp_2 g_kinds_2 g_ats_2 g_ends_2 g_stack_2 g_mark_2 g_places_2 _ _ _ ⟨by omega, by omega, hst_2, fun z => okm_out (okm_step (okt_of hR) (by show tL ≤ 1000; omega) (okm_in (hok c_134)) z hx_2.2.1), run_on hrun c_134 c_141 (by omega) hx_2.2.1 hx_2.2.2⟩ (meas_run c_134 hfu hx_2.1 (by omega)) (hP.subm [1, 2, 3, 4, 5, 6, 7, 8, 9, 10, 0] rfl) (hD.sub [1, 2, 3, 4, 5, 6, 7, 8, 9, 10, 0] rfl rfl) hS (lv_sub hl [0, 1] rfl)
            exact lp_130 _ 0 0 0 0 0 1 0 z_deepest_1 0 0 0 d_1 0 0 g_kinds_1 g_ats_1 g_ends_1 g_stack g_mark gp _ _ _ ⟨by omega, by omega, hst_1, fun _ => ⟨en_oke (okt_of hR) hini, 0, by omega, rfl⟩, ini_m hini hgp⟩ (Nat.lt_succ_self _) (hP.subm [4, 5, 6, 7, 8, 9, 10, 0, 1, 2, 3] rfl) (hD.sub [4, 5, 6, 7, 8, 9, 10, 0, 1, 2, 3] rfl rfl) hS (lv_sub hl [0, 1] rfl)
          · have n_108 : ¬ (32) ≤ (q) := fun z => c_108 ((nI_leI (a := 32) (b := q) (by omega) (by omega)).mpr z)
            refine lv_aload_n hx hb d_Mo_run_111 rfl (lv_at hl 0 rfl) ?_
            refine va_get (D := D) (ci := 8) (v := .ref m_places) (C := R_Mo) (T := F_Mo) (N := 29) hx hb hts i_Mo hown hZ.1 hP 0 rfl rfl 24 (by decide) (hts _ fl_Mo_32) (fun _ h9 => h9) rfl d_Mo_run_112 ?_
            refine lv_iload_n hx hb d_Mo_run_115 rfl (lv_at hl 2 rfl) ?_
            refine lv_iconst (v := 0) hx hb d_Mo_run_116 (by decide) ?_
            refine va_iast hx hb hZ.1 hP hD hS 9 1 rfl rfl (vp_in_nI (by omega) (by omega)) d_Mo_run_117 (fun H locs hP hD hS => ?_)
            rw [show ((nI q).toNatClampNeg) = q from nI_clamp (by omega)] at hP hD
            have hP : va_P D classes [(mo, .inr (8, [.int 0, .int z_size, .ref m_row, .ref m_shelves, .ref m_many, .ref m_widths, .int (nI 0), .ref m_mark, .int (nI sh), .ref m_shownMark, .int 1, .int 0, .int 0, .int (nI 0), .int 0, .int 0, .int 0, .int 1, .int 0, .int 0, .int 0, .int 0, .int (nI 0), .ref m_stack, .ref m_places, .int (nI 0), .ref m_kinds, .ref m_ats, .ref m_ends])), (m_kinds, .inl (cI, 11, .inl g_kinds)), (m_ats, .inl (cI, 11, .inl g_ats)), (m_ends, .inl (cI, 11, .inl g_ends)), (m_shelves, .inl (cI, 49152, .inl g_shelves)), (m_many, .inl (cI, 3, .inl g_many)), (m_widths, .inl (cI, 3, .inl g_widths)), (m_stack, .inl (cI, 48, .inl g_stack)), (m_mark, .inl (cI, 28000, .inl g_mark)), (m_places, .inl (cI, 32, .inl (upd gp q 0))), (m_shownMark, .inl (cI, 28000, .inl g_shownMark))] H := hP
            have hD : va_D A_ [(mo, .inr (8, [.int 0, .int z_size, .ref m_row, .ref m_shelves, .ref m_many, .ref m_widths, .int (nI 0), .ref m_mark, .int (nI sh), .ref m_shownMark, .int 1, .int 0, .int 0, .int (nI 0), .int 0, .int 0, .int 0, .int 1, .int 0, .int 0, .int 0, .int 0, .int (nI 0), .ref m_stack, .ref m_places, .int (nI 0), .ref m_kinds, .ref m_ats, .ref m_ends])), (m_kinds, .inl (cI, 11, .inl g_kinds)), (m_ats, .inl (cI, 11, .inl g_ats)), (m_ends, .inl (cI, 11, .inl g_ends)), (m_shelves, .inl (cI, 49152, .inl g_shelves)), (m_many, .inl (cI, 3, .inl g_many)), (m_widths, .inl (cI, 3, .inl g_widths)), (m_stack, .inl (cI, 48, .inl g_stack)), (m_mark, .inl (cI, 28000, .inl g_mark)), (m_places, .inl (cI, 32, .inl (upd gp q 0))), (m_shownMark, .inl (cI, 28000, .inl g_shownMark))] := hD
            refine lv_iinc (v := nI (q + 1)) (lv' := [(2, .int (nI (q + 1))), (0, .ref mo), (1, .int k)]) hx hb d_Mo_run_118 hl (k := 2) rfl (nI_add q 1) (by decide) rfl (fun ls hl => ?_)
            refine lv_goto (tgt := 105) hx hb d_Mo_run_121 (by decide) ?_
            exact ih_105  (q + 1) (upd gp q 0) _ _ _ ⟨by omega, upd_all hgp⟩ (by omega) (hP.subm [0, 1, 2, 3, 4, 5, 6, 7, 8, 9, 10] rfl) (hD.sub [0, 1, 2, 3, 4, 5, 6, 7, 8, 9, 10] rfl rfl) hS (lv_sub hl [1, 2, 0] rfl)
      exact lp_105 _ 0 g_places _ _ _ ⟨by omega, fun i hi => absurd hi (Nat.not_lt_zero _)⟩ (Nat.lt_succ_self _) (hP.subm [10, 0, 1, 2, 3, 4, 5, 6, 7, 8, 9] rfl) (hD.sub [10, 0, 1, 2, 3, 4, 5, 6, 7, 8, 9] rfl rfl) hS (lv_sub hl [1, 2, 0] rfl)
    · refine lv_iconst (v := 1) hx hb d_Mo_run_15 (by decide) ?_
      refine lv_goto (tgt := 20) hx hb d_Mo_run_16 (by decide) ?_
      have hC : Cut [(mo, .inr (8, [.int z_fault, .int z_size, .ref m_row, .ref m_shelves, .ref m_many, .ref m_widths, .int (nI mk), .ref m_mark, .int (nI sh), .ref m_shownMark, .int z_wasRun, .int z_wrong, .int z_ended, .int (nI sp), .int z_hints, .int z_hasWidth, .int z_width, .int z_first, .int z_moved, .int z_deepest, .int z_x, .int z_y, .int (nI t), .ref m_stack, .ref m_places, .int (nI d), .ref m_kinds, .ref m_ats, .ref m_ends])), (m_kinds, .inl (cI, 11, .inl g_kinds)), (m_ats, .inl (cI, 11, .inl g_ats)), (m_ends, .inl (cI, 11, .inl g_ends)), (m_shelves, .inl (cI, 49152, .inl g_shelves)), (m_many, .inl (cI, 3, .inl g_many)), (m_widths, .inl (cI, 3, .inl g_widths)), (m_stack, .inl (cI, 48, .inl g_stack)), (m_mark, .inl (cI, 28000, .inl g_mark)), (m_places, .inl (cI, 32, .inl g_places)), (m_shownMark, .inl (cI, 28000, .inl g_shownMark))] [(mo, .inr (8, [.int z_fault, .int z_size, .ref m_row, .ref m_shelves, .ref m_many, .ref m_widths, .int (nI mk), .ref m_mark, .int (nI sh), .ref m_shownMark, .int z_wasRun, .int z_wrong, .int z_ended, .int (nI sp), .int z_hints, .int z_hasWidth, .int z_width, .int z_first, .int z_moved, .int z_deepest, .int z_x, .int z_y, .int (nI t), .ref m_stack, .ref m_places, .int (nI d), .ref m_kinds, .ref m_ats, .ref m_ends]))] [(m_kinds, .inl (cI, 11, .inl g_kinds)), (m_ats, .inl (cI, 11, .inl g_ats)), (m_ends, .inl (cI, 11, .inl g_ends)), (m_shelves, .inl (cI, 49152, .inl g_shelves)), (m_many, .inl (cI, 3, .inl g_many)), (m_widths, .inl (cI, 3, .inl g_widths)), (m_stack, .inl (cI, 48, .inl g_stack)), (m_mark, .inl (cI, 28000, .inl g_mark)), (m_places, .inl (cI, 32, .inl g_places)), (m_shownMark, .inl (cI, 28000, .inl g_shownMark))] [0] [1, 2, 3, 4, 5, 6, 7, 8, 9, 10] := ⟨rfl, rfl, rfl, rfl, by decide⟩
      refine goI0 (trV (As := [.int 1]) (rest := []) ⟨hx, hb, hml, hown, hts⟩ gd_good (c_Mo_refused l D cB cI cJ mo m_row m_shelves m_many m_widths m_mark m_shownMark m_stack m_places m_kinds m_ats m_ends mk sp t d z_fault z_size (nI sh) z_wasRun z_wrong z_ended z_hints z_hasWidth z_width z_first z_moved z_deepest z_x z_y 1) cal_Mo_refused ml_Mo_51 ⟨Nat.le_of_ble_eq_true rfl, Nat.le_of_ble_eq_true rfl⟩ hZ hP hD hC 0 (ci := 8) rfl rfl rfl rfl hl.1 rfl (Nat.le_of_ble_eq_true rfl) d_Mo_run_20 ⟨Nat.le_of_ble_eq_true rfl, Nat.le_of_ble_eq_true rfl⟩) hZ hP hD hS hC (fun r_20 w1 H locs hq hP hD hS => ?_)
      obtain ⟨rq_20, rfl⟩ := hq
      have rq_20 : r_20 = 1 := rq_20
      subst rq_20
      have hP : va_P D classes [(m_kinds, .inl (cI, 11, .inl g_kinds)), (m_ats, .inl (cI, 11, .inl g_ats)), (m_ends, .inl (cI, 11, .inl g_ends)), (m_shelves, .inl (cI, 49152, .inl g_shelves)), (m_many, .inl (cI, 3, .inl g_many)), (m_widths, .inl (cI, 3, .inl g_widths)), (m_stack, .inl (cI, 48, .inl g_stack)), (m_mark, .inl (cI, 28000, .inl g_mark)), (m_places, .inl (cI, 32, .inl g_places)), (m_shownMark, .inl (cI, 28000, .inl g_shownMark)), (mo, .inr (8, [.int 1, .int z_size, .ref m_row, .ref m_shelves, .ref m_many, .ref m_widths, .int (nI mk), .ref m_mark, .int (nI sh), .ref m_shownMark, .int z_wasRun, .int z_wrong, .int z_ended, .int (nI sp), .int z_hints, .int z_hasWidth, .int z_width, .int z_first, .int z_moved, .int z_deepest, .int z_x, .int z_y, .int (nI t), .ref m_stack, .ref m_places, .int (nI d), .ref m_kinds, .ref m_ats, .ref m_ends]))] H := hP
      have hD : va_D A_ [(m_kinds, .inl (cI, 11, .inl g_kinds)), (m_ats, .inl (cI, 11, .inl g_ats)), (m_ends, .inl (cI, 11, .inl g_ends)), (m_shelves, .inl (cI, 49152, .inl g_shelves)), (m_many, .inl (cI, 3, .inl g_many)), (m_widths, .inl (cI, 3, .inl g_widths)), (m_stack, .inl (cI, 48, .inl g_stack)), (m_mark, .inl (cI, 28000, .inl g_mark)), (m_places, .inl (cI, 32, .inl g_places)), (m_shownMark, .inl (cI, 28000, .inl g_shownMark)), (mo, .inr (8, [.int 1, .int z_size, .ref m_row, .ref m_shelves, .ref m_many, .ref m_widths, .int (nI mk), .ref m_mark, .int (nI sh), .ref m_shownMark, .int z_wasRun, .int z_wrong, .int z_ended, .int (nI sp), .int z_hints, .int z_hasWidth, .int z_width, .int z_first, .int z_moved, .int z_deepest, .int z_x, .int z_y, .int (nI t), .ref m_stack, .ref m_places, .int (nI d), .ref m_kinds, .ref m_ats, .ref m_ends]))] := hD
      refine lv_if_eq (tgt := 28) hx hb d_Mo_run_23 (by decide) (fun c_23 => absurd c_23 (by decide)) (fun c_23 => ?_)
      clear c_23
      refine lv_iconst (v := 0) hx hb d_Mo_run_26 (by decide) ?_
      exact t_iret hx hb hr hlk d_Mo_run_27 (hP.subm (ws' := [(mo, .inr (8, [.int 1, .int z_size, .ref m_row, .ref m_shelves, .ref m_many, .ref m_widths, .int (nI mk), .ref m_mark, .int (nI sh), .ref m_shownMark, .int z_wasRun, .int z_wrong, .int z_ended, .int (nI sp), .int z_hints, .int z_hasWidth, .int z_width, .int z_first, .int z_moved, .int z_deepest, .int z_x, .int z_y, .int (nI t), .ref m_stack, .ref m_places, .int (nI d), .ref m_kinds, .ref m_ats, .ref m_ends])), (m_kinds, .inl (cI, 11, .inl g_kinds)), (m_ats, .inl (cI, 11, .inl g_ats)), (m_ends, .inl (cI, 11, .inl g_ends)), (m_shelves, .inl (cI, 49152, .inl g_shelves)), (m_many, .inl (cI, 3, .inl g_many)), (m_widths, .inl (cI, 3, .inl g_widths)), (m_stack, .inl (cI, 48, .inl g_stack)), (m_mark, .inl (cI, 28000, .inl g_mark)), (m_places, .inl (cI, 32, .inl g_places)), (m_shownMark, .inl (cI, 28000, .inl g_shownMark))]) [10, 0, 1, 2, 3, 4, 5, 6, 7, 8, 9] rfl) (hD.sub (ws' := [(mo, .inr (8, [.int 1, .int z_size, .ref m_row, .ref m_shelves, .ref m_many, .ref m_widths, .int (nI mk), .ref m_mark, .int (nI sh), .ref m_shownMark, .int z_wasRun, .int z_wrong, .int z_ended, .int (nI sp), .int z_hints, .int z_hasWidth, .int z_width, .int z_first, .int z_moved, .int z_deepest, .int z_x, .int z_y, .int (nI t), .ref m_stack, .ref m_places, .int (nI d), .ref m_kinds, .ref m_ats, .ref m_ends])), (m_kinds, .inl (cI, 11, .inl g_kinds)), (m_ats, .inl (cI, 11, .inl g_ats)), (m_ends, .inl (cI, 11, .inl g_ends)), (m_shelves, .inl (cI, 49152, .inl g_shelves)), (m_many, .inl (cI, 3, .inl g_many)), (m_widths, .inl (cI, 3, .inl g_widths)), (m_stack, .inl (cI, 48, .inl g_stack)), (m_mark, .inl (cI, 28000, .inl g_mark)), (m_places, .inl (cI, 32, .inl g_places)), (m_shownMark, .inl (cI, 28000, .inl g_shownMark))]) [10, 0, 1, 2, 3, 4, 5, 6, 7, 8, 9] rfl rfl) hS ⟨_, rfl, rfl, rfl, Or.inl ⟨hs_no c_2 (by rw [← hm0]; exact c_12), rfl, rfl⟩⟩
