abbrev b_Va_size : ByteArray := prog_10_method_2_code
abbrev y_Va_size : MethodName := ⟨"CharOutlines$Values", "size", "()I"⟩
set_option maxRecDepth 100000 in
theorem cal_Va_size : CalV gd_tbl "CharOutlines$Values" y_Va_size b_Va_size 1 (some .int) 0 := ⟨⟨List.mem_filter.mpr ⟨List.mem_of_getElem? (i := 286) rfl, rfl⟩, List.mem_filter.mpr ⟨List.mem_of_getElem? (i := 65) rfl, rfl⟩, ⟨by decide, by decide⟩, by decide +kernel⟩, List.mem_filter.mpr ⟨List.mem_of_getElem? (i := 284) rfl, rfl⟩, List.mem_filter.mpr ⟨List.mem_of_getElem? (i := 285) rfl, rfl⟩⟩
theorem d_Va_size_0 : decode b_Va_size 0 = .ok (.aload_n 0, 1) := by decide +kernel
theorem d_Va_size_1 : decode b_Va_size 1 = .ok (.getfield 18, 3) := by decide +kernel
theorem d_Va_size_4 : decode b_Va_size 4 = .ok (.ireturn, 1) := by decide +kernel
abbrev b_Va_clear : ByteArray := prog_10_method_3_code
abbrev y_Va_clear : MethodName := ⟨"CharOutlines$Values", "clear", "()V"⟩
set_option maxRecDepth 100000 in
theorem cal_Va_clear : CalV gd_tbl "CharOutlines$Values" y_Va_clear b_Va_clear 1 none 0 := ⟨⟨List.mem_filter.mpr ⟨List.mem_of_getElem? (i := 481) rfl, rfl⟩, List.mem_filter.mpr ⟨List.mem_of_getElem? (i := 65) rfl, rfl⟩, ⟨by decide, by decide⟩, by decide +kernel⟩, List.mem_filter.mpr ⟨List.mem_of_getElem? (i := 479) rfl, rfl⟩, List.mem_filter.mpr ⟨List.mem_of_getElem? (i := 480) rfl, rfl⟩⟩
theorem d_Va_clear_0 : decode b_Va_clear 0 = .ok (.aload_n 0, 1) := by decide +kernel
theorem d_Va_clear_1 : decode b_Va_clear 1 = .ok (.iconst 0, 1) := by decide +kernel
theorem d_Va_clear_2 : decode b_Va_clear 2 = .ok (.putfield 18, 3) := by decide +kernel
theorem d_Va_clear_5 : decode b_Va_clear 5 = .ok (.return_, 1) := by decide +kernel
abbrev b_Va_at : ByteArray := prog_10_method_4_code
abbrev y_Va_at : MethodName := ⟨"CharOutlines$Values", "at", "(I)I"⟩
set_option maxRecDepth 100000 in
theorem cal_Va_at : CalV gd_tbl "CharOutlines$Values" y_Va_at b_Va_at 2 (some .int) 1 := ⟨⟨List.mem_filter.mpr ⟨List.mem_of_getElem? (i := 562) rfl, rfl⟩, List.mem_filter.mpr ⟨List.mem_of_getElem? (i := 65) rfl, rfl⟩, ⟨by decide, by decide⟩, by decide +kernel⟩, List.mem_filter.mpr ⟨List.mem_of_getElem? (i := 560) rfl, rfl⟩, List.mem_filter.mpr ⟨List.mem_of_getElem? (i := 561) rfl, rfl⟩⟩
theorem d_Va_at_0 : decode b_Va_at 0 = .ok (.iload_n 1, 1) := by decide +kernel
theorem d_Va_at_1 : decode b_Va_at 1 = .ok (.ifCond .lt 20, 3) := by decide +kernel
theorem d_Va_at_4 : decode b_Va_at 4 = .ok (.iload_n 1, 1) := by decide +kernel
theorem d_Va_at_5 : decode b_Va_at 5 = .ok (.aload_n 0, 1) := by decide +kernel
theorem d_Va_at_6 : decode b_Va_at 6 = .ok (.getfield 18, 3) := by decide +kernel
theorem d_Va_at_9 : decode b_Va_at 9 = .ok (.if_icmp .ge 12, 3) := by decide +kernel
theorem d_Va_at_12 : decode b_Va_at 12 = .ok (.aload_n 0, 1) := by decide +kernel
theorem d_Va_at_13 : decode b_Va_at 13 = .ok (.getfield 9, 3) := by decide +kernel
theorem d_Va_at_16 : decode b_Va_at 16 = .ok (.iload_n 1, 1) := by decide +kernel
theorem d_Va_at_17 : decode b_Va_at 17 = .ok (.iaload, 1) := by decide +kernel
theorem d_Va_at_18 : decode b_Va_at 18 = .ok (.goto 4, 3) := by decide +kernel
theorem d_Va_at_21 : decode b_Va_at 21 = .ok (.iconst 0, 1) := by decide +kernel
theorem d_Va_at_22 : decode b_Va_at 22 = .ok (.ireturn, 1) := by decide +kernel
abbrev b_Va_push : ByteArray := prog_10_method_5_code
abbrev y_Va_push : MethodName := ⟨"CharOutlines$Values", "push", "(I)I"⟩
set_option maxRecDepth 100000 in
theorem cal_Va_push : CalV gd_tbl "CharOutlines$Values" y_Va_push b_Va_push 2 (some .int) 1 := ⟨⟨List.mem_filter.mpr ⟨List.mem_of_getElem? (i := 527) rfl, rfl⟩, List.mem_filter.mpr ⟨List.mem_of_getElem? (i := 65) rfl, rfl⟩, ⟨by decide, by decide⟩, by decide +kernel⟩, List.mem_filter.mpr ⟨List.mem_of_getElem? (i := 525) rfl, rfl⟩, List.mem_filter.mpr ⟨List.mem_of_getElem? (i := 526) rfl, rfl⟩⟩
theorem d_Va_push_0 : decode b_Va_push 0 = .ok (.aload_n 0, 1) := by decide +kernel
theorem d_Va_push_1 : decode b_Va_push 1 = .ok (.getfield 18, 3) := by decide +kernel
theorem d_Va_push_4 : decode b_Va_push 4 = .ok (.bipush 48, 2) := by decide +kernel
theorem d_Va_push_6 : decode b_Va_push 6 = .ok (.if_icmp .lt 6, 3) := by decide +kernel
theorem d_Va_push_9 : decode b_Va_push 9 = .ok (.bipush (-4), 2) := by decide +kernel
theorem d_Va_push_11 : decode b_Va_push 11 = .ok (.ireturn, 1) := by decide +kernel
theorem d_Va_push_12 : decode b_Va_push 12 = .ok (.aload_n 0, 1) := by decide +kernel
theorem d_Va_push_13 : decode b_Va_push 13 = .ok (.getfield 9, 3) := by decide +kernel
theorem d_Va_push_16 : decode b_Va_push 16 = .ok (.aload_n 0, 1) := by decide +kernel
theorem d_Va_push_17 : decode b_Va_push 17 = .ok (.getfield 18, 3) := by decide +kernel
theorem d_Va_push_20 : decode b_Va_push 20 = .ok (.iload_n 1, 1) := by decide +kernel
theorem d_Va_push_21 : decode b_Va_push 21 = .ok (.iastore, 1) := by decide +kernel
theorem d_Va_push_22 : decode b_Va_push 22 = .ok (.aload_n 0, 1) := by decide +kernel
theorem d_Va_push_23 : decode b_Va_push 23 = .ok (.dup, 1) := by decide +kernel
theorem d_Va_push_24 : decode b_Va_push 24 = .ok (.getfield 18, 3) := by decide +kernel
theorem d_Va_push_27 : decode b_Va_push 27 = .ok (.iconst 1, 1) := by decide +kernel
theorem d_Va_push_28 : decode b_Va_push 28 = .ok (.iadd, 1) := by decide +kernel
theorem d_Va_push_29 : decode b_Va_push 29 = .ok (.putfield 18, 3) := by decide +kernel
theorem d_Va_push_32 : decode b_Va_push 32 = .ok (.iconst 0, 1) := by decide +kernel
theorem d_Va_push_33 : decode b_Va_push 33 = .ok (.ireturn, 1) := by decide +kernel
abbrev b_Va_pop : ByteArray := prog_10_method_6_code
abbrev y_Va_pop : MethodName := ⟨"CharOutlines$Values", "pop", "()I"⟩
set_option maxRecDepth 100000 in
theorem cal_Va_pop : CalV gd_tbl "CharOutlines$Values" y_Va_pop b_Va_pop 1 (some .int) 0 := ⟨⟨List.mem_filter.mpr ⟨List.mem_of_getElem? (i := 626) rfl, rfl⟩, List.mem_filter.mpr ⟨List.mem_of_getElem? (i := 65) rfl, rfl⟩, ⟨by decide, by decide⟩, by decide +kernel⟩, List.mem_filter.mpr ⟨List.mem_of_getElem? (i := 624) rfl, rfl⟩, List.mem_filter.mpr ⟨List.mem_of_getElem? (i := 625) rfl, rfl⟩⟩
theorem d_Va_pop_0 : decode b_Va_pop 0 = .ok (.aload_n 0, 1) := by decide +kernel
theorem d_Va_pop_1 : decode b_Va_pop 1 = .ok (.getfield 18, 3) := by decide +kernel
theorem d_Va_pop_4 : decode b_Va_pop 4 = .ok (.ifCond .ne 5, 3) := by decide +kernel
theorem d_Va_pop_7 : decode b_Va_pop 7 = .ok (.iconst 0, 1) := by decide +kernel
theorem d_Va_pop_8 : decode b_Va_pop 8 = .ok (.ireturn, 1) := by decide +kernel
theorem d_Va_pop_9 : decode b_Va_pop 9 = .ok (.aload_n 0, 1) := by decide +kernel
theorem d_Va_pop_10 : decode b_Va_pop 10 = .ok (.dup, 1) := by decide +kernel
theorem d_Va_pop_11 : decode b_Va_pop 11 = .ok (.getfield 18, 3) := by decide +kernel
theorem d_Va_pop_14 : decode b_Va_pop 14 = .ok (.iconst 1, 1) := by decide +kernel
theorem d_Va_pop_15 : decode b_Va_pop 15 = .ok (.isub, 1) := by decide +kernel
theorem d_Va_pop_16 : decode b_Va_pop 16 = .ok (.putfield 18, 3) := by decide +kernel
theorem d_Va_pop_19 : decode b_Va_pop 19 = .ok (.aload_n 0, 1) := by decide +kernel
theorem d_Va_pop_20 : decode b_Va_pop 20 = .ok (.getfield 9, 3) := by decide +kernel
theorem d_Va_pop_23 : decode b_Va_pop 23 = .ok (.aload_n 0, 1) := by decide +kernel
theorem d_Va_pop_24 : decode b_Va_pop 24 = .ok (.getfield 18, 3) := by decide +kernel
theorem d_Va_pop_27 : decode b_Va_pop 27 = .ok (.iaload, 1) := by decide +kernel
theorem d_Va_pop_28 : decode b_Va_pop 28 = .ok (.ireturn, 1) := by decide +kernel
abbrev b_Va_popWhole : ByteArray := prog_10_method_7_code
abbrev y_Va_popWhole : MethodName := ⟨"CharOutlines$Values", "popWhole", "()I"⟩
set_option maxRecDepth 100000 in
theorem cal_Va_popWhole : CalV gd_tbl "CharOutlines$Values" y_Va_popWhole b_Va_popWhole 1 (some .int) 0 := ⟨⟨List.mem_filter.mpr ⟨List.mem_of_getElem? (i := 647) rfl, rfl⟩, List.mem_filter.mpr ⟨List.mem_of_getElem? (i := 65) rfl, rfl⟩, ⟨by decide, by decide⟩, by decide +kernel⟩, List.mem_filter.mpr ⟨List.mem_of_getElem? (i := 645) rfl, rfl⟩, List.mem_filter.mpr ⟨List.mem_of_getElem? (i := 646) rfl, rfl⟩⟩
theorem d_Va_popWhole_0 : decode b_Va_popWhole 0 = .ok (.aload_n 0, 1) := by decide +kernel
theorem d_Va_popWhole_1 : decode b_Va_popWhole 1 = .ok (.invokevirtual 22, 3) := by decide +kernel
theorem d_Va_popWhole_4 : decode b_Va_popWhole 4 = .ok (.bipush 16, 2) := by decide +kernel
theorem d_Va_popWhole_6 : decode b_Va_popWhole 6 = .ok (.ishr, 1) := by decide +kernel
theorem d_Va_popWhole_7 : decode b_Va_popWhole 7 = .ok (.ireturn, 1) := by decide +kernel
abbrev b_Va_turn : ByteArray := prog_10_method_8_code
abbrev y_Va_turn : MethodName := ⟨"CharOutlines$Values", "turn", "(II)V"⟩
set_option maxRecDepth 100000 in
theorem cal_Va_turn : CalV gd_tbl "CharOutlines$Values" y_Va_turn b_Va_turn 4 none 2 := ⟨⟨List.mem_filter.mpr ⟨List.mem_of_getElem? (i := 706) rfl, rfl⟩, List.mem_filter.mpr ⟨List.mem_of_getElem? (i := 65) rfl, rfl⟩, ⟨by decide, by decide⟩, by decide +kernel⟩, List.mem_filter.mpr ⟨List.mem_of_getElem? (i := 704) rfl, rfl⟩, List.mem_filter.mpr ⟨List.mem_of_getElem? (i := 705) rfl, rfl⟩⟩
theorem d_Va_turn_0 : decode b_Va_turn 0 = .ok (.iload_n 1, 1) := by decide +kernel
theorem d_Va_turn_1 : decode b_Va_turn 1 = .ok (.iconst 1, 1) := by decide +kernel
theorem d_Va_turn_2 : decode b_Va_turn 2 = .ok (.if_icmp .lt 20, 3) := by decide +kernel
theorem d_Va_turn_5 : decode b_Va_turn 5 = .ok (.iload_n 1, 1) := by decide +kernel
theorem d_Va_turn_6 : decode b_Va_turn 6 = .ok (.aload_n 0, 1) := by decide +kernel
theorem d_Va_turn_7 : decode b_Va_turn 7 = .ok (.getfield 18, 3) := by decide +kernel
theorem d_Va_turn_10 : decode b_Va_turn 10 = .ok (.if_icmp .gt 12, 3) := by decide +kernel
theorem d_Va_turn_13 : decode b_Va_turn 13 = .ok (.iload_n 2, 1) := by decide +kernel
theorem d_Va_turn_14 : decode b_Va_turn 14 = .ok (.ifCond .lt 8, 3) := by decide +kernel
theorem d_Va_turn_17 : decode b_Va_turn 17 = .ok (.iload_n 2, 1) := by decide +kernel
theorem d_Va_turn_18 : decode b_Va_turn 18 = .ok (.iload_n 1, 1) := by decide +kernel
theorem d_Va_turn_19 : decode b_Va_turn 19 = .ok (.if_icmp .lt 4, 3) := by decide +kernel
theorem d_Va_turn_22 : decode b_Va_turn 22 = .ok (.return_, 1) := by decide +kernel
theorem d_Va_turn_23 : decode b_Va_turn 23 = .ok (.aload_n 0, 1) := by decide +kernel
theorem d_Va_turn_24 : decode b_Va_turn 24 = .ok (.getfield 18, 3) := by decide +kernel
theorem d_Va_turn_27 : decode b_Va_turn 27 = .ok (.iload_n 1, 1) := by decide +kernel
theorem d_Va_turn_28 : decode b_Va_turn 28 = .ok (.isub, 1) := by decide +kernel
theorem d_Va_turn_29 : decode b_Va_turn 29 = .ok (.istore_n 3, 1) := by decide +kernel
theorem d_Va_turn_30 : decode b_Va_turn 30 = .ok (.aload_n 0, 1) := by decide +kernel
theorem d_Va_turn_31 : decode b_Va_turn 31 = .ok (.getfield 9, 3) := by decide +kernel
theorem d_Va_turn_34 : decode b_Va_turn 34 = .ok (.aload_n 0, 1) := by decide +kernel
theorem d_Va_turn_35 : decode b_Va_turn 35 = .ok (.getfield 18, 3) := by decide +kernel
theorem d_Va_turn_38 : decode b_Va_turn 38 = .ok (.iload_n 2, 1) := by decide +kernel
theorem d_Va_turn_39 : decode b_Va_turn 39 = .ok (.isub, 1) := by decide +kernel
theorem d_Va_turn_40 : decode b_Va_turn 40 = .ok (.aload_n 0, 1) := by decide +kernel
theorem d_Va_turn_41 : decode b_Va_turn 41 = .ok (.getfield 15, 3) := by decide +kernel
theorem d_Va_turn_44 : decode b_Va_turn 44 = .ok (.iconst 0, 1) := by decide +kernel
theorem d_Va_turn_45 : decode b_Va_turn 45 = .ok (.iload_n 2, 1) := by decide +kernel
theorem d_Va_turn_46 : decode b_Va_turn 46 = .ok (.invokestatic 26, 3) := by decide +kernel
theorem d_Va_turn_49 : decode b_Va_turn 49 = .ok (.aload_n 0, 1) := by decide +kernel
theorem d_Va_turn_50 : decode b_Va_turn 50 = .ok (.getfield 9, 3) := by decide +kernel
theorem d_Va_turn_53 : decode b_Va_turn 53 = .ok (.iload_n 3, 1) := by decide +kernel
theorem d_Va_turn_54 : decode b_Va_turn 54 = .ok (.aload_n 0, 1) := by decide +kernel
theorem d_Va_turn_55 : decode b_Va_turn 55 = .ok (.getfield 15, 3) := by decide +kernel
theorem d_Va_turn_58 : decode b_Va_turn 58 = .ok (.iload_n 2, 1) := by decide +kernel
theorem d_Va_turn_59 : decode b_Va_turn 59 = .ok (.iload_n 1, 1) := by decide +kernel
theorem d_Va_turn_60 : decode b_Va_turn 60 = .ok (.iload_n 2, 1) := by decide +kernel
theorem d_Va_turn_61 : decode b_Va_turn 61 = .ok (.isub, 1) := by decide +kernel
theorem d_Va_turn_62 : decode b_Va_turn 62 = .ok (.invokestatic 26, 3) := by decide +kernel
theorem d_Va_turn_65 : decode b_Va_turn 65 = .ok (.aload_n 0, 1) := by decide +kernel
theorem d_Va_turn_66 : decode b_Va_turn 66 = .ok (.getfield 15, 3) := by decide +kernel
theorem d_Va_turn_69 : decode b_Va_turn 69 = .ok (.iconst 0, 1) := by decide +kernel
theorem d_Va_turn_70 : decode b_Va_turn 70 = .ok (.aload_n 0, 1) := by decide +kernel
theorem d_Va_turn_71 : decode b_Va_turn 71 = .ok (.getfield 9, 3) := by decide +kernel
theorem d_Va_turn_74 : decode b_Va_turn 74 = .ok (.iload_n 3, 1) := by decide +kernel
theorem d_Va_turn_75 : decode b_Va_turn 75 = .ok (.iload_n 1, 1) := by decide +kernel
theorem d_Va_turn_76 : decode b_Va_turn 76 = .ok (.invokestatic 26, 3) := by decide +kernel
theorem d_Va_turn_79 : decode b_Va_turn 79 = .ok (.return_, 1) := by decide +kernel
abbrev b_Ou_marks : ByteArray := prog_6_method_2_code
abbrev y_Ou_marks : MethodName := ⟨"CharOutlines$Outline", "marks", "()I"⟩
set_option maxRecDepth 100000 in
theorem cal_Ou_marks : CalV gd_tbl "CharOutlines$Outline" y_Ou_marks b_Ou_marks 1 (some .int) 0 := ⟨⟨List.mem_filter.mpr ⟨List.mem_of_getElem? (i := 714) rfl, rfl⟩, List.mem_filter.mpr ⟨List.mem_of_getElem? (i := 67) rfl, rfl⟩, ⟨by decide, by decide⟩, by decide +kernel⟩, List.mem_filter.mpr ⟨List.mem_of_getElem? (i := 712) rfl, rfl⟩, List.mem_filter.mpr ⟨List.mem_of_getElem? (i := 713) rfl, rfl⟩⟩
theorem d_Ou_marks_0 : decode b_Ou_marks 0 = .ok (.aload_n 0, 1) := by decide +kernel
theorem d_Ou_marks_1 : decode b_Ou_marks 1 = .ok (.getfield 15, 3) := by decide +kernel
theorem d_Ou_marks_4 : decode b_Ou_marks 4 = .ok (.ireturn, 1) := by decide +kernel
abbrev b_Ou_has : ByteArray := prog_6_method_3_code
abbrev y_Ou_has : MethodName := ⟨"CharOutlines$Outline", "has", "(II)Z"⟩
set_option maxRecDepth 100000 in
theorem cal_Ou_has : CalV gd_tbl "CharOutlines$Outline" y_Ou_has b_Ou_has 3 (some .boolean) 2 := ⟨⟨List.mem_filter.mpr ⟨List.mem_of_getElem? (i := 729) rfl, rfl⟩, List.mem_filter.mpr ⟨List.mem_of_getElem? (i := 67) rfl, rfl⟩, ⟨by decide, by decide⟩, by decide +kernel⟩, List.mem_filter.mpr ⟨List.mem_of_getElem? (i := 727) rfl, rfl⟩, List.mem_filter.mpr ⟨List.mem_of_getElem? (i := 728) rfl, rfl⟩⟩
theorem d_Ou_has_0 : decode b_Ou_has 0 = .ok (.iload_n 1, 1) := by decide +kernel
theorem d_Ou_has_1 : decode b_Ou_has 1 = .ok (.ifCond .lt 25, 3) := by decide +kernel
theorem d_Ou_has_4 : decode b_Ou_has 4 = .ok (.iload_n 1, 1) := by decide +kernel
theorem d_Ou_has_5 : decode b_Ou_has 5 = .ok (.aload_n 0, 1) := by decide +kernel
theorem d_Ou_has_6 : decode b_Ou_has 6 = .ok (.getfield 15, 3) := by decide +kernel
theorem d_Ou_has_9 : decode b_Ou_has 9 = .ok (.if_icmp .ge 17, 3) := by decide +kernel
theorem d_Ou_has_12 : decode b_Ou_has 12 = .ok (.iload_n 2, 1) := by decide +kernel
theorem d_Ou_has_13 : decode b_Ou_has 13 = .ok (.ifCond .lt 13, 3) := by decide +kernel
theorem d_Ou_has_16 : decode b_Ou_has 16 = .ok (.iload_n 2, 1) := by decide +kernel
theorem d_Ou_has_17 : decode b_Ou_has 17 = .ok (.bipush 7, 2) := by decide +kernel
theorem d_Ou_has_19 : decode b_Ou_has 19 = .ok (.if_icmp .ge 7, 3) := by decide +kernel
theorem d_Ou_has_22 : decode b_Ou_has 22 = .ok (.iconst 1, 1) := by decide +kernel
theorem d_Ou_has_23 : decode b_Ou_has 23 = .ok (.goto 4, 3) := by decide +kernel
theorem d_Ou_has_26 : decode b_Ou_has 26 = .ok (.iconst 0, 1) := by decide +kernel
theorem d_Ou_has_27 : decode b_Ou_has 27 = .ok (.ireturn, 1) := by decide +kernel
abbrev b_Ou_clear : ByteArray := prog_6_method_5_code
abbrev y_Ou_clear : MethodName := ⟨"CharOutlines$Outline", "clear", "()V"⟩
set_option maxRecDepth 100000 in
theorem cal_Ou_clear : CalV gd_tbl "CharOutlines$Outline" y_Ou_clear b_Ou_clear 1 none 0 := ⟨⟨List.mem_filter.mpr ⟨List.mem_of_getElem? (i := 492) rfl, rfl⟩, List.mem_filter.mpr ⟨List.mem_of_getElem? (i := 67) rfl, rfl⟩, ⟨by decide, by decide⟩, by decide +kernel⟩, List.mem_filter.mpr ⟨List.mem_of_getElem? (i := 490) rfl, rfl⟩, List.mem_filter.mpr ⟨List.mem_of_getElem? (i := 491) rfl, rfl⟩⟩
theorem d_Ou_clear_0 : decode b_Ou_clear 0 = .ok (.aload_n 0, 1) := by decide +kernel
theorem d_Ou_clear_1 : decode b_Ou_clear 1 = .ok (.iconst 0, 1) := by decide +kernel
theorem d_Ou_clear_2 : decode b_Ou_clear 2 = .ok (.putfield 15, 3) := by decide +kernel
theorem d_Ou_clear_5 : decode b_Ou_clear 5 = .ok (.aload_n 0, 1) := by decide +kernel
theorem d_Ou_clear_6 : decode b_Ou_clear 6 = .ok (.iconst 0, 1) := by decide +kernel
theorem d_Ou_clear_7 : decode b_Ou_clear 7 = .ok (.putfield 23, 3) := by decide +kernel
theorem d_Ou_clear_10 : decode b_Ou_clear 10 = .ok (.aload_n 0, 1) := by decide +kernel
theorem d_Ou_clear_11 : decode b_Ou_clear 11 = .ok (.iconst 0, 1) := by decide +kernel
theorem d_Ou_clear_12 : decode b_Ou_clear 12 = .ok (.putfield 26, 3) := by decide +kernel
theorem d_Ou_clear_15 : decode b_Ou_clear 15 = .ok (.return_, 1) := by decide +kernel
abbrev b_Ou_add : ByteArray := prog_6_method_10_code
abbrev y_Ou_add : MethodName := ⟨"CharOutlines$Outline", "add", "(IIIIIII)Z"⟩
set_option maxRecDepth 100000 in
theorem cal_Ou_add : CalV gd_tbl "CharOutlines$Outline" y_Ou_add b_Ou_add 9 (some .boolean) 7 := ⟨⟨List.mem_filter.mpr ⟨List.mem_of_getElem? (i := 570) rfl, rfl⟩, List.mem_filter.mpr ⟨List.mem_of_getElem? (i := 67) rfl, rfl⟩, ⟨by decide, by decide⟩, by decide +kernel⟩, List.mem_filter.mpr ⟨List.mem_of_getElem? (i := 569) rfl, rfl⟩, List.mem_filter.mpr ⟨List.mem_of_getElem? (i := 7) rfl, rfl⟩⟩
theorem d_Ou_add_0 : decode b_Ou_add 0 = .ok (.aload_n 0, 1) := by decide +kernel
theorem d_Ou_add_1 : decode b_Ou_add 1 = .ok (.getfield 15, 3) := by decide +kernel
theorem d_Ou_add_4 : decode b_Ou_add 4 = .ok (.bipush 7, 2) := by decide +kernel
theorem d_Ou_add_6 : decode b_Ou_add 6 = .ok (.imul, 1) := by decide +kernel
theorem d_Ou_add_7 : decode b_Ou_add 7 = .ok (.istore 8, 2) := by decide +kernel
theorem d_Ou_add_9 : decode b_Ou_add 9 = .ok (.aload_n 0, 1) := by decide +kernel
theorem d_Ou_add_10 : decode b_Ou_add 10 = .ok (.getfield 15, 3) := by decide +kernel
theorem d_Ou_add_13 : decode b_Ou_add 13 = .ok (.sipush 4000, 3) := by decide +kernel
theorem d_Ou_add_16 : decode b_Ou_add 16 = .ok (.if_icmp .ge 16, 3) := by decide +kernel
theorem d_Ou_add_19 : decode b_Ou_add 19 = .ok (.iload 8, 2) := by decide +kernel
theorem d_Ou_add_21 : decode b_Ou_add 21 = .ok (.bipush 7, 2) := by decide +kernel
theorem d_Ou_add_23 : decode b_Ou_add 23 = .ok (.iadd, 1) := by decide +kernel
theorem d_Ou_add_24 : decode b_Ou_add 24 = .ok (.aload_n 0, 1) := by decide +kernel
theorem d_Ou_add_25 : decode b_Ou_add 25 = .ok (.getfield 11, 3) := by decide +kernel
theorem d_Ou_add_28 : decode b_Ou_add 28 = .ok (.arraylength, 1) := by decide +kernel
theorem d_Ou_add_29 : decode b_Ou_add 29 = .ok (.if_icmp .le 5, 3) := by decide +kernel
theorem d_Ou_add_32 : decode b_Ou_add 32 = .ok (.iconst 0, 1) := by decide +kernel
theorem d_Ou_add_33 : decode b_Ou_add 33 = .ok (.ireturn, 1) := by decide +kernel
theorem d_Ou_add_34 : decode b_Ou_add 34 = .ok (.aload_n 0, 1) := by decide +kernel
theorem d_Ou_add_35 : decode b_Ou_add 35 = .ok (.getfield 11, 3) := by decide +kernel
theorem d_Ou_add_38 : decode b_Ou_add 38 = .ok (.iload 8, 2) := by decide +kernel
theorem d_Ou_add_40 : decode b_Ou_add 40 = .ok (.iload_n 1, 1) := by decide +kernel
theorem d_Ou_add_41 : decode b_Ou_add 41 = .ok (.iastore, 1) := by decide +kernel
theorem d_Ou_add_42 : decode b_Ou_add 42 = .ok (.aload_n 0, 1) := by decide +kernel
theorem d_Ou_add_43 : decode b_Ou_add 43 = .ok (.getfield 11, 3) := by decide +kernel
theorem d_Ou_add_46 : decode b_Ou_add 46 = .ok (.iload 8, 2) := by decide +kernel
theorem d_Ou_add_48 : decode b_Ou_add 48 = .ok (.iconst 1, 1) := by decide +kernel
theorem d_Ou_add_49 : decode b_Ou_add 49 = .ok (.iadd, 1) := by decide +kernel
theorem d_Ou_add_50 : decode b_Ou_add 50 = .ok (.iload 6, 2) := by decide +kernel
theorem d_Ou_add_52 : decode b_Ou_add 52 = .ok (.iastore, 1) := by decide +kernel
theorem d_Ou_add_53 : decode b_Ou_add 53 = .ok (.aload_n 0, 1) := by decide +kernel
theorem d_Ou_add_54 : decode b_Ou_add 54 = .ok (.getfield 11, 3) := by decide +kernel
theorem d_Ou_add_57 : decode b_Ou_add 57 = .ok (.iload 8, 2) := by decide +kernel
theorem d_Ou_add_59 : decode b_Ou_add 59 = .ok (.iconst 2, 1) := by decide +kernel
theorem d_Ou_add_60 : decode b_Ou_add 60 = .ok (.iadd, 1) := by decide +kernel
theorem d_Ou_add_61 : decode b_Ou_add 61 = .ok (.iload 7, 2) := by decide +kernel
theorem d_Ou_add_63 : decode b_Ou_add 63 = .ok (.iastore, 1) := by decide +kernel
theorem d_Ou_add_64 : decode b_Ou_add 64 = .ok (.aload_n 0, 1) := by decide +kernel
theorem d_Ou_add_65 : decode b_Ou_add 65 = .ok (.getfield 11, 3) := by decide +kernel
theorem d_Ou_add_68 : decode b_Ou_add 68 = .ok (.iload 8, 2) := by decide +kernel
theorem d_Ou_add_70 : decode b_Ou_add 70 = .ok (.iconst 3, 1) := by decide +kernel
theorem d_Ou_add_71 : decode b_Ou_add 71 = .ok (.iadd, 1) := by decide +kernel
theorem d_Ou_add_72 : decode b_Ou_add 72 = .ok (.iload_n 2, 1) := by decide +kernel
theorem d_Ou_add_73 : decode b_Ou_add 73 = .ok (.iastore, 1) := by decide +kernel
theorem d_Ou_add_74 : decode b_Ou_add 74 = .ok (.aload_n 0, 1) := by decide +kernel
theorem d_Ou_add_75 : decode b_Ou_add 75 = .ok (.getfield 11, 3) := by decide +kernel
theorem d_Ou_add_78 : decode b_Ou_add 78 = .ok (.iload 8, 2) := by decide +kernel
theorem d_Ou_add_80 : decode b_Ou_add 80 = .ok (.iconst 4, 1) := by decide +kernel
theorem d_Ou_add_81 : decode b_Ou_add 81 = .ok (.iadd, 1) := by decide +kernel
theorem d_Ou_add_82 : decode b_Ou_add 82 = .ok (.iload_n 3, 1) := by decide +kernel
theorem d_Ou_add_83 : decode b_Ou_add 83 = .ok (.iastore, 1) := by decide +kernel
theorem d_Ou_add_84 : decode b_Ou_add 84 = .ok (.aload_n 0, 1) := by decide +kernel
theorem d_Ou_add_85 : decode b_Ou_add 85 = .ok (.getfield 11, 3) := by decide +kernel
theorem d_Ou_add_88 : decode b_Ou_add 88 = .ok (.iload 8, 2) := by decide +kernel
theorem d_Ou_add_90 : decode b_Ou_add 90 = .ok (.iconst 5, 1) := by decide +kernel
theorem d_Ou_add_91 : decode b_Ou_add 91 = .ok (.iadd, 1) := by decide +kernel
theorem d_Ou_add_92 : decode b_Ou_add 92 = .ok (.iload 4, 2) := by decide +kernel
theorem d_Ou_add_94 : decode b_Ou_add 94 = .ok (.iastore, 1) := by decide +kernel
theorem d_Ou_add_95 : decode b_Ou_add 95 = .ok (.aload_n 0, 1) := by decide +kernel
theorem d_Ou_add_96 : decode b_Ou_add 96 = .ok (.getfield 11, 3) := by decide +kernel
theorem d_Ou_add_99 : decode b_Ou_add 99 = .ok (.iload 8, 2) := by decide +kernel
theorem d_Ou_add_101 : decode b_Ou_add 101 = .ok (.bipush 6, 2) := by decide +kernel
theorem d_Ou_add_103 : decode b_Ou_add 103 = .ok (.iadd, 1) := by decide +kernel
theorem d_Ou_add_104 : decode b_Ou_add 104 = .ok (.iload 5, 2) := by decide +kernel
theorem d_Ou_add_106 : decode b_Ou_add 106 = .ok (.iastore, 1) := by decide +kernel
theorem d_Ou_add_107 : decode b_Ou_add 107 = .ok (.aload_n 0, 1) := by decide +kernel
theorem d_Ou_add_108 : decode b_Ou_add 108 = .ok (.iload 6, 2) := by decide +kernel
theorem d_Ou_add_110 : decode b_Ou_add 110 = .ok (.putfield 23, 3) := by decide +kernel
theorem d_Ou_add_113 : decode b_Ou_add 113 = .ok (.aload_n 0, 1) := by decide +kernel
theorem d_Ou_add_114 : decode b_Ou_add 114 = .ok (.iload 7, 2) := by decide +kernel
theorem d_Ou_add_116 : decode b_Ou_add 116 = .ok (.putfield 26, 3) := by decide +kernel
theorem d_Ou_add_119 : decode b_Ou_add 119 = .ok (.aload_n 0, 1) := by decide +kernel
theorem d_Ou_add_120 : decode b_Ou_add 120 = .ok (.dup, 1) := by decide +kernel
theorem d_Ou_add_121 : decode b_Ou_add 121 = .ok (.getfield 15, 3) := by decide +kernel
theorem d_Ou_add_124 : decode b_Ou_add 124 = .ok (.iconst 1, 1) := by decide +kernel
theorem d_Ou_add_125 : decode b_Ou_add 125 = .ok (.iadd, 1) := by decide +kernel
theorem d_Ou_add_126 : decode b_Ou_add 126 = .ok (.putfield 15, 3) := by decide +kernel
theorem d_Ou_add_129 : decode b_Ou_add 129 = .ok (.iconst 1, 1) := by decide +kernel
theorem d_Ou_add_130 : decode b_Ou_add 130 = .ok (.ireturn, 1) := by decide +kernel
abbrev b_Ou_move : ByteArray := prog_6_method_7_code
abbrev y_Ou_move : MethodName := ⟨"CharOutlines$Outline", "move", "(II)Z"⟩
set_option maxRecDepth 100000 in
theorem cal_Ou_move : CalV gd_tbl "CharOutlines$Outline" y_Ou_move b_Ou_move 3 (some .boolean) 2 := ⟨⟨List.mem_filter.mpr ⟨List.mem_of_getElem? (i := 630) rfl, rfl⟩, List.mem_filter.mpr ⟨List.mem_of_getElem? (i := 67) rfl, rfl⟩, ⟨by decide, by decide⟩, by decide +kernel⟩, List.mem_filter.mpr ⟨List.mem_of_getElem? (i := 628) rfl, rfl⟩, List.mem_filter.mpr ⟨List.mem_of_getElem? (i := 629) rfl, rfl⟩⟩
theorem d_Ou_move_0 : decode b_Ou_move 0 = .ok (.aload_n 0, 1) := by decide +kernel
theorem d_Ou_move_1 : decode b_Ou_move 1 = .ok (.iconst 0, 1) := by decide +kernel
theorem d_Ou_move_2 : decode b_Ou_move 2 = .ok (.iconst 0, 1) := by decide +kernel
theorem d_Ou_move_3 : decode b_Ou_move 3 = .ok (.iconst 0, 1) := by decide +kernel
theorem d_Ou_move_4 : decode b_Ou_move 4 = .ok (.iconst 0, 1) := by decide +kernel
theorem d_Ou_move_5 : decode b_Ou_move 5 = .ok (.iconst 0, 1) := by decide +kernel
theorem d_Ou_move_6 : decode b_Ou_move 6 = .ok (.aload_n 0, 1) := by decide +kernel
theorem d_Ou_move_7 : decode b_Ou_move 7 = .ok (.getfield 23, 3) := by decide +kernel
theorem d_Ou_move_10 : decode b_Ou_move 10 = .ok (.iload_n 1, 1) := by decide +kernel
theorem d_Ou_move_11 : decode b_Ou_move 11 = .ok (.iadd, 1) := by decide +kernel
theorem d_Ou_move_12 : decode b_Ou_move 12 = .ok (.aload_n 0, 1) := by decide +kernel
theorem d_Ou_move_13 : decode b_Ou_move 13 = .ok (.getfield 26, 3) := by decide +kernel
theorem d_Ou_move_16 : decode b_Ou_move 16 = .ok (.iload_n 2, 1) := by decide +kernel
theorem d_Ou_move_17 : decode b_Ou_move 17 = .ok (.iadd, 1) := by decide +kernel
theorem d_Ou_move_18 : decode b_Ou_move 18 = .ok (.invokevirtual 44, 3) := by decide +kernel
theorem d_Ou_move_21 : decode b_Ou_move 21 = .ok (.ireturn, 1) := by decide +kernel
abbrev b_Ou_line : ByteArray := prog_6_method_8_code
abbrev y_Ou_line : MethodName := ⟨"CharOutlines$Outline", "line", "(II)Z"⟩
set_option maxRecDepth 100000 in
theorem cal_Ou_line : CalV gd_tbl "CharOutlines$Outline" y_Ou_line b_Ou_line 3 (some .boolean) 2 := ⟨⟨List.mem_filter.mpr ⟨List.mem_of_getElem? (i := 566) rfl, rfl⟩, List.mem_filter.mpr ⟨List.mem_of_getElem? (i := 67) rfl, rfl⟩, ⟨by decide, by decide⟩, by decide +kernel⟩, List.mem_filter.mpr ⟨List.mem_of_getElem? (i := 564) rfl, rfl⟩, List.mem_filter.mpr ⟨List.mem_of_getElem? (i := 565) rfl, rfl⟩⟩
theorem d_Ou_line_0 : decode b_Ou_line 0 = .ok (.aload_n 0, 1) := by decide +kernel
theorem d_Ou_line_1 : decode b_Ou_line 1 = .ok (.iconst 1, 1) := by decide +kernel
theorem d_Ou_line_2 : decode b_Ou_line 2 = .ok (.iconst 0, 1) := by decide +kernel
theorem d_Ou_line_3 : decode b_Ou_line 3 = .ok (.iconst 0, 1) := by decide +kernel
theorem d_Ou_line_4 : decode b_Ou_line 4 = .ok (.iconst 0, 1) := by decide +kernel
theorem d_Ou_line_5 : decode b_Ou_line 5 = .ok (.iconst 0, 1) := by decide +kernel
theorem d_Ou_line_6 : decode b_Ou_line 6 = .ok (.aload_n 0, 1) := by decide +kernel
theorem d_Ou_line_7 : decode b_Ou_line 7 = .ok (.getfield 23, 3) := by decide +kernel
theorem d_Ou_line_10 : decode b_Ou_line 10 = .ok (.iload_n 1, 1) := by decide +kernel
theorem d_Ou_line_11 : decode b_Ou_line 11 = .ok (.iadd, 1) := by decide +kernel
theorem d_Ou_line_12 : decode b_Ou_line 12 = .ok (.aload_n 0, 1) := by decide +kernel
theorem d_Ou_line_13 : decode b_Ou_line 13 = .ok (.getfield 26, 3) := by decide +kernel
theorem d_Ou_line_16 : decode b_Ou_line 16 = .ok (.iload_n 2, 1) := by decide +kernel
theorem d_Ou_line_17 : decode b_Ou_line 17 = .ok (.iadd, 1) := by decide +kernel
theorem d_Ou_line_18 : decode b_Ou_line 18 = .ok (.invokevirtual 44, 3) := by decide +kernel
theorem d_Ou_line_21 : decode b_Ou_line 21 = .ok (.ireturn, 1) := by decide +kernel
abbrev b_Ou_curve : ByteArray := prog_6_method_9_code
abbrev y_Ou_curve : MethodName := ⟨"CharOutlines$Outline", "curve", "(IIIIII)Z"⟩
set_option maxRecDepth 100000 in
theorem cal_Ou_curve : CalV gd_tbl "CharOutlines$Outline" y_Ou_curve b_Ou_curve 11 (some .boolean) 6 := ⟨⟨List.mem_filter.mpr ⟨List.mem_of_getElem? (i := 580) rfl, rfl⟩, List.mem_filter.mpr ⟨List.mem_of_getElem? (i := 67) rfl, rfl⟩, ⟨by decide, by decide⟩, by decide +kernel⟩, List.mem_filter.mpr ⟨List.mem_of_getElem? (i := 578) rfl, rfl⟩, List.mem_filter.mpr ⟨List.mem_of_getElem? (i := 579) rfl, rfl⟩⟩
theorem d_Ou_curve_0 : decode b_Ou_curve 0 = .ok (.aload_n 0, 1) := by decide +kernel
theorem d_Ou_curve_1 : decode b_Ou_curve 1 = .ok (.getfield 23, 3) := by decide +kernel
theorem d_Ou_curve_4 : decode b_Ou_curve 4 = .ok (.iload_n 1, 1) := by decide +kernel
theorem d_Ou_curve_5 : decode b_Ou_curve 5 = .ok (.iadd, 1) := by decide +kernel
theorem d_Ou_curve_6 : decode b_Ou_curve 6 = .ok (.istore 7, 2) := by decide +kernel
theorem d_Ou_curve_8 : decode b_Ou_curve 8 = .ok (.aload_n 0, 1) := by decide +kernel
theorem d_Ou_curve_9 : decode b_Ou_curve 9 = .ok (.getfield 26, 3) := by decide +kernel
theorem d_Ou_curve_12 : decode b_Ou_curve 12 = .ok (.iload_n 2, 1) := by decide +kernel
theorem d_Ou_curve_13 : decode b_Ou_curve 13 = .ok (.iadd, 1) := by decide +kernel
theorem d_Ou_curve_14 : decode b_Ou_curve 14 = .ok (.istore 8, 2) := by decide +kernel
theorem d_Ou_curve_16 : decode b_Ou_curve 16 = .ok (.iload 7, 2) := by decide +kernel
theorem d_Ou_curve_18 : decode b_Ou_curve 18 = .ok (.iload_n 3, 1) := by decide +kernel
theorem d_Ou_curve_19 : decode b_Ou_curve 19 = .ok (.iadd, 1) := by decide +kernel
theorem d_Ou_curve_20 : decode b_Ou_curve 20 = .ok (.istore 9, 2) := by decide +kernel
theorem d_Ou_curve_22 : decode b_Ou_curve 22 = .ok (.iload 8, 2) := by decide +kernel
theorem d_Ou_curve_24 : decode b_Ou_curve 24 = .ok (.iload 4, 2) := by decide +kernel
theorem d_Ou_curve_26 : decode b_Ou_curve 26 = .ok (.iadd, 1) := by decide +kernel
theorem d_Ou_curve_27 : decode b_Ou_curve 27 = .ok (.istore 10, 2) := by decide +kernel
theorem d_Ou_curve_29 : decode b_Ou_curve 29 = .ok (.aload_n 0, 1) := by decide +kernel
theorem d_Ou_curve_30 : decode b_Ou_curve 30 = .ok (.iconst 2, 1) := by decide +kernel
theorem d_Ou_curve_31 : decode b_Ou_curve 31 = .ok (.iload 7, 2) := by decide +kernel
theorem d_Ou_curve_33 : decode b_Ou_curve 33 = .ok (.iload 8, 2) := by decide +kernel
theorem d_Ou_curve_35 : decode b_Ou_curve 35 = .ok (.iload 9, 2) := by decide +kernel
theorem d_Ou_curve_37 : decode b_Ou_curve 37 = .ok (.iload 10, 2) := by decide +kernel
theorem d_Ou_curve_39 : decode b_Ou_curve 39 = .ok (.iload 9, 2) := by decide +kernel
theorem d_Ou_curve_41 : decode b_Ou_curve 41 = .ok (.iload 5, 2) := by decide +kernel
theorem d_Ou_curve_43 : decode b_Ou_curve 43 = .ok (.iadd, 1) := by decide +kernel
theorem d_Ou_curve_44 : decode b_Ou_curve 44 = .ok (.iload 10, 2) := by decide +kernel
theorem d_Ou_curve_46 : decode b_Ou_curve 46 = .ok (.iload 6, 2) := by decide +kernel
theorem d_Ou_curve_48 : decode b_Ou_curve 48 = .ok (.iadd, 1) := by decide +kernel
theorem d_Ou_curve_49 : decode b_Ou_curve 49 = .ok (.invokevirtual 44, 3) := by decide +kernel
theorem d_Ou_curve_52 : decode b_Ou_curve 52 = .ok (.ireturn, 1) := by decide +kernel
abbrev b_Ou_makeRoom : ByteArray := prog_6_method_6_code
abbrev y_Ou_makeRoom : MethodName := ⟨"CharOutlines$Outline", "makeRoom", "()V"⟩
set_option maxRecDepth 100000 in
theorem cal_Ou_makeRoom : CalV gd_tbl "CharOutlines$Outline" y_Ou_makeRoom b_Ou_makeRoom 2 none 0 := ⟨⟨List.mem_filter.mpr ⟨List.mem_of_getElem? (i := 541) rfl, rfl⟩, List.mem_filter.mpr ⟨List.mem_of_getElem? (i := 67) rfl, rfl⟩, ⟨by decide, by decide⟩, by decide +kernel⟩, List.mem_filter.mpr ⟨List.mem_of_getElem? (i := 539) rfl, rfl⟩, List.mem_filter.mpr ⟨List.mem_of_getElem? (i := 540) rfl, rfl⟩⟩
theorem d_Ou_makeRoom_0 : decode b_Ou_makeRoom 0 = .ok (.sipush 4000, 3) := by decide +kernel
theorem d_Ou_makeRoom_3 : decode b_Ou_makeRoom 3 = .ok (.aload_n 0, 1) := by decide +kernel
theorem d_Ou_makeRoom_4 : decode b_Ou_makeRoom 4 = .ok (.getfield 15, 3) := by decide +kernel
theorem d_Ou_makeRoom_7 : decode b_Ou_makeRoom 7 = .ok (.bipush 48, 2) := by decide +kernel
theorem d_Ou_makeRoom_9 : decode b_Ou_makeRoom 9 = .ok (.iadd, 1) := by decide +kernel
theorem d_Ou_makeRoom_10 : decode b_Ou_makeRoom 10 = .ok (.invokestatic 29, 3) := by decide +kernel
theorem d_Ou_makeRoom_13 : decode b_Ou_makeRoom 13 = .ok (.bipush 7, 2) := by decide +kernel
theorem d_Ou_makeRoom_15 : decode b_Ou_makeRoom 15 = .ok (.imul, 1) := by decide +kernel
theorem d_Ou_makeRoom_16 : decode b_Ou_makeRoom 16 = .ok (.istore_n 1, 1) := by decide +kernel
theorem d_Ou_makeRoom_17 : decode b_Ou_makeRoom 17 = .ok (.iload_n 1, 1) := by decide +kernel
theorem d_Ou_makeRoom_18 : decode b_Ou_makeRoom 18 = .ok (.aload_n 0, 1) := by decide +kernel
theorem d_Ou_makeRoom_19 : decode b_Ou_makeRoom 19 = .ok (.getfield 11, 3) := by decide +kernel
theorem d_Ou_makeRoom_22 : decode b_Ou_makeRoom 22 = .ok (.arraylength, 1) := by decide +kernel
theorem d_Ou_makeRoom_23 : decode b_Ou_makeRoom 23 = .ok (.if_icmp .le 31, 3) := by decide +kernel
theorem d_Ou_makeRoom_26 : decode b_Ou_makeRoom 26 = .ok (.aload_n 0, 1) := by decide +kernel
theorem d_Ou_makeRoom_27 : decode b_Ou_makeRoom 27 = .ok (.aload_n 0, 1) := by decide +kernel
theorem d_Ou_makeRoom_28 : decode b_Ou_makeRoom 28 = .ok (.getfield 11, 3) := by decide +kernel
theorem d_Ou_makeRoom_31 : decode b_Ou_makeRoom 31 = .ok (.sipush 28000, 3) := by decide +kernel
theorem d_Ou_makeRoom_34 : decode b_Ou_makeRoom 34 = .ok (.iload_n 1, 1) := by decide +kernel
theorem d_Ou_makeRoom_35 : decode b_Ou_makeRoom 35 = .ok (.iconst 2, 1) := by decide +kernel
theorem d_Ou_makeRoom_36 : decode b_Ou_makeRoom 36 = .ok (.aload_n 0, 1) := by decide +kernel
theorem d_Ou_makeRoom_37 : decode b_Ou_makeRoom 37 = .ok (.getfield 11, 3) := by decide +kernel
theorem d_Ou_makeRoom_40 : decode b_Ou_makeRoom 40 = .ok (.arraylength, 1) := by decide +kernel
theorem d_Ou_makeRoom_41 : decode b_Ou_makeRoom 41 = .ok (.imul, 1) := by decide +kernel
theorem d_Ou_makeRoom_42 : decode b_Ou_makeRoom 42 = .ok (.invokestatic 35, 3) := by decide +kernel
theorem d_Ou_makeRoom_45 : decode b_Ou_makeRoom 45 = .ok (.invokestatic 29, 3) := by decide +kernel
theorem d_Ou_makeRoom_48 : decode b_Ou_makeRoom 48 = .ok (.invokestatic 38, 3) := by decide +kernel
theorem d_Ou_makeRoom_51 : decode b_Ou_makeRoom 51 = .ok (.putfield 11, 3) := by decide +kernel
theorem d_Ou_makeRoom_54 : decode b_Ou_makeRoom 54 = .ok (.return_, 1) := by decide +kernel
abbrev b_Arrs_fill : ByteArray := prog_22_method_103_code
abbrev y_Arrs_fill : MethodName := ⟨"java/util/Arrays", "fill", "([II)V"⟩
set_option maxRecDepth 100000 in
theorem cal_Arrs_fill : CalS gd_tbl y_Arrs_fill b_Arrs_fill 4 none 2 := ⟨⟨List.mem_filter.mpr ⟨List.mem_of_getElem? (i := 488) rfl, rfl⟩, List.mem_filter.mpr ⟨List.mem_of_getElem? (i := 70) rfl, rfl⟩, ⟨by decide, by decide⟩, by decide +kernel⟩, List.mem_filter.mpr ⟨List.mem_of_getElem? (i := 487) rfl, rfl⟩⟩
theorem d_Arrs_fill_0 : decode b_Arrs_fill 0 = .ok (.iconst 0, 1) := by decide +kernel
theorem d_Arrs_fill_1 : decode b_Arrs_fill 1 = .ok (.istore_n 2, 1) := by decide +kernel
theorem d_Arrs_fill_2 : decode b_Arrs_fill 2 = .ok (.aload_n 0, 1) := by decide +kernel
theorem d_Arrs_fill_3 : decode b_Arrs_fill 3 = .ok (.arraylength, 1) := by decide +kernel
theorem d_Arrs_fill_4 : decode b_Arrs_fill 4 = .ok (.istore_n 3, 1) := by decide +kernel
theorem d_Arrs_fill_5 : decode b_Arrs_fill 5 = .ok (.iload_n 2, 1) := by decide +kernel
theorem d_Arrs_fill_6 : decode b_Arrs_fill 6 = .ok (.iload_n 3, 1) := by decide +kernel
theorem d_Arrs_fill_7 : decode b_Arrs_fill 7 = .ok (.if_icmp .ge 13, 3) := by decide +kernel
theorem d_Arrs_fill_10 : decode b_Arrs_fill 10 = .ok (.aload_n 0, 1) := by decide +kernel
theorem d_Arrs_fill_11 : decode b_Arrs_fill 11 = .ok (.iload_n 2, 1) := by decide +kernel
theorem d_Arrs_fill_12 : decode b_Arrs_fill 12 = .ok (.iload_n 1, 1) := by decide +kernel
theorem d_Arrs_fill_13 : decode b_Arrs_fill 13 = .ok (.iastore, 1) := by decide +kernel
theorem d_Arrs_fill_14 : decode b_Arrs_fill 14 = .ok (.iinc 2 1, 3) := by decide +kernel
theorem d_Arrs_fill_17 : decode b_Arrs_fill 17 = .ok (.goto (-12), 3) := by decide +kernel
theorem d_Arrs_fill_20 : decode b_Arrs_fill 20 = .ok (.return_, 1) := by decide +kernel
abbrev b_Re_clear : ByteArray := prog_7_method_2_code
abbrev y_Re_clear : MethodName := ⟨"CharOutlines$Reckoning", "clear", "()V"⟩
set_option maxRecDepth 100000 in
theorem cal_Re_clear : CalV gd_tbl "CharOutlines$Reckoning" y_Re_clear b_Re_clear 1 none 0 := ⟨⟨List.mem_filter.mpr ⟨List.mem_of_getElem? (i := 485) rfl, rfl⟩, List.mem_filter.mpr ⟨List.mem_of_getElem? (i := 66) rfl, rfl⟩, ⟨by decide, by decide⟩, by decide +kernel⟩, List.mem_filter.mpr ⟨List.mem_of_getElem? (i := 483) rfl, rfl⟩, List.mem_filter.mpr ⟨List.mem_of_getElem? (i := 484) rfl, rfl⟩⟩
theorem d_Re_clear_0 : decode b_Re_clear 0 = .ok (.aload_n 0, 1) := by decide +kernel
theorem d_Re_clear_1 : decode b_Re_clear 1 = .ok (.getfield 9, 3) := by decide +kernel
theorem d_Re_clear_4 : decode b_Re_clear 4 = .ok (.iconst 0, 1) := by decide +kernel
theorem d_Re_clear_5 : decode b_Re_clear 5 = .ok (.invokestatic 15, 3) := by decide +kernel
theorem d_Re_clear_8 : decode b_Re_clear 8 = .ok (.return_, 1) := by decide +kernel
abbrev b_St_shelf : ByteArray := prog_9_method_2_code
abbrev y_St_shelf : MethodName := ⟨"CharOutlines$Strings", "shelf", "(I)LCharOutlines$Shelf;"⟩
set_option maxRecDepth 100000 in
theorem cal_St_shelf : CalV gd_tbl "CharOutlines$Strings" y_St_shelf b_St_shelf 2 (some (.object "CharOutlines$Shelf")) 1 := ⟨⟨List.mem_filter.mpr ⟨List.mem_of_getElem? (i := 420) rfl, rfl⟩, List.mem_filter.mpr ⟨List.mem_of_getElem? (i := 63) rfl, rfl⟩, ⟨by decide, by decide⟩, by decide +kernel⟩, List.mem_filter.mpr ⟨List.mem_of_getElem? (i := 418) rfl, rfl⟩, List.mem_filter.mpr ⟨List.mem_of_getElem? (i := 419) rfl, rfl⟩⟩
theorem d_St_shelf_0 : decode b_St_shelf 0 = .ok (.iload_n 1, 1) := by decide +kernel
theorem d_St_shelf_1 : decode b_St_shelf 1 = .ok (.lookupswitch 37 #[(1, 27), (2, 32)], 27) := by decide +kernel
theorem d_St_shelf_28 : decode b_St_shelf 28 = .ok (.aload_n 0, 1) := by decide +kernel
theorem d_St_shelf_29 : decode b_St_shelf 29 = .ok (.getfield 18, 3) := by decide +kernel
theorem d_St_shelf_32 : decode b_St_shelf 32 = .ok (.areturn, 1) := by decide +kernel
theorem d_St_shelf_33 : decode b_St_shelf 33 = .ok (.aload_n 0, 1) := by decide +kernel
theorem d_St_shelf_34 : decode b_St_shelf 34 = .ok (.getfield 21, 3) := by decide +kernel
theorem d_St_shelf_37 : decode b_St_shelf 37 = .ok (.areturn, 1) := by decide +kernel
theorem d_St_shelf_38 : decode b_St_shelf 38 = .ok (.aload_n 0, 1) := by decide +kernel
theorem d_St_shelf_39 : decode b_St_shelf 39 = .ok (.getfield 12, 3) := by decide +kernel
theorem d_St_shelf_42 : decode b_St_shelf 42 = .ok (.areturn, 1) := by decide +kernel
abbrev b_St_deepest : ByteArray := prog_9_method_3_code
abbrev y_St_deepest : MethodName := ⟨"CharOutlines$Strings", "deepest", "()I"⟩
set_option maxRecDepth 100000 in
theorem cal_St_deepest : CalV gd_tbl "CharOutlines$Strings" y_St_deepest b_St_deepest 1 (some .int) 0 := ⟨⟨List.mem_filter.mpr ⟨List.mem_of_getElem? (i := 290) rfl, rfl⟩, List.mem_filter.mpr ⟨List.mem_of_getElem? (i := 63) rfl, rfl⟩, ⟨by decide, by decide⟩, by decide +kernel⟩, List.mem_filter.mpr ⟨List.mem_of_getElem? (i := 288) rfl, rfl⟩, List.mem_filter.mpr ⟨List.mem_of_getElem? (i := 289) rfl, rfl⟩⟩
theorem d_St_deepest_0 : decode b_St_deepest 0 = .ok (.aload_n 0, 1) := by decide +kernel
theorem d_St_deepest_1 : decode b_St_deepest 1 = .ok (.getfield 34, 3) := by decide +kernel
theorem d_St_deepest_4 : decode b_St_deepest 4 = .ok (.ireturn, 1) := by decide +kernel
abbrev b_St_enter : ByteArray := prog_9_method_5_code
abbrev y_St_enter : MethodName := ⟨"CharOutlines$Strings", "enter", "(II)I"⟩
set_option maxRecDepth 100000 in
theorem cal_St_enter : CalV gd_tbl "CharOutlines$Strings" y_St_enter b_St_enter 3 (some .int) 2 := ⟨⟨List.mem_filter.mpr ⟨List.mem_of_getElem? (i := 470) rfl, rfl⟩, List.mem_filter.mpr ⟨List.mem_of_getElem? (i := 63) rfl, rfl⟩, ⟨by decide, by decide⟩, by decide +kernel⟩, List.mem_filter.mpr ⟨List.mem_of_getElem? (i := 468) rfl, rfl⟩, List.mem_filter.mpr ⟨List.mem_of_getElem? (i := 469) rfl, rfl⟩⟩
theorem d_St_enter_0 : decode b_St_enter 0 = .ok (.aload_n 0, 1) := by decide +kernel
theorem d_St_enter_1 : decode b_St_enter 1 = .ok (.iload_n 1, 1) := by decide +kernel
theorem d_St_enter_2 : decode b_St_enter 2 = .ok (.invokevirtual 45, 3) := by decide +kernel
theorem d_St_enter_5 : decode b_St_enter 5 = .ok (.iload_n 2, 1) := by decide +kernel
theorem d_St_enter_6 : decode b_St_enter 6 = .ok (.invokevirtual 49, 3) := by decide +kernel
theorem d_St_enter_9 : decode b_St_enter 9 = .ok (.ifCond .ne 6, 3) := by decide +kernel
theorem d_St_enter_12 : decode b_St_enter 12 = .ok (.bipush (-8), 2) := by decide +kernel
theorem d_St_enter_14 : decode b_St_enter 14 = .ok (.ireturn, 1) := by decide +kernel
theorem d_St_enter_15 : decode b_St_enter 15 = .ok (.aload_n 0, 1) := by decide +kernel
theorem d_St_enter_16 : decode b_St_enter 16 = .ok (.getfield 38, 3) := by decide +kernel
theorem d_St_enter_19 : decode b_St_enter 19 = .ok (.bipush 10, 2) := by decide +kernel
theorem d_St_enter_21 : decode b_St_enter 21 = .ok (.if_icmp .lt 6, 3) := by decide +kernel
theorem d_St_enter_24 : decode b_St_enter 24 = .ok (.bipush (-9), 2) := by decide +kernel
theorem d_St_enter_26 : decode b_St_enter 26 = .ok (.ireturn, 1) := by decide +kernel
theorem d_St_enter_27 : decode b_St_enter 27 = .ok (.aload_n 0, 1) := by decide +kernel
theorem d_St_enter_28 : decode b_St_enter 28 = .ok (.getfield 24, 3) := by decide +kernel
theorem d_St_enter_31 : decode b_St_enter 31 = .ok (.aload_n 0, 1) := by decide +kernel
theorem d_St_enter_32 : decode b_St_enter 32 = .ok (.getfield 38, 3) := by decide +kernel
theorem d_St_enter_35 : decode b_St_enter 35 = .ok (.iload_n 1, 1) := by decide +kernel
theorem d_St_enter_36 : decode b_St_enter 36 = .ok (.iastore, 1) := by decide +kernel
theorem d_St_enter_37 : decode b_St_enter 37 = .ok (.aload_n 0, 1) := by decide +kernel
theorem d_St_enter_38 : decode b_St_enter 38 = .ok (.getfield 28, 3) := by decide +kernel
theorem d_St_enter_41 : decode b_St_enter 41 = .ok (.aload_n 0, 1) := by decide +kernel
theorem d_St_enter_42 : decode b_St_enter 42 = .ok (.getfield 38, 3) := by decide +kernel
theorem d_St_enter_45 : decode b_St_enter 45 = .ok (.aload_n 0, 1) := by decide +kernel
theorem d_St_enter_46 : decode b_St_enter 46 = .ok (.iload_n 1, 1) := by decide +kernel
theorem d_St_enter_47 : decode b_St_enter 47 = .ok (.invokevirtual 45, 3) := by decide +kernel
theorem d_St_enter_50 : decode b_St_enter 50 = .ok (.iload_n 2, 1) := by decide +kernel
theorem d_St_enter_51 : decode b_St_enter 51 = .ok (.invokevirtual 53, 3) := by decide +kernel
theorem d_St_enter_54 : decode b_St_enter 54 = .ok (.iastore, 1) := by decide +kernel
theorem d_St_enter_55 : decode b_St_enter 55 = .ok (.aload_n 0, 1) := by decide +kernel
theorem d_St_enter_56 : decode b_St_enter 56 = .ok (.getfield 31, 3) := by decide +kernel
theorem d_St_enter_59 : decode b_St_enter 59 = .ok (.aload_n 0, 1) := by decide +kernel
theorem d_St_enter_60 : decode b_St_enter 60 = .ok (.getfield 38, 3) := by decide +kernel
theorem d_St_enter_63 : decode b_St_enter 63 = .ok (.aload_n 0, 1) := by decide +kernel
theorem d_St_enter_64 : decode b_St_enter 64 = .ok (.iload_n 1, 1) := by decide +kernel
theorem d_St_enter_65 : decode b_St_enter 65 = .ok (.invokevirtual 45, 3) := by decide +kernel
theorem d_St_enter_68 : decode b_St_enter 68 = .ok (.iload_n 2, 1) := by decide +kernel
theorem d_St_enter_69 : decode b_St_enter 69 = .ok (.iconst 1, 1) := by decide +kernel
theorem d_St_enter_70 : decode b_St_enter 70 = .ok (.iadd, 1) := by decide +kernel
theorem d_St_enter_71 : decode b_St_enter 71 = .ok (.invokevirtual 53, 3) := by decide +kernel
theorem d_St_enter_74 : decode b_St_enter 74 = .ok (.iastore, 1) := by decide +kernel
theorem d_St_enter_75 : decode b_St_enter 75 = .ok (.aload_n 0, 1) := by decide +kernel
theorem d_St_enter_76 : decode b_St_enter 76 = .ok (.dup, 1) := by decide +kernel
theorem d_St_enter_77 : decode b_St_enter 77 = .ok (.getfield 38, 3) := by decide +kernel
theorem d_St_enter_80 : decode b_St_enter 80 = .ok (.iconst 1, 1) := by decide +kernel
theorem d_St_enter_81 : decode b_St_enter 81 = .ok (.iadd, 1) := by decide +kernel
theorem d_St_enter_82 : decode b_St_enter 82 = .ok (.putfield 38, 3) := by decide +kernel
theorem d_St_enter_85 : decode b_St_enter 85 = .ok (.aload_n 0, 1) := by decide +kernel
theorem d_St_enter_86 : decode b_St_enter 86 = .ok (.aload_n 0, 1) := by decide +kernel
theorem d_St_enter_87 : decode b_St_enter 87 = .ok (.getfield 34, 3) := by decide +kernel
theorem d_St_enter_90 : decode b_St_enter 90 = .ok (.aload_n 0, 1) := by decide +kernel
theorem d_St_enter_91 : decode b_St_enter 91 = .ok (.getfield 38, 3) := by decide +kernel
theorem d_St_enter_94 : decode b_St_enter 94 = .ok (.invokestatic 57, 3) := by decide +kernel
theorem d_St_enter_97 : decode b_St_enter 97 = .ok (.putfield 34, 3) := by decide +kernel
theorem d_St_enter_100 : decode b_St_enter 100 = .ok (.iconst 0, 1) := by decide +kernel
theorem d_St_enter_101 : decode b_St_enter 101 = .ok (.ireturn, 1) := by decide +kernel
abbrev b_St_begin : ByteArray := prog_9_method_4_code
abbrev y_St_begin : MethodName := ⟨"CharOutlines$Strings", "begin", "(I)V"⟩
set_option maxRecDepth 100000 in
theorem cal_St_begin : CalV gd_tbl "CharOutlines$Strings" y_St_begin b_St_begin 2 none 1 := ⟨⟨List.mem_filter.mpr ⟨List.mem_of_getElem? (i := 466) rfl, rfl⟩, List.mem_filter.mpr ⟨List.mem_of_getElem? (i := 63) rfl, rfl⟩, ⟨by decide, by decide⟩, by decide +kernel⟩, List.mem_filter.mpr ⟨List.mem_of_getElem? (i := 464) rfl, rfl⟩, List.mem_filter.mpr ⟨List.mem_of_getElem? (i := 465) rfl, rfl⟩⟩
theorem d_St_begin_0 : decode b_St_begin 0 = .ok (.aload_n 0, 1) := by decide +kernel
theorem d_St_begin_1 : decode b_St_begin 1 = .ok (.iconst 0, 1) := by decide +kernel
theorem d_St_begin_2 : decode b_St_begin 2 = .ok (.putfield 38, 3) := by decide +kernel
theorem d_St_begin_5 : decode b_St_begin 5 = .ok (.aload_n 0, 1) := by decide +kernel
theorem d_St_begin_6 : decode b_St_begin 6 = .ok (.iconst 0, 1) := by decide +kernel
theorem d_St_begin_7 : decode b_St_begin 7 = .ok (.putfield 34, 3) := by decide +kernel
theorem d_St_begin_10 : decode b_St_begin 10 = .ok (.aload_n 0, 1) := by decide +kernel
theorem d_St_begin_11 : decode b_St_begin 11 = .ok (.iconst 0, 1) := by decide +kernel
theorem d_St_begin_12 : decode b_St_begin 12 = .ok (.iload_n 1, 1) := by decide +kernel
theorem d_St_begin_13 : decode b_St_begin 13 = .ok (.invokevirtual 41, 3) := by decide +kernel
theorem d_St_begin_16 : decode b_St_begin 16 = .ok (.pop, 1) := by decide +kernel
theorem d_St_begin_17 : decode b_St_begin 17 = .ok (.return_, 1) := by decide +kernel
abbrev b_St_leave : ByteArray := prog_9_method_6_code
abbrev y_St_leave : MethodName := ⟨"CharOutlines$Strings", "leave", "()I"⟩
set_option maxRecDepth 100000 in
theorem cal_St_leave : CalV gd_tbl "CharOutlines$Strings" y_St_leave b_St_leave 1 (some .int) 0 := ⟨⟨List.mem_filter.mpr ⟨List.mem_of_getElem? (i := 653) rfl, rfl⟩, List.mem_filter.mpr ⟨List.mem_of_getElem? (i := 63) rfl, rfl⟩, ⟨by decide, by decide⟩, by decide +kernel⟩, List.mem_filter.mpr ⟨List.mem_of_getElem? (i := 651) rfl, rfl⟩, List.mem_filter.mpr ⟨List.mem_of_getElem? (i := 652) rfl, rfl⟩⟩
theorem d_St_leave_0 : decode b_St_leave 0 = .ok (.aload_n 0, 1) := by decide +kernel
theorem d_St_leave_1 : decode b_St_leave 1 = .ok (.getfield 38, 3) := by decide +kernel
theorem d_St_leave_4 : decode b_St_leave 4 = .ok (.iconst 1, 1) := by decide +kernel
theorem d_St_leave_5 : decode b_St_leave 5 = .ok (.if_icmp .gt 6, 3) := by decide +kernel
theorem d_St_leave_8 : decode b_St_leave 8 = .ok (.bipush (-5), 2) := by decide +kernel
theorem d_St_leave_10 : decode b_St_leave 10 = .ok (.ireturn, 1) := by decide +kernel
theorem d_St_leave_11 : decode b_St_leave 11 = .ok (.aload_n 0, 1) := by decide +kernel
theorem d_St_leave_12 : decode b_St_leave 12 = .ok (.dup, 1) := by decide +kernel
theorem d_St_leave_13 : decode b_St_leave 13 = .ok (.getfield 38, 3) := by decide +kernel
theorem d_St_leave_16 : decode b_St_leave 16 = .ok (.iconst 1, 1) := by decide +kernel
theorem d_St_leave_17 : decode b_St_leave 17 = .ok (.isub, 1) := by decide +kernel
theorem d_St_leave_18 : decode b_St_leave 18 = .ok (.putfield 38, 3) := by decide +kernel
theorem d_St_leave_21 : decode b_St_leave 21 = .ok (.iconst 0, 1) := by decide +kernel
theorem d_St_leave_22 : decode b_St_leave 22 = .ok (.ireturn, 1) := by decide +kernel
abbrev b_St_has : ByteArray := prog_9_method_7_code
abbrev y_St_has : MethodName := ⟨"CharOutlines$Strings", "has", "(I)Z"⟩
set_option maxRecDepth 100000 in
theorem cal_St_has : CalV gd_tbl "CharOutlines$Strings" y_St_has b_St_has 2 (some .boolean) 1 := ⟨⟨List.mem_filter.mpr ⟨List.mem_of_getElem? (i := 500) rfl, rfl⟩, List.mem_filter.mpr ⟨List.mem_of_getElem? (i := 63) rfl, rfl⟩, ⟨by decide, by decide⟩, by decide +kernel⟩, List.mem_filter.mpr ⟨List.mem_of_getElem? (i := 498) rfl, rfl⟩, List.mem_filter.mpr ⟨List.mem_of_getElem? (i := 499) rfl, rfl⟩⟩
theorem d_St_has_0 : decode b_St_has 0 = .ok (.aload_n 0, 1) := by decide +kernel
theorem d_St_has_1 : decode b_St_has 1 = .ok (.getfield 38, 3) := by decide +kernel
theorem d_St_has_4 : decode b_St_has 4 = .ok (.ifCond .le 34, 3) := by decide +kernel
theorem d_St_has_7 : decode b_St_has 7 = .ok (.aload_n 0, 1) := by decide +kernel
theorem d_St_has_8 : decode b_St_has 8 = .ok (.getfield 31, 3) := by decide +kernel
theorem d_St_has_11 : decode b_St_has 11 = .ok (.aload_n 0, 1) := by decide +kernel
theorem d_St_has_12 : decode b_St_has 12 = .ok (.getfield 38, 3) := by decide +kernel
theorem d_St_has_15 : decode b_St_has 15 = .ok (.iconst 1, 1) := by decide +kernel
theorem d_St_has_16 : decode b_St_has 16 = .ok (.isub, 1) := by decide +kernel
theorem d_St_has_17 : decode b_St_has 17 = .ok (.iaload, 1) := by decide +kernel
theorem d_St_has_18 : decode b_St_has 18 = .ok (.aload_n 0, 1) := by decide +kernel
theorem d_St_has_19 : decode b_St_has 19 = .ok (.getfield 28, 3) := by decide +kernel
theorem d_St_has_22 : decode b_St_has 22 = .ok (.aload_n 0, 1) := by decide +kernel
theorem d_St_has_23 : decode b_St_has 23 = .ok (.getfield 38, 3) := by decide +kernel
theorem d_St_has_26 : decode b_St_has 26 = .ok (.iconst 1, 1) := by decide +kernel
theorem d_St_has_27 : decode b_St_has 27 = .ok (.isub, 1) := by decide +kernel
theorem d_St_has_28 : decode b_St_has 28 = .ok (.iaload, 1) := by decide +kernel
theorem d_St_has_29 : decode b_St_has 29 = .ok (.isub, 1) := by decide +kernel
theorem d_St_has_30 : decode b_St_has 30 = .ok (.iload_n 1, 1) := by decide +kernel
theorem d_St_has_31 : decode b_St_has 31 = .ok (.if_icmp .lt 7, 3) := by decide +kernel
theorem d_St_has_34 : decode b_St_has 34 = .ok (.iconst 1, 1) := by decide +kernel
theorem d_St_has_35 : decode b_St_has 35 = .ok (.goto 4, 3) := by decide +kernel
theorem d_St_has_38 : decode b_St_has 38 = .ok (.iconst 0, 1) := by decide +kernel
theorem d_St_has_39 : decode b_St_has 39 = .ok (.ireturn, 1) := by decide +kernel
abbrev b_St_next : ByteArray := prog_9_method_8_code
abbrev y_St_next : MethodName := ⟨"CharOutlines$Strings", "next", "()I"⟩
set_option maxRecDepth 100000 in
theorem cal_St_next : CalV gd_tbl "CharOutlines$Strings" y_St_next b_St_next 2 (some .int) 0 := ⟨⟨List.mem_filter.mpr ⟨List.mem_of_getElem? (i := 504) rfl, rfl⟩, List.mem_filter.mpr ⟨List.mem_of_getElem? (i := 63) rfl, rfl⟩, ⟨by decide, by decide⟩, by decide +kernel⟩, List.mem_filter.mpr ⟨List.mem_of_getElem? (i := 502) rfl, rfl⟩, List.mem_filter.mpr ⟨List.mem_of_getElem? (i := 503) rfl, rfl⟩⟩
theorem d_St_next_0 : decode b_St_next 0 = .ok (.aload_n 0, 1) := by decide +kernel
theorem d_St_next_1 : decode b_St_next 1 = .ok (.getfield 38, 3) := by decide +kernel
theorem d_St_next_4 : decode b_St_next 4 = .ok (.ifCond .ne 5, 3) := by decide +kernel
theorem d_St_next_7 : decode b_St_next 7 = .ok (.iconst 0, 1) := by decide +kernel
theorem d_St_next_8 : decode b_St_next 8 = .ok (.ireturn, 1) := by decide +kernel
theorem d_St_next_9 : decode b_St_next 9 = .ok (.aload_n 0, 1) := by decide +kernel
theorem d_St_next_10 : decode b_St_next 10 = .ok (.aload_n 0, 1) := by decide +kernel
theorem d_St_next_11 : decode b_St_next 11 = .ok (.getfield 24, 3) := by decide +kernel
theorem d_St_next_14 : decode b_St_next 14 = .ok (.aload_n 0, 1) := by decide +kernel
theorem d_St_next_15 : decode b_St_next 15 = .ok (.getfield 38, 3) := by decide +kernel
theorem d_St_next_18 : decode b_St_next 18 = .ok (.iconst 1, 1) := by decide +kernel
theorem d_St_next_19 : decode b_St_next 19 = .ok (.isub, 1) := by decide +kernel
theorem d_St_next_20 : decode b_St_next 20 = .ok (.iaload, 1) := by decide +kernel
theorem d_St_next_21 : decode b_St_next 21 = .ok (.invokevirtual 45, 3) := by decide +kernel
theorem d_St_next_24 : decode b_St_next 24 = .ok (.aload_n 0, 1) := by decide +kernel
theorem d_St_next_25 : decode b_St_next 25 = .ok (.getfield 28, 3) := by decide +kernel
theorem d_St_next_28 : decode b_St_next 28 = .ok (.aload_n 0, 1) := by decide +kernel
theorem d_St_next_29 : decode b_St_next 29 = .ok (.getfield 38, 3) := by decide +kernel
theorem d_St_next_32 : decode b_St_next 32 = .ok (.iconst 1, 1) := by decide +kernel
theorem d_St_next_33 : decode b_St_next 33 = .ok (.isub, 1) := by decide +kernel
theorem d_St_next_34 : decode b_St_next 34 = .ok (.iaload, 1) := by decide +kernel
theorem d_St_next_35 : decode b_St_next 35 = .ok (.invokevirtual 62, 3) := by decide +kernel
theorem d_St_next_38 : decode b_St_next 38 = .ok (.istore_n 1, 1) := by decide +kernel
theorem d_St_next_39 : decode b_St_next 39 = .ok (.aload_n 0, 1) := by decide +kernel
theorem d_St_next_40 : decode b_St_next 40 = .ok (.getfield 28, 3) := by decide +kernel
theorem d_St_next_43 : decode b_St_next 43 = .ok (.aload_n 0, 1) := by decide +kernel
theorem d_St_next_44 : decode b_St_next 44 = .ok (.getfield 38, 3) := by decide +kernel
theorem d_St_next_47 : decode b_St_next 47 = .ok (.iconst 1, 1) := by decide +kernel
theorem d_St_next_48 : decode b_St_next 48 = .ok (.isub, 1) := by decide +kernel
theorem d_St_next_49 : decode b_St_next 49 = .ok (.dup2, 1) := by decide +kernel
theorem d_St_next_50 : decode b_St_next 50 = .ok (.iaload, 1) := by decide +kernel
theorem d_St_next_51 : decode b_St_next 51 = .ok (.iconst 1, 1) := by decide +kernel
theorem d_St_next_52 : decode b_St_next 52 = .ok (.iadd, 1) := by decide +kernel
theorem d_St_next_53 : decode b_St_next 53 = .ok (.iastore, 1) := by decide +kernel
theorem d_St_next_54 : decode b_St_next 54 = .ok (.iload_n 1, 1) := by decide +kernel
theorem d_St_next_55 : decode b_St_next 55 = .ok (.ireturn, 1) := by decide +kernel
abbrev b_St_pass : ByteArray := prog_9_method_9_code
abbrev y_St_pass : MethodName := ⟨"CharOutlines$Strings", "pass", "(I)V"⟩
set_option maxRecDepth 100000 in
theorem cal_St_pass : CalV gd_tbl "CharOutlines$Strings" y_St_pass b_St_pass 2 none 1 := ⟨⟨List.mem_filter.mpr ⟨List.mem_of_getElem? (i := 618) rfl, rfl⟩, List.mem_filter.mpr ⟨List.mem_of_getElem? (i := 63) rfl, rfl⟩, ⟨by decide, by decide⟩, by decide +kernel⟩, List.mem_filter.mpr ⟨List.mem_of_getElem? (i := 616) rfl, rfl⟩, List.mem_filter.mpr ⟨List.mem_of_getElem? (i := 617) rfl, rfl⟩⟩
theorem d_St_pass_0 : decode b_St_pass 0 = .ok (.aload_n 0, 1) := by decide +kernel
theorem d_St_pass_1 : decode b_St_pass 1 = .ok (.getfield 38, 3) := by decide +kernel
theorem d_St_pass_4 : decode b_St_pass 4 = .ok (.ifCond .le 18, 3) := by decide +kernel
theorem d_St_pass_7 : decode b_St_pass 7 = .ok (.aload_n 0, 1) := by decide +kernel
theorem d_St_pass_8 : decode b_St_pass 8 = .ok (.getfield 28, 3) := by decide +kernel
theorem d_St_pass_11 : decode b_St_pass 11 = .ok (.aload_n 0, 1) := by decide +kernel
theorem d_St_pass_12 : decode b_St_pass 12 = .ok (.getfield 38, 3) := by decide +kernel
theorem d_St_pass_15 : decode b_St_pass 15 = .ok (.iconst 1, 1) := by decide +kernel
theorem d_St_pass_16 : decode b_St_pass 16 = .ok (.isub, 1) := by decide +kernel
theorem d_St_pass_17 : decode b_St_pass 17 = .ok (.dup2, 1) := by decide +kernel
theorem d_St_pass_18 : decode b_St_pass 18 = .ok (.iaload, 1) := by decide +kernel
theorem d_St_pass_19 : decode b_St_pass 19 = .ok (.iload_n 1, 1) := by decide +kernel
theorem d_St_pass_20 : decode b_St_pass 20 = .ok (.iadd, 1) := by decide +kernel
theorem d_St_pass_21 : decode b_St_pass 21 = .ok (.iastore, 1) := by decide +kernel
theorem d_St_pass_22 : decode b_St_pass 22 = .ok (.return_, 1) := by decide +kernel
set_option maxRecDepth 100000 in
theorem fl_Ou_15 : (Jvm.Cond.fieldLink "CharOutlines$Outline" (15 : Nat) "CharOutlines$Outline" "marks" "I") ∈ gd_tbl := List.mem_filter.mpr ⟨List.mem_of_getElem? (i := 186) rfl, rfl⟩
set_option maxRecDepth 100000 in
theorem fl_Ou_23 : (Jvm.Cond.fieldLink "CharOutlines$Outline" (23 : Nat) "CharOutlines$Outline" "x" "I") ∈ gd_tbl := List.mem_filter.mpr ⟨List.mem_of_getElem? (i := 187) rfl, rfl⟩
set_option maxRecDepth 100000 in
theorem fl_Ou_26 : (Jvm.Cond.fieldLink "CharOutlines$Outline" (26 : Nat) "CharOutlines$Outline" "y" "I") ∈ gd_tbl := List.mem_filter.mpr ⟨List.mem_of_getElem? (i := 188) rfl, rfl⟩
set_option maxRecDepth 100000 in
theorem fl_St_34 : (Jvm.Cond.fieldLink "CharOutlines$Strings" (34 : Nat) "CharOutlines$Strings" "deepest" "I") ∈ gd_tbl := List.mem_filter.mpr ⟨List.mem_of_getElem? (i := 134) rfl, rfl⟩
set_option maxRecDepth 100000 in
theorem fl_St_38 : (Jvm.Cond.fieldLink "CharOutlines$Strings" (38 : Nat) "CharOutlines$Strings" "depth" "I") ∈ gd_tbl := List.mem_filter.mpr ⟨List.mem_of_getElem? (i := 133) rfl, rfl⟩
set_option maxRecDepth 100000 in
theorem fl_Va_18 : (Jvm.Cond.fieldLink "CharOutlines$Values" (18 : Nat) "CharOutlines$Values" "size" "I") ∈ gd_tbl := List.mem_filter.mpr ⟨List.mem_of_getElem? (i := 161) rfl, rfl⟩
set_option maxRecDepth 100000 in
theorem ml_Ou_29 : (Jvm.Cond.methodLink "CharOutlines$Outline" (29 : Nat) ({ cls := "java/lang/Math", name := "min", desc := "(II)I" } : Jvm.MethodName)) ∈ gd_tbl := List.mem_filter.mpr ⟨List.mem_of_getElem? (i := 542) rfl, rfl⟩
set_option maxRecDepth 100000 in
theorem ml_Ou_35 : (Jvm.Cond.methodLink "CharOutlines$Outline" (35 : Nat) ({ cls := "java/lang/Math", name := "max", desc := "(II)I" } : Jvm.MethodName)) ∈ gd_tbl := List.mem_filter.mpr ⟨List.mem_of_getElem? (i := 543) rfl, rfl⟩
set_option maxRecDepth 100000 in
theorem ml_Ou_38 : (Jvm.Cond.methodLink "CharOutlines$Outline" (38 : Nat) ({ cls := "java/util/Arrays", name := "copyOf", desc := "([II)[I" } : Jvm.MethodName)) ∈ gd_tbl := List.mem_filter.mpr ⟨List.mem_of_getElem? (i := 544) rfl, rfl⟩
set_option maxRecDepth 100000 in
theorem ml_Ou_44 : (Jvm.Cond.methodLink "CharOutlines$Outline" (44 : Nat) ({ cls := "CharOutlines$Outline", name := "add", desc := "(IIIIIII)Z" } : Jvm.MethodName)) ∈ gd_tbl := List.mem_filter.mpr ⟨List.mem_of_getElem? (i := 567) rfl, rfl⟩
set_option maxRecDepth 100000 in
theorem ml_Re_15 : (Jvm.Cond.methodLink "CharOutlines$Reckoning" (15 : Nat) ({ cls := "java/util/Arrays", name := "fill", desc := "([II)V" } : Jvm.MethodName)) ∈ gd_tbl := List.mem_filter.mpr ⟨List.mem_of_getElem? (i := 486) rfl, rfl⟩
set_option maxRecDepth 100000 in
theorem ml_St_41 : (Jvm.Cond.methodLink "CharOutlines$Strings" (41 : Nat) ({ cls := "CharOutlines$Strings", name := "enter", desc := "(II)I" } : Jvm.MethodName)) ∈ gd_tbl := List.mem_filter.mpr ⟨List.mem_of_getElem? (i := 467) rfl, rfl⟩
set_option maxRecDepth 100000 in
theorem ml_St_45 : (Jvm.Cond.methodLink "CharOutlines$Strings" (45 : Nat) ({ cls := "CharOutlines$Strings", name := "shelf", desc := "(I)LCharOutlines$Shelf;" } : Jvm.MethodName)) ∈ gd_tbl := List.mem_filter.mpr ⟨List.mem_of_getElem? (i := 471) rfl, rfl⟩
set_option maxRecDepth 100000 in
theorem ml_St_49 : (Jvm.Cond.methodLink "CharOutlines$Strings" (49 : Nat) ({ cls := "CharOutlines$Shelf", name := "has", desc := "(I)Z" } : Jvm.MethodName)) ∈ gd_tbl := List.mem_filter.mpr ⟨List.mem_of_getElem? (i := 472) rfl, rfl⟩
set_option maxRecDepth 100000 in
theorem ml_St_53 : (Jvm.Cond.methodLink "CharOutlines$Strings" (53 : Nat) ({ cls := "CharOutlines$Shelf", name := "start", desc := "(I)I" } : Jvm.MethodName)) ∈ gd_tbl := List.mem_filter.mpr ⟨List.mem_of_getElem? (i := 473) rfl, rfl⟩
set_option maxRecDepth 100000 in
theorem ml_St_57 : (Jvm.Cond.methodLink "CharOutlines$Strings" (57 : Nat) ({ cls := "java/lang/Math", name := "max", desc := "(II)I" } : Jvm.MethodName)) ∈ gd_tbl := List.mem_filter.mpr ⟨List.mem_of_getElem? (i := 477) rfl, rfl⟩
set_option maxRecDepth 100000 in
theorem ml_St_62 : (Jvm.Cond.methodLink "CharOutlines$Strings" (62 : Nat) ({ cls := "CharOutlines$Shelf", name := "at", desc := "(I)I" } : Jvm.MethodName)) ∈ gd_tbl := List.mem_filter.mpr ⟨List.mem_of_getElem? (i := 505) rfl, rfl⟩
set_option maxRecDepth 100000 in
theorem ml_Va_22 : (Jvm.Cond.methodLink "CharOutlines$Values" (22 : Nat) ({ cls := "CharOutlines$Values", name := "pop", desc := "()I" } : Jvm.MethodName)) ∈ gd_tbl := List.mem_filter.mpr ⟨List.mem_of_getElem? (i := 648) rfl, rfl⟩
set_option maxRecDepth 100000 in
theorem ml_Va_26 : (Jvm.Cond.methodLink "CharOutlines$Values" (26 : Nat) ({ cls := "java/lang/System", name := "arraycopy", desc := "(Ljava/lang/Object;ILjava/lang/Object;II)V" } : Jvm.MethodName)) ∈ gd_tbl := List.mem_filter.mpr ⟨List.mem_of_getElem? (i := 707) rfl, rfl⟩
set_option maxHeartbeats 1000000 in
set_option maxRecDepth 100000 in
theorem c_Va_size (l : Launch) (D : va_G) (cB cI cJ : ClassId) (v va vb n : Nat) : Ro l D classes (TY cB cI cJ) gd_tbl nx_tbl y_Va_size b_Va_size 1 (some .int) ({ frames := 0, cells := 0, slots := 0, locals := 0 }) [.ref v] [(v, .inr (3, [.ref va, .ref vb, .int (nI n)]))] (fun v => v = .int (nI n)) := by
  refine Ro.intro (by decide +kernel) nx_ok (Nat.le_of_ble_eq_true rfl) ?_
  intro p_ e_ s_ m_ args_ below_ meth_ c_ A_ ls hx hb hml hown hts hr hlk hnm hZ hP hD hl
  have hl : lv_has ls 1 [(0, .ref v)] := hl
  refine lv_aload_n hx hb d_Va_size_0 rfl (lv_at hl 0 rfl) ?_
  refine va_get (D := D) (ci := 3) (v := .int (nI n)) (C := R_Va) (T := F_Va) (N := 3) hx hb hts i_Va hown hZ.1 hP 0 rfl rfl 2 (by decide) (hts _ fl_Va_18) (fun _ h9 => h9) rfl d_Va_size_1 ?_
  exact r_iret hx hb hr hlk d_Va_size_4 rfl
set_option maxHeartbeats 1000000 in
set_option maxRecDepth 100000 in
theorem c_Va_clear (l : Launch) (D : va_G) (cB cI cJ : ClassId) (v va vb n : Nat) : Tr l D classes (TY cB cI cJ) gd_tbl nx_tbl y_Va_clear b_Va_clear 1 none ({ frames := 0, cells := 0, slots := 0, locals := 0 }) [.ref v] [(v, .inr (3, [.ref va, .ref vb, .int (nI n)]))] (pV0 (fun w => w = [(v, .inr (3, [.ref va, .ref vb, .int (nI 0)]))])) := by
  refine Tr.intro (by decide +kernel) nx_ok (Nat.le_of_ble_eq_true rfl) ?_
  intro p_ e_ s_ m_ args_ below_ meth_ c_ A_ ls hx hb hml hown hts hr hlk hnm hZ hP hD hS hl
  have hl : lv_has ls 1 [(0, .ref v)] := hl
  refine lv_aload_n hx hb d_Va_clear_0 rfl (lv_at hl 0 rfl) ?_
  refine lv_iconst (v := 0) hx hb d_Va_clear_1 (by decide) ?_
  refine va_put (D := D) (ci := 3) (v := .int 0) (ty := .int) (C := R_Va) (T := F_Va) (N := 3) hx hb hts i_Va t_Va t_Va_ok n_Va hown hZ.1 hP hD hS 0 rfl rfl 2 (by decide) (hts _ fl_Va_18) (fun _ h9 => h9) rfl (by decide +kernel) rfl rfl (Nat.le_of_ble_eq_true rfl) d_Va_clear_2 (fun H locs hP hD hS => ?_)
  have hP : va_P D classes [(v, .inr (3, [.ref va, .ref vb, .int 0]))] H := hP
  have hD : va_D A_ [(v, .inr (3, [.ref va, .ref vb, .int 0]))] := hD
  exact t_vret hx hb hr hlk d_Va_clear_5 hP hD hS ⟨rfl, rfl, rfl, rfl⟩
set_option maxHeartbeats 1000000 in
set_option maxRecDepth 100000 in
theorem c_Va_at (l : Launch) (D : va_G) (cB cI cJ : ClassId) (v va vb n : Nat) (fa : Nat → Int32) (i : Int32) (hn : n ≤ 48) : Ro l D classes (TY cB cI cJ) gd_tbl nx_tbl y_Va_at b_Va_at 2 (some .int) ({ frames := 0, cells := 0, slots := 0, locals := 0 }) [.ref v, .int i] [(v, .inr (3, [.ref va, .ref vb, .int (nI n)])), (va, .inl (cI, 48, .inl fa))] (fun v => v = .int (atV n fa i)) := by
  refine Ro.intro (by decide +kernel) nx_ok (Nat.le_of_ble_eq_true rfl) ?_
  intro p_ e_ s_ m_ args_ below_ meth_ c_ A_ ls hx hb hml hown hts hr hlk hnm hZ hP hD hl
  have hl : lv_has ls 2 [(0, .ref v), (1, .int i)] := hl
  refine lv_iload_n hx hb d_Va_at_0 rfl (lv_at hl 1 rfl) ?_
  refine lv_if_lt (tgt := 21) hx hb d_Va_at_1 (by decide) (fun c_1 => ?_) (fun c_1 => ?_)
  · refine lv_iconst (v := 0) hx hb d_Va_at_21 (by decide) ?_
    exact r_iret hx hb hr hlk d_Va_at_22 (by simp [atV, c_1])
  · refine lv_iload_n hx hb d_Va_at_4 rfl (lv_at hl 1 rfl) ?_
    refine lv_aload_n hx hb d_Va_at_5 rfl (lv_at hl 0 rfl) ?_
    refine va_get (D := D) (ci := 3) (v := .int (nI n)) (C := R_Va) (T := F_Va) (N := 3) hx hb hts i_Va hown hZ.1 hP 0 rfl rfl 2 (by decide) (hts _ fl_Va_18) (fun _ h9 => h9) rfl d_Va_at_6 ?_
    refine lv_icmp_ge (tgt := 21) hx hb d_Va_at_9 (by decide) (fun c_9 => ?_) (fun c_9 => ?_)
    · refine lv_iconst (v := 0) hx hb d_Va_at_21 (by decide) ?_
      exact r_iret hx hb hr hlk d_Va_at_22 (by simp [atV, c_1, c_9])
    · refine lv_aload_n hx hb d_Va_at_12 rfl (lv_at hl 0 rfl) ?_
      refine va_get (D := D) (ci := 3) (v := .ref va) (C := R_Va) (T := F_Va) (N := 3) hx hb hts i_Va hown hZ.1 hP 0 rfl rfl 0 (by decide) (hts _ fl_Va_9) (fun _ h9 => h9) rfl d_Va_at_13 ?_
      refine lv_iload_n hx hb d_Va_at_16 rfl (lv_at hl 1 rfl) ?_
      refine va_iald hx hb hZ.1 hP 1 1 rfl rfl (in_c (n := n) c_1 c_9 (by omega) (by omega)) d_Va_at_17 ?_
      refine lv_goto (tgt := 22) hx hb d_Va_at_18 (by decide) ?_
      exact r_iret hx hb hr hlk d_Va_at_22 (by simp [atV, c_1, c_9])
set_option maxHeartbeats 1000000 in
set_option maxRecDepth 100000 in
theorem c_Va_push (l : Launch) (D : va_G) (cB cI cJ : ClassId) (v va vb : Nat) (n : Nat) (fa : Nat → Int32) (fb : Nat → Int32) (x : Int32) (hiVa : n ≤ 48) : Tr l D classes (TY cB cI cJ) gd_tbl nx_tbl y_Va_push b_Va_push 2 (some .int) ({ frames := 0, cells := 0, slots := 0, locals := 0 }) [.ref v, .int x] [(v, .inr (3, [.ref va, .ref vb, .int (nI n)])), (va, .inl (cI, 48, .inl fa)), (vb, .inl (cI, 48, .inl fb))] (pI0 (fun r w => ∃ (n' : Nat) (fa' : Nat → Int32) (fb' : Nat → Int32), w = [(v, .inr (3, [.ref va, .ref vb, .int (nI n')])), (va, .inl (cI, 48, .inl fa')), (vb, .inl (cI, 48, .inl fb'))] ∧ (n' ≤ 48) ∧ (qR r (vS n' fa') = gP (pushP (vS n fa) x)))) := by
  refine Tr.intro (by decide +kernel) nx_ok (Nat.le_of_ble_eq_true rfl) ?_
  intro p_ e_ s_ m_ args_ below_ meth_ c_ A_ ls hx hb hml hown hts hr hlk hnm hZ hP hD hS hl
  have hl : lv_has ls 2 [(0, .ref v), (1, .int x)] := hl
  refine lv_aload_n hx hb d_Va_push_0 rfl (lv_at hl 0 rfl) ?_
  refine va_get (D := D) (ci := 3) (v := .int (nI n)) (C := R_Va) (T := F_Va) (N := 3) hx hb hts i_Va hown hZ.1 hP 0 rfl rfl 2 (by decide) (hts _ fl_Va_18) (fun _ h9 => h9) rfl d_Va_push_1 ?_
  refine lv_bipush (v := 48) hx hb d_Va_push_4 (by decide) ?_
  refine lv_icmp_lt (tgt := 12) hx hb d_Va_push_6 (by decide) (fun c_6 => ?_) (fun c_6 => ?_)
  · have n_6 : (n) < (48) := (nI_ltI (a := n) (b := 48) (by omega) (by omega)).mp c_6
    refine lv_aload_n hx hb d_Va_push_12 rfl (lv_at hl 0 rfl) ?_
    refine va_get (D := D) (ci := 3) (v := .ref va) (C := R_Va) (T := F_Va) (N := 3) hx hb hts i_Va hown hZ.1 hP 0 rfl rfl 0 (by decide) (hts _ fl_Va_9) (fun _ h9 => h9) rfl d_Va_push_13 ?_
    refine lv_aload_n hx hb d_Va_push_16 rfl (lv_at hl 0 rfl) ?_
    refine va_get (D := D) (ci := 3) (v := .int (nI n)) (C := R_Va) (T := F_Va) (N := 3) hx hb hts i_Va hown hZ.1 hP 0 rfl rfl 2 (by decide) (hts _ fl_Va_18) (fun _ h9 => h9) rfl d_Va_push_17 ?_
    refine lv_iload_n hx hb d_Va_push_20 rfl (lv_at hl 1 rfl) ?_
    refine va_iast hx hb hZ.1 hP hD hS 1 1 rfl rfl (vp_in_nI (by omega) (by omega)) d_Va_push_21 (fun H locs hP hD hS => ?_)
    rw [show ((nI n).toNatClampNeg) = n from nI_clamp (by omega)] at hP hD
    have hP : va_P D classes [(v, .inr (3, [.ref va, .ref vb, .int (nI n)])), (va, .inl (cI, 48, .inl (upd fa n x))), (vb, .inl (cI, 48, .inl fb))] H := hP
    have hD : va_D A_ [(v, .inr (3, [.ref va, .ref vb, .int (nI n)])), (va, .inl (cI, 48, .inl (upd fa n x))), (vb, .inl (cI, 48, .inl fb))] := hD
    refine lv_aload_n hx hb d_Va_push_22 rfl (lv_at hl 0 rfl) ?_
    refine lv_dup hx hb d_Va_push_23 rfl ?_
    refine va_get (D := D) (ci := 3) (v := .int (nI n)) (C := R_Va) (T := F_Va) (N := 3) hx hb hts i_Va hown hZ.1 hP 0 rfl rfl 2 (by decide) (hts _ fl_Va_18) (fun _ h9 => h9) rfl d_Va_push_24 ?_
    refine lv_iconst (v := 1) hx hb d_Va_push_27 (by decide) ?_
    refine lv_iadd hx hb d_Va_push_28 ?_
    refine lv_tv (y := nI (n + 1)) (nI_add n 1) ?_
    refine va_put (D := D) (ci := 3) (v := .int (nI (n + 1))) (ty := .int) (C := R_Va) (T := F_Va) (N := 3) hx hb hts i_Va t_Va t_Va_ok n_Va hown hZ.1 hP hD hS 0 rfl rfl 2 (by decide) (hts _ fl_Va_18) (fun _ h9 => h9) rfl (by decide +kernel) rfl rfl (Nat.le_of_ble_eq_true rfl) d_Va_push_29 (fun H locs hP hD hS => ?_)
    have hP : va_P D classes [(v, .inr (3, [.ref va, .ref vb, .int (nI (n + 1))])), (va, .inl (cI, 48, .inl (upd fa n x))), (vb, .inl (cI, 48, .inl fb))] H := hP
    have hD : va_D A_ [(v, .inr (3, [.ref va, .ref vb, .int (nI (n + 1))])), (va, .inl (cI, 48, .inl (upd fa n x))), (vb, .inl (cI, 48, .inl fb))] := hD
    refine lv_iconst (v := 0) hx hb d_Va_push_32 (by decide) ?_
    exact t_iret hx hb hr hlk d_Va_push_33 (hP.subm (ws' := [(v, .inr (3, [.ref va, .ref vb, .int (nI (n + 1))])), (va, .inl (cI, 48, .inl (upd fa n x))), (vb, .inl (cI, 48, .inl fb))]) [0, 1, 2] rfl) (hD.sub (ws' := [(v, .inr (3, [.ref va, .ref vb, .int (nI (n + 1))])), (va, .inl (cI, 48, .inl (upd fa n x))), (vb, .inl (cI, 48, .inl fb))]) [0, 1, 2] rfl rfl) hS ⟨_, rfl, rfl, rfl, _, _, _, rfl, (by omega), (push_ok n_6)⟩
  · have n_6 : ¬ (n) < (48) := fun z => c_6 ((nI_ltI (a := n) (b := 48) (by omega) (by omega)).mpr z)
    refine lv_bipush (v := (-4)) hx hb d_Va_push_9 (by decide) ?_
    exact t_iret hx hb hr hlk d_Va_push_11 (hP.subm (ws' := [(v, .inr (3, [.ref va, .ref vb, .int (nI n)])), (va, .inl (cI, 48, .inl fa)), (vb, .inl (cI, 48, .inl fb))]) [0, 1, 2] rfl) (hD.sub (ws' := [(v, .inr (3, [.ref va, .ref vb, .int (nI n)])), (va, .inl (cI, 48, .inl fa)), (vb, .inl (cI, 48, .inl fb))]) [0, 1, 2] rfl rfl) hS ⟨_, rfl, rfl, rfl, _, _, _, rfl, (by omega), (push_no n_6)⟩
set_option maxHeartbeats 1000000 in
set_option maxRecDepth 100000 in
theorem c_Va_pop (l : Launch) (D : va_G) (cB cI cJ : ClassId) (v va vb : Nat) (n : Nat) (fa : Nat → Int32) (fb : Nat → Int32)  (hiVa : n ≤ 48) : Tr l D classes (TY cB cI cJ) gd_tbl nx_tbl y_Va_pop b_Va_pop 1 (some .int) ({ frames := 0, cells := 0, slots := 0, locals := 0 }) [.ref v] [(v, .inr (3, [.ref va, .ref vb, .int (nI n)])), (va, .inl (cI, 48, .inl fa)), (vb, .inl (cI, 48, .inl fb))] (pI0 (fun r w => ∃ (n' : Nat) (fa' : Nat → Int32) (fb' : Nat → Int32), w = [(v, .inr (3, [.ref va, .ref vb, .int (nI n')])), (va, .inl (cI, 48, .inl fa')), (vb, .inl (cI, 48, .inl fb'))] ∧ (n' ≤ 48) ∧ (r = topP (vS n fa) ∧ vS n' fa' = popP (vS n fa)))) := by
  refine Tr.intro (by decide +kernel) nx_ok (Nat.le_of_ble_eq_true rfl) ?_
  intro p_ e_ s_ m_ args_ below_ meth_ c_ A_ ls hx hb hml hown hts hr hlk hnm hZ hP hD hS hl
  have hl : lv_has ls 1 [(0, .ref v)] := hl
  refine lv_aload_n hx hb d_Va_pop_0 rfl (lv_at hl 0 rfl) ?_
  refine va_get (D := D) (ci := 3) (v := .int (nI n)) (C := R_Va) (T := F_Va) (N := 3) hx hb hts i_Va hown hZ.1 hP 0 rfl rfl 2 (by decide) (hts _ fl_Va_18) (fun _ h9 => h9) rfl d_Va_pop_1 ?_
  refine lv_if_ne (tgt := 9) hx hb d_Va_pop_4 (by decide) (fun c_4 => ?_) (fun c_4 => ?_)
  · have n_4 : ¬ (n) = (0) := fun z => c_4 ((nI_eq (a := n) (b := 0) (by omega) (by omega)).mpr z)
    refine lv_aload_n hx hb d_Va_pop_9 rfl (lv_at hl 0 rfl) ?_
    refine lv_dup hx hb d_Va_pop_10 rfl ?_
    refine va_get (D := D) (ci := 3) (v := .int (nI n)) (C := R_Va) (T := F_Va) (N := 3) hx hb hts i_Va hown hZ.1 hP 0 rfl rfl 2 (by decide) (hts _ fl_Va_18) (fun _ h9 => h9) rfl d_Va_pop_11 ?_
    refine lv_iconst (v := 1) hx hb d_Va_pop_14 (by decide) ?_
    refine lv_isub hx hb d_Va_pop_15 ?_
    refine lv_tv (y := nI (n - 1)) (pk_sub (a := n) (b := 1) (by omega)) ?_
    refine va_put (D := D) (ci := 3) (v := .int (nI (n - 1))) (ty := .int) (C := R_Va) (T := F_Va) (N := 3) hx hb hts i_Va t_Va t_Va_ok n_Va hown hZ.1 hP hD hS 0 rfl rfl 2 (by decide) (hts _ fl_Va_18) (fun _ h9 => h9) rfl (by decide +kernel) rfl rfl (Nat.le_of_ble_eq_true rfl) d_Va_pop_16 (fun H locs hP hD hS => ?_)
    have hP : va_P D classes [(v, .inr (3, [.ref va, .ref vb, .int (nI (n - 1))])), (va, .inl (cI, 48, .inl fa)), (vb, .inl (cI, 48, .inl fb))] H := hP
    have hD : va_D A_ [(v, .inr (3, [.ref va, .ref vb, .int (nI (n - 1))])), (va, .inl (cI, 48, .inl fa)), (vb, .inl (cI, 48, .inl fb))] := hD
    refine lv_aload_n hx hb d_Va_pop_19 rfl (lv_at hl 0 rfl) ?_
    refine va_get (D := D) (ci := 3) (v := .ref va) (C := R_Va) (T := F_Va) (N := 3) hx hb hts i_Va hown hZ.1 hP 0 rfl rfl 0 (by decide) (hts _ fl_Va_9) (fun _ h9 => h9) rfl d_Va_pop_20 ?_
    refine lv_aload_n hx hb d_Va_pop_23 rfl (lv_at hl 0 rfl) ?_
    refine va_get (D := D) (ci := 3) (v := .int (nI (n - 1))) (C := R_Va) (T := F_Va) (N := 3) hx hb hts i_Va hown hZ.1 hP 0 rfl rfl 2 (by decide) (hts _ fl_Va_18) (fun _ h9 => h9) rfl d_Va_pop_24 ?_
    refine va_iald hx hb hZ.1 hP 1 1 rfl rfl (vp_in_nI (by omega) (by omega)) d_Va_pop_27 ?_
    refine lv_tv (y := fa (n - 1)) (by rw [nI_clamp (by omega)]) ?_
    exact t_iret hx hb hr hlk d_Va_pop_28 (hP.subm (ws' := [(v, .inr (3, [.ref va, .ref vb, .int (nI (n - 1))])), (va, .inl (cI, 48, .inl fa)), (vb, .inl (cI, 48, .inl fb))]) [0, 1, 2] rfl) (hD.sub (ws' := [(v, .inr (3, [.ref va, .ref vb, .int (nI (n - 1))])), (va, .inl (cI, 48, .inl fa)), (vb, .inl (cI, 48, .inl fb))]) [0, 1, 2] rfl rfl) hS ⟨_, rfl, rfl, rfl, _, _, _, rfl, (by omega), (pop_ok n_4)⟩
  · have n_4 : (n) = (0) := (nI_eq (a := n) (b := 0) (by omega) (by omega)).mp c_4
    refine lv_iconst (v := 0) hx hb d_Va_pop_7 (by decide) ?_
    exact t_iret hx hb hr hlk d_Va_pop_8 (hP.subm (ws' := [(v, .inr (3, [.ref va, .ref vb, .int (nI n)])), (va, .inl (cI, 48, .inl fa)), (vb, .inl (cI, 48, .inl fb))]) [0, 1, 2] rfl) (hD.sub (ws' := [(v, .inr (3, [.ref va, .ref vb, .int (nI n)])), (va, .inl (cI, 48, .inl fa)), (vb, .inl (cI, 48, .inl fb))]) [0, 1, 2] rfl rfl) hS ⟨_, rfl, rfl, rfl, _, _, _, rfl, (by omega), (pop_0 n_4)⟩
set_option maxHeartbeats 1000000 in
set_option maxRecDepth 100000 in
theorem c_Va_popWhole (l : Launch) (D : va_G) (cB cI cJ : ClassId) (v va vb : Nat) (n : Nat) (fa : Nat → Int32) (fb : Nat → Int32)  (hiVa : n ≤ 48) : Tr l D classes (TY cB cI cJ) gd_tbl nx_tbl y_Va_popWhole b_Va_popWhole 1 (some .int) ({ frames := 1, cells := 0, slots := 0, locals := 20 }) [.ref v] [(v, .inr (3, [.ref va, .ref vb, .int (nI n)])), (va, .inl (cI, 48, .inl fa)), (vb, .inl (cI, 48, .inl fb))] (pI0 (fun r w => ∃ (n' : Nat) (fa' : Nat → Int32) (fb' : Nat → Int32), w = [(v, .inr (3, [.ref va, .ref vb, .int (nI n')])), (va, .inl (cI, 48, .inl fa')), (vb, .inl (cI, 48, .inl fb'))] ∧ (n' ≤ 48) ∧ (r = shr16 (topP (vS n fa)) ∧ vS n' fa' = popP (vS n fa)))) := by
  refine Tr.intro (by decide +kernel) nx_ok (Nat.le_of_ble_eq_true rfl) ?_
  intro p_ e_ s_ m_ args_ below_ meth_ c_ A_ ls hx hb hml hown hts hr hlk hnm hZ hP hD hS hl
  have hl : lv_has ls 1 [(0, .ref v)] := hl
  refine lv_aload_n hx hb d_Va_popWhole_0 rfl (lv_at hl 0 rfl) ?_
  have hC : Cut [(v, .inr (3, [.ref va, .ref vb, .int (nI n)])), (va, .inl (cI, 48, .inl fa)), (vb, .inl (cI, 48, .inl fb))] [(v, .inr (3, [.ref va, .ref vb, .int (nI n)])), (va, .inl (cI, 48, .inl fa)), (vb, .inl (cI, 48, .inl fb))] [] [0, 1, 2] [] := ⟨rfl, rfl, rfl, rfl, by decide⟩
  refine goI0 (trV (As := []) (rest := []) ⟨hx, hb, hml, hown, hts⟩ gd_good (c_Va_pop l D cB cI cJ v va vb n fa fb (by omega) ) cal_Va_pop ml_Va_22 ⟨Nat.le_of_ble_eq_true rfl, Nat.le_of_ble_eq_true rfl⟩ hZ hP hD hC 0 (ci := 3) rfl rfl rfl rfl hl.1 rfl (Nat.le_of_ble_eq_true rfl) d_Va_popWhole_1 ⟨Nat.le_of_ble_eq_true rfl, Nat.le_of_ble_eq_true rfl⟩) hZ hP hD hS hC (fun r_1 w1 H locs hq hP hD hS => ?_)
  obtain ⟨n_1, fa_1, fb_1, rfl, hv0_1, hx_1⟩ := hq
  have hP : va_P D classes [(v, .inr (3, [.ref va, .ref vb, .int (nI n_1)])), (va, .inl (cI, 48, .inl fa_1)), (vb, .inl (cI, 48, .inl fb_1))] H := hP
  have hD : va_D A_ [(v, .inr (3, [.ref va, .ref vb, .int (nI n_1)])), (va, .inl (cI, 48, .inl fa_1)), (vb, .inl (cI, 48, .inl fb_1))] := hD
  refine lv_bipush (v := 16) hx hb d_Va_popWhole_4 (by decide) ?_
  refine lv_ishr hx hb d_Va_popWhole_6 ?_
  exact t_iret hx hb hr hlk d_Va_popWhole_7 (hP.subm (ws' := [(v, .inr (3, [.ref va, .ref vb, .int (nI n_1)])), (va, .inl (cI, 48, .inl fa_1)), (vb, .inl (cI, 48, .inl fb_1))]) [0, 1, 2] rfl) (hD.sub (ws' := [(v, .inr (3, [.ref va, .ref vb, .int (nI n_1)])), (va, .inl (cI, 48, .inl fa_1)), (vb, .inl (cI, 48, .inl fb_1))]) [0, 1, 2] rfl rfl) hS ⟨_, rfl, rfl, rfl, _, _, _, rfl, (by omega), ⟨by rw [hx_1.1]; rfl, hx_1.2⟩⟩
set_option maxHeartbeats 1000000 in
set_option maxRecDepth 100000 in
theorem c_Va_turn (l : Launch) (D : va_G) (cB cI cJ : ClassId) (v va vb : Nat) (n : Nat) (fa : Nat → Int32) (fb : Nat → Int32) (j : Nat) (b : Nat) (hiVa : n ≤ 48) (hj1 : 1 ≤ j) (hjn : j ≤ n) (hbj : b < j) : Tr l D classes (TY cB cI cJ) gd_tbl nx_tbl y_Va_turn b_Va_turn 4 none ({ frames := 1, cells := 0, slots := 0, locals := 18 }) [.ref v, .int (nI j), .int (nI b)] [(v, .inr (3, [.ref va, .ref vb, .int (nI n)])), (va, .inl (cI, 48, .inl fa)), (vb, .inl (cI, 48, .inl fb))] (pV0 (fun w => ∃ (n' : Nat) (fa' : Nat → Int32) (fb' : Nat → Int32), w = [(v, .inr (3, [.ref va, .ref vb, .int (nI n')])), (va, .inl (cI, 48, .inl fa')), (vb, .inl (cI, 48, .inl fb'))] ∧ (n' ≤ 48) ∧ (vS n' fa' = turnP (vS n fa) j b))) := by
  refine Tr.intro (by decide +kernel) nx_ok (Nat.le_of_ble_eq_true rfl) ?_
  intro p_ e_ s_ m_ args_ below_ meth_ c_ A_ ls hx hb hml hown hts hr hlk hnm hZ hP hD hS hl
  have hl : lv_has ls 4 [(0, .ref v), (1, .int (nI j)), (2, .int (nI b))] := hl
  refine lv_iload_n hx hb d_Va_turn_0 rfl (lv_at hl 1 rfl) ?_
  refine lv_iconst (v := 1) hx hb d_Va_turn_1 (by decide) ?_
  refine lv_icmp_lt (tgt := 22) hx hb d_Va_turn_2 (by decide) (fun c_2 => absurd c_2 (fun z => by have := (nI_ltI (a := j) (b := 1) (by omega) (by omega)).mp z; omega)) (fun c_2 => ?_)
  refine lv_iload_n hx hb d_Va_turn_5 rfl (lv_at hl 1 rfl) ?_
  refine lv_aload_n hx hb d_Va_turn_6 rfl (lv_at hl 0 rfl) ?_
  refine va_get (D := D) (ci := 3) (v := .int (nI n)) (C := R_Va) (T := F_Va) (N := 3) hx hb hts i_Va hown hZ.1 hP 0 rfl rfl 2 (by decide) (hts _ fl_Va_18) (fun _ h9 => h9) rfl d_Va_turn_7 ?_
  refine lv_icmp_gt (tgt := 22) hx hb d_Va_turn_10 (by decide) (fun c_10 => absurd c_10 (fun z => by have := (nI_ltI (a := n) (b := j) (by omega) (by omega)).mp z; omega)) (fun c_10 => ?_)
  refine lv_iload_n hx hb d_Va_turn_13 rfl (lv_at hl 2 rfl) ?_
  refine lv_if_lt (tgt := 22) hx hb d_Va_turn_14 (by decide) (fun c_14 => absurd c_14 (nI_pos (by omega))) (fun c_14 => ?_)
  refine lv_iload_n hx hb d_Va_turn_17 rfl (lv_at hl 2 rfl) ?_
  refine lv_iload_n hx hb d_Va_turn_18 rfl (lv_at hl 1 rfl) ?_
  refine lv_icmp_lt (tgt := 23) hx hb d_Va_turn_19 (by decide) (fun c_19 => ?_) (fun c_19 => absurd (nI_lt hbj (by omega)) c_19)
  refine lv_aload_n hx hb d_Va_turn_23 rfl (lv_at hl 0 rfl) ?_
  refine va_get (D := D) (ci := 3) (v := .int (nI n)) (C := R_Va) (T := F_Va) (N := 3) hx hb hts i_Va hown hZ.1 hP 0 rfl rfl 2 (by decide) (hts _ fl_Va_18) (fun _ h9 => h9) rfl d_Va_turn_24 ?_
  refine lv_iload_n hx hb d_Va_turn_27 rfl (lv_at hl 1 rfl) ?_
  refine lv_isub hx hb d_Va_turn_28 ?_
  refine lv_tv (y := nI (n - j)) (pk_sub (a := n) (b := j) (by omega)) ?_
  refine lv_istore_n (lv' := [(3, .int (nI (n - j))), (0, .ref v), (1, .int (nI j)), (2, .int (nI b))]) hx hb d_Va_turn_29 rfl hl (by decide) rfl (fun ls hl => ?_)
  refine lv_aload_n hx hb d_Va_turn_30 rfl (lv_at hl 1 rfl) ?_
  refine va_get (D := D) (ci := 3) (v := .ref va) (C := R_Va) (T := F_Va) (N := 3) hx hb hts i_Va hown hZ.1 hP 0 rfl rfl 0 (by decide) (hts _ fl_Va_9) (fun _ h9 => h9) rfl d_Va_turn_31 ?_
  refine lv_aload_n hx hb d_Va_turn_34 rfl (lv_at hl 1 rfl) ?_
  refine va_get (D := D) (ci := 3) (v := .int (nI n)) (C := R_Va) (T := F_Va) (N := 3) hx hb hts i_Va hown hZ.1 hP 0 rfl rfl 2 (by decide) (hts _ fl_Va_18) (fun _ h9 => h9) rfl d_Va_turn_35 ?_
  refine lv_iload_n hx hb d_Va_turn_38 rfl (lv_at hl 3 rfl) ?_
  refine lv_isub hx hb d_Va_turn_39 ?_
  refine lv_tv (y := nI (n - b)) (pk_sub (a := n) (b := b) (by omega)) ?_
  refine lv_aload_n hx hb d_Va_turn_40 rfl (lv_at hl 1 rfl) ?_
  refine va_get (D := D) (ci := 3) (v := .ref vb) (C := R_Va) (T := F_Va) (N := 3) hx hb hts i_Va hown hZ.1 hP 0 rfl rfl 1 (by decide) (hts _ fl_Va_15) (fun _ h9 => h9) rfl d_Va_turn_41 ?_
  refine lv_iconst (v := 0) hx hb d_Va_turn_44 (by decide) ?_
  refine lv_iload_n hx hb d_Va_turn_45 rfl (lv_at hl 3 rfl) ?_
  refine va_copyi hx hb (by rw [hml]; exact hl.1.symm) hown (hts _ ml_Va_26) (hts _ sy_native) (hts _ sy_static) (hts _ sy_initialized) hZ.1 hP hD hS 1 2 1 1 rfl rfl rfl rfl rfl (nI_pos (by omega)) (by decide) (nI_pos (by omega)) (by rw [show (nI (n - b)).toNatClampNeg = n - b from nI_clamp (by omega), show (nI b).toNatClampNeg = b from nI_clamp (by omega)]; show (n - b) + b ≤ _; omega) (by rw [show (nI b).toNatClampNeg = b from nI_clamp (by omega)]; show 0 + b ≤ _; omega) (fun i _ => rfl) (Nat.le_of_ble_eq_true rfl) (Nat.le_of_ble_eq_true rfl) d_Va_turn_46 (fun H locs hP hD hS => ?_)
  rw [show (nI (n - b)).toNatClampNeg = n - b from nI_clamp (by omega), show (nI b).toNatClampNeg = b from nI_clamp (by omega)] at hP hD
  have hP : va_P D classes [(v, .inr (3, [.ref va, .ref vb, .int (nI n)])), (va, .inl (cI, 48, .inl fa)), (vb, .inl (cI, 48, .inl (va_cpy fa fb (n - b) 0 b)))] H := hP
  have hD : va_D A_ [(v, .inr (3, [.ref va, .ref vb, .int (nI n)])), (va, .inl (cI, 48, .inl fa)), (vb, .inl (cI, 48, .inl (va_cpy fa fb (n - b) 0 b)))] := hD
  refine lv_aload_n hx hb d_Va_turn_49 rfl (lv_at hl 1 rfl) ?_
  refine va_get (D := D) (ci := 3) (v := .ref va) (C := R_Va) (T := F_Va) (N := 3) hx hb hts i_Va hown hZ.1 hP 0 rfl rfl 0 (by decide) (hts _ fl_Va_9) (fun _ h9 => h9) rfl d_Va_turn_50 ?_
  refine lv_iload_n hx hb d_Va_turn_53 rfl (lv_at hl 0 rfl) ?_
  refine lv_aload_n hx hb d_Va_turn_54 rfl (lv_at hl 1 rfl) ?_
  refine va_get (D := D) (ci := 3) (v := .ref vb) (C := R_Va) (T := F_Va) (N := 3) hx hb hts i_Va hown hZ.1 hP 0 rfl rfl 1 (by decide) (hts _ fl_Va_15) (fun _ h9 => h9) rfl d_Va_turn_55 ?_
  refine lv_iload_n hx hb d_Va_turn_58 rfl (lv_at hl 3 rfl) ?_
  refine lv_iload_n hx hb d_Va_turn_59 rfl (lv_at hl 2 rfl) ?_
  refine lv_iload_n hx hb d_Va_turn_60 rfl (lv_at hl 3 rfl) ?_
  refine lv_isub hx hb d_Va_turn_61 ?_
  refine lv_tv (y := nI (j - b)) (pk_sub (a := j) (b := b) (by omega)) ?_
  refine va_copyi hx hb (by rw [hml]; exact hl.1.symm) hown (hts _ ml_Va_26) (hts _ sy_native) (hts _ sy_static) (hts _ sy_initialized) hZ.1 hP hD hS 1 2 1 1 rfl rfl rfl rfl rfl (nI_pos (by omega)) (nI_pos (by omega)) (nI_pos (by omega)) (by rw [show (nI (n - j)).toNatClampNeg = n - j from nI_clamp (by omega), show (nI (j - b)).toNatClampNeg = j - b from nI_clamp (by omega)]; show (n - j) + (j - b) ≤ _; omega) (by rw [show (nI b).toNatClampNeg = b from nI_clamp (by omega), show (nI (j - b)).toNatClampNeg = j - b from nI_clamp (by omega)]; show b + (j - b) ≤ _; omega) (fun i _ => rfl) (Nat.le_of_ble_eq_true rfl) (Nat.le_of_ble_eq_true rfl) d_Va_turn_62 (fun H locs hP hD hS => ?_)
  rw [show (nI (n - j)).toNatClampNeg = n - j from nI_clamp (by omega), show (nI b).toNatClampNeg = b from nI_clamp (by omega), show (nI (j - b)).toNatClampNeg = j - b from nI_clamp (by omega)] at hP hD
  have hP : va_P D classes [(v, .inr (3, [.ref va, .ref vb, .int (nI n)])), (va, .inl (cI, 48, .inl fa)), (vb, .inl (cI, 48, .inl (va_cpy fa (va_cpy fa fb (n - b) 0 b) (n - j) b (j - b))))] H := hP
  have hD : va_D A_ [(v, .inr (3, [.ref va, .ref vb, .int (nI n)])), (va, .inl (cI, 48, .inl fa)), (vb, .inl (cI, 48, .inl (va_cpy fa (va_cpy fa fb (n - b) 0 b) (n - j) b (j - b))))] := hD
  refine lv_aload_n hx hb d_Va_turn_65 rfl (lv_at hl 1 rfl) ?_
  refine va_get (D := D) (ci := 3) (v := .ref vb) (C := R_Va) (T := F_Va) (N := 3) hx hb hts i_Va hown hZ.1 hP 0 rfl rfl 1 (by decide) (hts _ fl_Va_15) (fun _ h9 => h9) rfl d_Va_turn_66 ?_
  refine lv_iconst (v := 0) hx hb d_Va_turn_69 (by decide) ?_
  refine lv_aload_n hx hb d_Va_turn_70 rfl (lv_at hl 1 rfl) ?_
  refine va_get (D := D) (ci := 3) (v := .ref va) (C := R_Va) (T := F_Va) (N := 3) hx hb hts i_Va hown hZ.1 hP 0 rfl rfl 0 (by decide) (hts _ fl_Va_9) (fun _ h9 => h9) rfl d_Va_turn_71 ?_
  refine lv_iload_n hx hb d_Va_turn_74 rfl (lv_at hl 0 rfl) ?_
  refine lv_iload_n hx hb d_Va_turn_75 rfl (lv_at hl 2 rfl) ?_
  refine va_copyi hx hb (by rw [hml]; exact hl.1.symm) hown (hts _ ml_Va_26) (hts _ sy_native) (hts _ sy_static) (hts _ sy_initialized) hZ.1 hP hD hS 2 1 1 1 rfl rfl rfl rfl rfl (by decide) (nI_pos (by omega)) (nI_pos (by omega)) (by rw [show (nI j).toNatClampNeg = j from nI_clamp (by omega)]; show 0 + j ≤ _; omega) (by rw [show (nI (n - j)).toNatClampNeg = n - j from nI_clamp (by omega), show (nI j).toNatClampNeg = j from nI_clamp (by omega)]; show (n - j) + j ≤ _; omega) (fun i _ => rfl) (Nat.le_of_ble_eq_true rfl) (Nat.le_of_ble_eq_true rfl) d_Va_turn_76 (fun H locs hP hD hS => ?_)
  rw [show (nI (n - j)).toNatClampNeg = n - j from nI_clamp (by omega), show (nI j).toNatClampNeg = j from nI_clamp (by omega)] at hP hD
  have hP : va_P D classes [(v, .inr (3, [.ref va, .ref vb, .int (nI n)])), (va, .inl (cI, 48, .inl (va_cpy (va_cpy fa (va_cpy fa fb (n - b) 0 b) (n - j) b (j - b)) fa 0 (n - j) j))), (vb, .inl (cI, 48, .inl (va_cpy fa (va_cpy fa fb (n - b) 0 b) (n - j) b (j - b))))] H := hP
  have hD : va_D A_ [(v, .inr (3, [.ref va, .ref vb, .int (nI n)])), (va, .inl (cI, 48, .inl (va_cpy (va_cpy fa (va_cpy fa fb (n - b) 0 b) (n - j) b (j - b)) fa 0 (n - j) j))), (vb, .inl (cI, 48, .inl (va_cpy fa (va_cpy fa fb (n - b) 0 b) (n - j) b (j - b))))] := hD
  exact t_vret hx hb hr hlk d_Va_turn_79 (hP.subm (ws' := [(v, .inr (3, [.ref va, .ref vb, .int (nI n)])), (va, .inl (cI, 48, .inl (va_cpy (va_cpy fa (va_cpy fa fb (n - b) 0 b) (n - j) b (j - b)) fa 0 (n - j) j))), (vb, .inl (cI, 48, .inl (va_cpy fa (va_cpy fa fb (n - b) 0 b) (n - j) b (j - b))))]) [0, 1, 2] rfl) (hD.sub (ws' := [(v, .inr (3, [.ref va, .ref vb, .int (nI n)])), (va, .inl (cI, 48, .inl (va_cpy (va_cpy fa (va_cpy fa fb (n - b) 0 b) (n - j) b (j - b)) fa 0 (n - j) j))), (vb, .inl (cI, 48, .inl (va_cpy fa (va_cpy fa fb (n - b) 0 b) (n - j) b (j - b))))]) [0, 1, 2] rfl rfl) hS ⟨rfl, rfl, rfl, _, _, _, rfl, (by omega), (by rw [turn_roll (by omega) (by omega)]; show (n, trunc n _) = (n, _); rw [trunc_roll (by omega) (by omega)]; rfl)⟩
set_option maxHeartbeats 1000000 in
set_option maxRecDepth 100000 in
theorem c_Ou_marks (l : Launch) (D : va_G) (cB cI cJ : ClassId) (u ra m : Nat) (x y : Int32) : Ro l D classes (TY cB cI cJ) gd_tbl nx_tbl y_Ou_marks b_Ou_marks 1 (some .int) ({ frames := 0, cells := 0, slots := 0, locals := 0 }) [.ref u] [(u, .inr (4, [.ref ra, .int (nI m), .int x, .int y]))] (fun v => v = .int (nI m)) := by
  refine Ro.intro (by decide +kernel) nx_ok (Nat.le_of_ble_eq_true rfl) ?_
  intro p_ e_ s_ m_ args_ below_ meth_ c_ A_ ls hx hb hml hown hts hr hlk hnm hZ hP hD hl
  have hl : lv_has ls 1 [(0, .ref u)] := hl
  refine lv_aload_n hx hb d_Ou_marks_0 rfl (lv_at hl 0 rfl) ?_
  refine va_get (D := D) (ci := 4) (v := .int (nI m)) (C := R_Ou) (T := F_Ou) (N := 4) hx hb hts i_Ou hown hZ.1 hP 0 rfl rfl 1 (by decide) (hts _ fl_Ou_15) (fun _ h9 => h9) rfl d_Ou_marks_1 ?_
  exact r_iret hx hb hr hlk d_Ou_marks_4 rfl
set_option maxHeartbeats 1000000 in
set_option maxRecDepth 100000 in
theorem c_Ou_has (l : Launch) (D : va_G) (cB cI cJ : ClassId) (u ra m : Nat) (x y : Int32) (i w : Int32) : Ro l D classes (TY cB cI cJ) gd_tbl nx_tbl y_Ou_has b_Ou_has 3 (some .boolean) ({ frames := 0, cells := 0, slots := 0, locals := 0 }) [.ref u, .int i, .int w] [(u, .inr (4, [.ref ra, .int (nI m), .int x, .int y]))] (fun v => v = .int (hasO m i w)) := by
  refine Ro.intro (by decide +kernel) nx_ok (Nat.le_of_ble_eq_true rfl) ?_
  intro p_ e_ s_ m_ args_ below_ meth_ c_ A_ ls hx hb hml hown hts hr hlk hnm hZ hP hD hl
  have hl : lv_has ls 3 [(0, .ref u), (1, .int i), (2, .int w)] := hl
  refine lv_iload_n hx hb d_Ou_has_0 rfl (lv_at hl 1 rfl) ?_
  refine lv_if_lt (tgt := 26) hx hb d_Ou_has_1 (by decide) (fun c_1 => ?_) (fun c_1 => ?_)
  · refine lv_iconst (v := 0) hx hb d_Ou_has_26 (by decide) ?_
    exact r_zret hx hb hr hlk (by decide) d_Ou_has_27 (by simp [hasO, c_1])
  · refine lv_iload_n hx hb d_Ou_has_4 rfl (lv_at hl 1 rfl) ?_
    refine lv_aload_n hx hb d_Ou_has_5 rfl (lv_at hl 0 rfl) ?_
    refine va_get (D := D) (ci := 4) (v := .int (nI m)) (C := R_Ou) (T := F_Ou) (N := 4) hx hb hts i_Ou hown hZ.1 hP 0 rfl rfl 1 (by decide) (hts _ fl_Ou_15) (fun _ h9 => h9) rfl d_Ou_has_6 ?_
    refine lv_icmp_ge (tgt := 26) hx hb d_Ou_has_9 (by decide) (fun c_9 => ?_) (fun c_9 => ?_)
    · refine lv_iconst (v := 0) hx hb d_Ou_has_26 (by decide) ?_
      exact r_zret hx hb hr hlk (by decide) d_Ou_has_27 (by simp [hasO, c_1, c_9])
    · refine lv_iload_n hx hb d_Ou_has_12 rfl (lv_at hl 2 rfl) ?_
      refine lv_if_lt (tgt := 26) hx hb d_Ou_has_13 (by decide) (fun c_13 => ?_) (fun c_13 => ?_)
      · refine lv_iconst (v := 0) hx hb d_Ou_has_26 (by decide) ?_
        exact r_zret hx hb hr hlk (by decide) d_Ou_has_27 (by simp [hasO, c_1, c_9, c_13])
      · refine lv_iload_n hx hb d_Ou_has_16 rfl (lv_at hl 2 rfl) ?_
        refine lv_bipush (v := 7) hx hb d_Ou_has_17 (by decide) ?_
        refine lv_icmp_ge (tgt := 26) hx hb d_Ou_has_19 (by decide) (fun c_19 => ?_) (fun c_19 => ?_)
        · refine lv_iconst (v := 0) hx hb d_Ou_has_26 (by decide) ?_
          exact r_zret hx hb hr hlk (by decide) d_Ou_has_27 (by simp [hasO, c_1, c_9, c_13, c_19])
        · refine lv_iconst (v := 1) hx hb d_Ou_has_22 (by decide) ?_
          refine lv_goto (tgt := 27) hx hb d_Ou_has_23 (by decide) ?_
          exact r_zret hx hb hr hlk (by decide) d_Ou_has_27 (by simp [hasO, c_1, c_9, c_13, c_19])
set_option maxHeartbeats 1000000 in
set_option maxRecDepth 100000 in
theorem c_Ou_clear (l : Launch) (D : va_G) (cB cI cJ : ClassId) (u ra m : Nat) (x y : Int32) : Tr l D classes (TY cB cI cJ) gd_tbl nx_tbl y_Ou_clear b_Ou_clear 1 none ({ frames := 0, cells := 0, slots := 0, locals := 0 }) [.ref u] [(u, .inr (4, [.ref ra, .int (nI m), .int x, .int y]))] (pV0 (fun w => w = [(u, .inr (4, [.ref ra, .int (nI 0), .int 0, .int 0]))])) := by
  refine Tr.intro (by decide +kernel) nx_ok (Nat.le_of_ble_eq_true rfl) ?_
  intro p_ e_ s_ m_ args_ below_ meth_ c_ A_ ls hx hb hml hown hts hr hlk hnm hZ hP hD hS hl
  have hl : lv_has ls 1 [(0, .ref u)] := hl
  refine lv_aload_n hx hb d_Ou_clear_0 rfl (lv_at hl 0 rfl) ?_
  refine lv_iconst (v := 0) hx hb d_Ou_clear_1 (by decide) ?_
  refine va_put (D := D) (ci := 4) (v := .int 0) (ty := .int) (C := R_Ou) (T := F_Ou) (N := 4) hx hb hts i_Ou t_Ou t_Ou_ok n_Ou hown hZ.1 hP hD hS 0 rfl rfl 1 (by decide) (hts _ fl_Ou_15) (fun _ h9 => h9) rfl (by decide +kernel) rfl rfl (Nat.le_of_ble_eq_true rfl) d_Ou_clear_2 (fun H locs hP hD hS => ?_)
  have hP : va_P D classes [(u, .inr (4, [.ref ra, .int 0, .int x, .int y]))] H := hP
  have hD : va_D A_ [(u, .inr (4, [.ref ra, .int 0, .int x, .int y]))] := hD
  refine lv_aload_n hx hb d_Ou_clear_5 rfl (lv_at hl 0 rfl) ?_
  refine lv_iconst (v := 0) hx hb d_Ou_clear_6 (by decide) ?_
  refine va_put (D := D) (ci := 4) (v := .int 0) (ty := .int) (C := R_Ou) (T := F_Ou) (N := 4) hx hb hts i_Ou t_Ou t_Ou_ok n_Ou hown hZ.1 hP hD hS 0 rfl rfl 2 (by decide) (hts _ fl_Ou_23) (fun _ h9 => h9) rfl (by decide +kernel) rfl rfl (Nat.le_of_ble_eq_true rfl) d_Ou_clear_7 (fun H locs hP hD hS => ?_)
  have hP : va_P D classes [(u, .inr (4, [.ref ra, .int 0, .int 0, .int y]))] H := hP
  have hD : va_D A_ [(u, .inr (4, [.ref ra, .int 0, .int 0, .int y]))] := hD
  refine lv_aload_n hx hb d_Ou_clear_10 rfl (lv_at hl 0 rfl) ?_
  refine lv_iconst (v := 0) hx hb d_Ou_clear_11 (by decide) ?_
  refine va_put (D := D) (ci := 4) (v := .int 0) (ty := .int) (C := R_Ou) (T := F_Ou) (N := 4) hx hb hts i_Ou t_Ou t_Ou_ok n_Ou hown hZ.1 hP hD hS 0 rfl rfl 3 (by decide) (hts _ fl_Ou_26) (fun _ h9 => h9) rfl (by decide +kernel) rfl rfl (Nat.le_of_ble_eq_true rfl) d_Ou_clear_12 (fun H locs hP hD hS => ?_)
  have hP : va_P D classes [(u, .inr (4, [.ref ra, .int 0, .int 0, .int 0]))] H := hP
  have hD : va_D A_ [(u, .inr (4, [.ref ra, .int 0, .int 0, .int 0]))] := hD
  exact t_vret hx hb hr hlk d_Ou_clear_15 hP hD hS ⟨rfl, rfl, rfl, rfl⟩
set_option maxHeartbeats 1000000 in
set_option maxRecDepth 100000 in
theorem c_Ou_add (l : Launch) (D : va_G) (cB cI cJ : ClassId) (u ra oc : Nat) (m : Nat) (x : Int32) (y : Int32) (fo : Nat → Int32) (t1 : Int32) (t2 : Int32) (t3 : Int32) (t4 : Int32) (t5 : Int32) (t6 : Int32) (t7 : Int32) (hiOu : m ≤ 4000 ∧ 7 * m ≤ oc ∧ 336 ≤ oc ∧ oc ≤ 28000) (hrm : m < 4000 → 7 * m + 7 ≤ oc) : Tr l D classes (TY cB cI cJ) gd_tbl nx_tbl y_Ou_add b_Ou_add 9 (some .boolean) ({ frames := 0, cells := 0, slots := 0, locals := 0 }) [.ref u, .int t1, .int t2, .int t3, .int t4, .int t5, .int t6, .int t7] [(u, .inr (4, [.ref ra, .int (nI m), .int x, .int y])), (ra, .inl (cI, oc, .inl fo))] (pI0 (fun r w => ∃ (m' : Nat) (x' : Int32) (y' : Int32) (fo' : Nat → Int32), w = [(u, .inr (4, [.ref ra, .int (nI m'), .int x', .int y'])), (ra, .inl (cI, oc, .inl fo'))] ∧ (m' ≤ 4000 ∧ 7 * m' ≤ oc ∧ 336 ≤ oc ∧ oc ≤ 28000) ∧ (zR r (uS m' x' y' fo') = addP (uS m x y fo) t1 t2 t3 t4 t5 t6 t7 ∧ m' ≤ m + 1) ∧ (r = 0 ∨ r = 1))) := by
  refine Tr.intro (by decide +kernel) nx_ok (Nat.le_of_ble_eq_true rfl) ?_
  intro p_ e_ s_ m_ args_ below_ meth_ c_ A_ ls hx hb hml hown hts hr hlk hnm hZ hP hD hS hl
  have hl : lv_has ls 9 [(0, .ref u), (1, .int t1), (2, .int t2), (3, .int t3), (4, .int t4), (5, .int t5), (6, .int t6), (7, .int t7)] := hl
  refine lv_aload_n hx hb d_Ou_add_0 rfl (lv_at hl 0 rfl) ?_
  refine va_get (D := D) (ci := 4) (v := .int (nI m)) (C := R_Ou) (T := F_Ou) (N := 4) hx hb hts i_Ou hown hZ.1 hP 0 rfl rfl 1 (by decide) (hts _ fl_Ou_15) (fun _ h9 => h9) rfl d_Ou_add_1 ?_
  refine lv_bipush (v := 7) hx hb d_Ou_add_4 (by decide) ?_
  refine lv_imul hx hb d_Ou_add_6 ?_
  refine lv_tv (y := nI (m * 7)) (pk_mul m 7) ?_
  refine lv_istore (lv' := [(8, .int (nI (m * 7))), (0, .ref u), (1, .int t1), (2, .int t2), (3, .int t3), (4, .int t4), (5, .int t5), (6, .int t6), (7, .int t7)]) hx hb d_Ou_add_7 hl (by decide) rfl (fun ls hl => ?_)
  refine lv_aload_n hx hb d_Ou_add_9 rfl (lv_at hl 1 rfl) ?_
  refine va_get (D := D) (ci := 4) (v := .int (nI m)) (C := R_Ou) (T := F_Ou) (N := 4) hx hb hts i_Ou hown hZ.1 hP 0 rfl rfl 1 (by decide) (hts _ fl_Ou_15) (fun _ h9 => h9) rfl d_Ou_add_10 ?_
  refine lv_sipush (v := 4000) hx hb d_Ou_add_13 (by decide) ?_
  refine lv_icmp_ge (tgt := 32) hx hb d_Ou_add_16 (by decide) (fun c_16 => ?_) (fun c_16 => ?_)
  · have n_16 : (4000) ≤ (m) := (nI_leI (a := 4000) (b := m) (by omega) (by omega)).mp c_16
    refine lv_iconst (v := 0) hx hb d_Ou_add_32 (by decide) ?_
    exact t_zret hx hb hr hlk (by first | decide | exact nar01 (by assumption)) d_Ou_add_33 (hP.subm (ws' := [(u, .inr (4, [.ref ra, .int (nI m), .int x, .int y])), (ra, .inl (cI, oc, .inl fo))]) [0, 1] rfl) (hD.sub (ws' := [(u, .inr (4, [.ref ra, .int (nI m), .int x, .int y])), (ra, .inl (cI, oc, .inl fo))]) [0, 1] rfl rfl) hS ⟨_, rfl, rfl, rfl, _, _, _, _, rfl, (by omega), ⟨add_no (by omega), by omega⟩, (by first | decide | assumption)⟩
  · have n_16 : ¬ (4000) ≤ (m) := fun z => c_16 ((nI_leI (a := 4000) (b := m) (by omega) (by omega)).mpr z)
    refine lv_iload hx hb d_Ou_add_19 (lv_at hl 0 rfl) ?_
    refine lv_bipush (v := 7) hx hb d_Ou_add_21 (by decide) ?_
    refine lv_iadd hx hb d_Ou_add_23 ?_
    refine lv_tv (y := nI (m * 7 + 7)) (nI_add (m * 7) 7) ?_
    refine lv_aload_n hx hb d_Ou_add_24 rfl (lv_at hl 1 rfl) ?_
    refine va_get (D := D) (ci := 4) (v := .ref ra) (C := R_Ou) (T := F_Ou) (N := 4) hx hb hts i_Ou hown hZ.1 hP 0 rfl rfl 0 (by decide) (hts _ fl_Ou_11) (fun _ h9 => h9) rfl d_Ou_add_25 ?_
    refine va_alen (v := nI oc) hx hb hZ.1 hP 1 1 rfl rfl rfl d_Ou_add_28 ?_
    refine lv_icmp_le (tgt := 34) hx hb d_Ou_add_29 (by decide) (fun c_29 => ?_) (fun c_29 => ?_)
    · have n_29 : (m * 7 + 7) ≤ (oc) := (nI_leI (a := m * 7 + 7) (b := oc) (by omega) (by omega)).mp c_29
      refine lv_aload_n hx hb d_Ou_add_34 rfl (lv_at hl 1 rfl) ?_
      refine va_get (D := D) (ci := 4) (v := .ref ra) (C := R_Ou) (T := F_Ou) (N := 4) hx hb hts i_Ou hown hZ.1 hP 0 rfl rfl 0 (by decide) (hts _ fl_Ou_11) (fun _ h9 => h9) rfl d_Ou_add_35 ?_
      refine lv_iload hx hb d_Ou_add_38 (lv_at hl 0 rfl) ?_
      refine lv_iload_n hx hb d_Ou_add_40 rfl (lv_at hl 2 rfl) ?_
      refine va_iast hx hb hZ.1 hP hD hS 1 1 rfl rfl (vp_in_nI (by omega) (by omega)) d_Ou_add_41 (fun H locs hP hD hS => ?_)
      rw [show ((nI (m * 7)).toNatClampNeg) = m * 7 from nI_clamp (by omega)] at hP hD
      have hP : va_P D classes [(u, .inr (4, [.ref ra, .int (nI m), .int x, .int y])), (ra, .inl (cI, oc, .inl (upd fo (m * 7) t1)))] H := hP
      have hD : va_D A_ [(u, .inr (4, [.ref ra, .int (nI m), .int x, .int y])), (ra, .inl (cI, oc, .inl (upd fo (m * 7) t1)))] := hD
      refine lv_aload_n hx hb d_Ou_add_42 rfl (lv_at hl 1 rfl) ?_
      refine va_get (D := D) (ci := 4) (v := .ref ra) (C := R_Ou) (T := F_Ou) (N := 4) hx hb hts i_Ou hown hZ.1 hP 0 rfl rfl 0 (by decide) (hts _ fl_Ou_11) (fun _ h9 => h9) rfl d_Ou_add_43 ?_
      refine lv_iload hx hb d_Ou_add_46 (lv_at hl 0 rfl) ?_
      refine lv_iconst (v := 1) hx hb d_Ou_add_48 (by decide) ?_
      refine lv_iadd hx hb d_Ou_add_49 ?_
      refine lv_tv (y := nI (m * 7 + 1)) (nI_add (m * 7) 1) ?_
      refine lv_iload hx hb d_Ou_add_50 (lv_at hl 7 rfl) ?_
      refine va_iast hx hb hZ.1 hP hD hS 1 1 rfl rfl (vp_in_nI (by omega) (by omega)) d_Ou_add_52 (fun H locs hP hD hS => ?_)
      rw [show ((nI (m * 7 + 1)).toNatClampNeg) = m * 7 + 1 from nI_clamp (by omega)] at hP hD
      have hP : va_P D classes [(u, .inr (4, [.ref ra, .int (nI m), .int x, .int y])), (ra, .inl (cI, oc, .inl (upd (upd fo (m * 7) t1) (m * 7 + 1) t6)))] H := hP
      have hD : va_D A_ [(u, .inr (4, [.ref ra, .int (nI m), .int x, .int y])), (ra, .inl (cI, oc, .inl (upd (upd fo (m * 7) t1) (m * 7 + 1) t6)))] := hD
      refine lv_aload_n hx hb d_Ou_add_53 rfl (lv_at hl 1 rfl) ?_
      refine va_get (D := D) (ci := 4) (v := .ref ra) (C := R_Ou) (T := F_Ou) (N := 4) hx hb hts i_Ou hown hZ.1 hP 0 rfl rfl 0 (by decide) (hts _ fl_Ou_11) (fun _ h9 => h9) rfl d_Ou_add_54 ?_
      refine lv_iload hx hb d_Ou_add_57 (lv_at hl 0 rfl) ?_
      refine lv_iconst (v := 2) hx hb d_Ou_add_59 (by decide) ?_
      refine lv_iadd hx hb d_Ou_add_60 ?_
      refine lv_tv (y := nI (m * 7 + 2)) (nI_add (m * 7) 2) ?_
      refine lv_iload hx hb d_Ou_add_61 (lv_at hl 8 rfl) ?_
      refine va_iast hx hb hZ.1 hP hD hS 1 1 rfl rfl (vp_in_nI (by omega) (by omega)) d_Ou_add_63 (fun H locs hP hD hS => ?_)
      rw [show ((nI (m * 7 + 2)).toNatClampNeg) = m * 7 + 2 from nI_clamp (by omega)] at hP hD
      have hP : va_P D classes [(u, .inr (4, [.ref ra, .int (nI m), .int x, .int y])), (ra, .inl (cI, oc, .inl (upd (upd (upd fo (m * 7) t1) (m * 7 + 1) t6) (m * 7 + 2) t7)))] H := hP
      have hD : va_D A_ [(u, .inr (4, [.ref ra, .int (nI m), .int x, .int y])), (ra, .inl (cI, oc, .inl (upd (upd (upd fo (m * 7) t1) (m * 7 + 1) t6) (m * 7 + 2) t7)))] := hD
      refine lv_aload_n hx hb d_Ou_add_64 rfl (lv_at hl 1 rfl) ?_
      refine va_get (D := D) (ci := 4) (v := .ref ra) (C := R_Ou) (T := F_Ou) (N := 4) hx hb hts i_Ou hown hZ.1 hP 0 rfl rfl 0 (by decide) (hts _ fl_Ou_11) (fun _ h9 => h9) rfl d_Ou_add_65 ?_
      refine lv_iload hx hb d_Ou_add_68 (lv_at hl 0 rfl) ?_
      refine lv_iconst (v := 3) hx hb d_Ou_add_70 (by decide) ?_
      refine lv_iadd hx hb d_Ou_add_71 ?_
      refine lv_tv (y := nI (m * 7 + 3)) (nI_add (m * 7) 3) ?_
      refine lv_iload_n hx hb d_Ou_add_72 rfl (lv_at hl 3 rfl) ?_
      refine va_iast hx hb hZ.1 hP hD hS 1 1 rfl rfl (vp_in_nI (by omega) (by omega)) d_Ou_add_73 (fun H locs hP hD hS => ?_)
      rw [show ((nI (m * 7 + 3)).toNatClampNeg) = m * 7 + 3 from nI_clamp (by omega)] at hP hD
      have hP : va_P D classes [(u, .inr (4, [.ref ra, .int (nI m), .int x, .int y])), (ra, .inl (cI, oc, .inl (upd (upd (upd (upd fo (m * 7) t1) (m * 7 + 1) t6) (m * 7 + 2) t7) (m * 7 + 3) t2)))] H := hP
      have hD : va_D A_ [(u, .inr (4, [.ref ra, .int (nI m), .int x, .int y])), (ra, .inl (cI, oc, .inl (upd (upd (upd (upd fo (m * 7) t1) (m * 7 + 1) t6) (m * 7 + 2) t7) (m * 7 + 3) t2)))] := hD
      refine lv_aload_n hx hb d_Ou_add_74 rfl (lv_at hl 1 rfl) ?_
      refine va_get (D := D) (ci := 4) (v := .ref ra) (C := R_Ou) (T := F_Ou) (N := 4) hx hb hts i_Ou hown hZ.1 hP 0 rfl rfl 0 (by decide) (hts _ fl_Ou_11) (fun _ h9 => h9) rfl d_Ou_add_75 ?_
      refine lv_iload hx hb d_Ou_add_78 (lv_at hl 0 rfl) ?_
      refine lv_iconst (v := 4) hx hb d_Ou_add_80 (by decide) ?_
      refine lv_iadd hx hb d_Ou_add_81 ?_
      refine lv_tv (y := nI (m * 7 + 4)) (nI_add (m * 7) 4) ?_
      refine lv_iload_n hx hb d_Ou_add_82 rfl (lv_at hl 4 rfl) ?_
      refine va_iast hx hb hZ.1 hP hD hS 1 1 rfl rfl (vp_in_nI (by omega) (by omega)) d_Ou_add_83 (fun H locs hP hD hS => ?_)
      rw [show ((nI (m * 7 + 4)).toNatClampNeg) = m * 7 + 4 from nI_clamp (by omega)] at hP hD
      have hP : va_P D classes [(u, .inr (4, [.ref ra, .int (nI m), .int x, .int y])), (ra, .inl (cI, oc, .inl (upd (upd (upd (upd (upd fo (m * 7) t1) (m * 7 + 1) t6) (m * 7 + 2) t7) (m * 7 + 3) t2) (m * 7 + 4) t3)))] H := hP
      have hD : va_D A_ [(u, .inr (4, [.ref ra, .int (nI m), .int x, .int y])), (ra, .inl (cI, oc, .inl (upd (upd (upd (upd (upd fo (m * 7) t1) (m * 7 + 1) t6) (m * 7 + 2) t7) (m * 7 + 3) t2) (m * 7 + 4) t3)))] := hD
      refine lv_aload_n hx hb d_Ou_add_84 rfl (lv_at hl 1 rfl) ?_
      refine va_get (D := D) (ci := 4) (v := .ref ra) (C := R_Ou) (T := F_Ou) (N := 4) hx hb hts i_Ou hown hZ.1 hP 0 rfl rfl 0 (by decide) (hts _ fl_Ou_11) (fun _ h9 => h9) rfl d_Ou_add_85 ?_
      refine lv_iload hx hb d_Ou_add_88 (lv_at hl 0 rfl) ?_
      refine lv_iconst (v := 5) hx hb d_Ou_add_90 (by decide) ?_
      refine lv_iadd hx hb d_Ou_add_91 ?_
      refine lv_tv (y := nI (m * 7 + 5)) (nI_add (m * 7) 5) ?_
      refine lv_iload hx hb d_Ou_add_92 (lv_at hl 5 rfl) ?_
      refine va_iast hx hb hZ.1 hP hD hS 1 1 rfl rfl (vp_in_nI (by omega) (by omega)) d_Ou_add_94 (fun H locs hP hD hS => ?_)
      rw [show ((nI (m * 7 + 5)).toNatClampNeg) = m * 7 + 5 from nI_clamp (by omega)] at hP hD
      have hP : va_P D classes [(u, .inr (4, [.ref ra, .int (nI m), .int x, .int y])), (ra, .inl (cI, oc, .inl (upd (upd (upd (upd (upd (upd fo (m * 7) t1) (m * 7 + 1) t6) (m * 7 + 2) t7) (m * 7 + 3) t2) (m * 7 + 4) t3) (m * 7 + 5) t4)))] H := hP
      have hD : va_D A_ [(u, .inr (4, [.ref ra, .int (nI m), .int x, .int y])), (ra, .inl (cI, oc, .inl (upd (upd (upd (upd (upd (upd fo (m * 7) t1) (m * 7 + 1) t6) (m * 7 + 2) t7) (m * 7 + 3) t2) (m * 7 + 4) t3) (m * 7 + 5) t4)))] := hD
      refine lv_aload_n hx hb d_Ou_add_95 rfl (lv_at hl 1 rfl) ?_
      refine va_get (D := D) (ci := 4) (v := .ref ra) (C := R_Ou) (T := F_Ou) (N := 4) hx hb hts i_Ou hown hZ.1 hP 0 rfl rfl 0 (by decide) (hts _ fl_Ou_11) (fun _ h9 => h9) rfl d_Ou_add_96 ?_
      refine lv_iload hx hb d_Ou_add_99 (lv_at hl 0 rfl) ?_
      refine lv_bipush (v := 6) hx hb d_Ou_add_101 (by decide) ?_
      refine lv_iadd hx hb d_Ou_add_103 ?_
      refine lv_tv (y := nI (m * 7 + 6)) (nI_add (m * 7) 6) ?_
      refine lv_iload hx hb d_Ou_add_104 (lv_at hl 6 rfl) ?_
      refine va_iast hx hb hZ.1 hP hD hS 1 1 rfl rfl (vp_in_nI (by omega) (by omega)) d_Ou_add_106 (fun H locs hP hD hS => ?_)
      rw [show ((nI (m * 7 + 6)).toNatClampNeg) = m * 7 + 6 from nI_clamp (by omega)] at hP hD
      have hP : va_P D classes [(u, .inr (4, [.ref ra, .int (nI m), .int x, .int y])), (ra, .inl (cI, oc, .inl (upd (upd (upd (upd (upd (upd (upd fo (m * 7) t1) (m * 7 + 1) t6) (m * 7 + 2) t7) (m * 7 + 3) t2) (m * 7 + 4) t3) (m * 7 + 5) t4) (m * 7 + 6) t5)))] H := hP
      have hD : va_D A_ [(u, .inr (4, [.ref ra, .int (nI m), .int x, .int y])), (ra, .inl (cI, oc, .inl (upd (upd (upd (upd (upd (upd (upd fo (m * 7) t1) (m * 7 + 1) t6) (m * 7 + 2) t7) (m * 7 + 3) t2) (m * 7 + 4) t3) (m * 7 + 5) t4) (m * 7 + 6) t5)))] := hD
      refine lv_aload_n hx hb d_Ou_add_107 rfl (lv_at hl 1 rfl) ?_
      refine lv_iload hx hb d_Ou_add_108 (lv_at hl 7 rfl) ?_
      refine va_put (D := D) (ci := 4) (v := .int t6) (ty := .int) (C := R_Ou) (T := F_Ou) (N := 4) hx hb hts i_Ou t_Ou t_Ou_ok n_Ou hown hZ.1 hP hD hS 0 rfl rfl 2 (by decide) (hts _ fl_Ou_23) (fun _ h9 => h9) rfl (by decide +kernel) rfl rfl (Nat.le_of_ble_eq_true rfl) d_Ou_add_110 (fun H locs hP hD hS => ?_)
      have hP : va_P D classes [(u, .inr (4, [.ref ra, .int (nI m), .int t6, .int y])), (ra, .inl (cI, oc, .inl (upd (upd (upd (upd (upd (upd (upd fo (m * 7) t1) (m * 7 + 1) t6) (m * 7 + 2) t7) (m * 7 + 3) t2) (m * 7 + 4) t3) (m * 7 + 5) t4) (m * 7 + 6) t5)))] H := hP
      have hD : va_D A_ [(u, .inr (4, [.ref ra, .int (nI m), .int t6, .int y])), (ra, .inl (cI, oc, .inl (upd (upd (upd (upd (upd (upd (upd fo (m * 7) t1) (m * 7 + 1) t6) (m * 7 + 2) t7) (m * 7 + 3) t2) (m * 7 + 4) t3) (m * 7 + 5) t4) (m * 7 + 6) t5)))] := hD
      refine lv_aload_n hx hb d_Ou_add_113 rfl (lv_at hl 1 rfl) ?_
      refine lv_iload hx hb d_Ou_add_114 (lv_at hl 8 rfl) ?_
      refine va_put (D := D) (ci := 4) (v := .int t7) (ty := .int) (C := R_Ou) (T := F_Ou) (N := 4) hx hb hts i_Ou t_Ou t_Ou_ok n_Ou hown hZ.1 hP hD hS 0 rfl rfl 3 (by decide) (hts _ fl_Ou_26) (fun _ h9 => h9) rfl (by decide +kernel) rfl rfl (Nat.le_of_ble_eq_true rfl) d_Ou_add_116 (fun H locs hP hD hS => ?_)
      have hP : va_P D classes [(u, .inr (4, [.ref ra, .int (nI m), .int t6, .int t7])), (ra, .inl (cI, oc, .inl (upd (upd (upd (upd (upd (upd (upd fo (m * 7) t1) (m * 7 + 1) t6) (m * 7 + 2) t7) (m * 7 + 3) t2) (m * 7 + 4) t3) (m * 7 + 5) t4) (m * 7 + 6) t5)))] H := hP
      have hD : va_D A_ [(u, .inr (4, [.ref ra, .int (nI m), .int t6, .int t7])), (ra, .inl (cI, oc, .inl (upd (upd (upd (upd (upd (upd (upd fo (m * 7) t1) (m * 7 + 1) t6) (m * 7 + 2) t7) (m * 7 + 3) t2) (m * 7 + 4) t3) (m * 7 + 5) t4) (m * 7 + 6) t5)))] := hD
      refine lv_aload_n hx hb d_Ou_add_119 rfl (lv_at hl 1 rfl) ?_
      refine lv_dup hx hb d_Ou_add_120 rfl ?_
      refine va_get (D := D) (ci := 4) (v := .int (nI m)) (C := R_Ou) (T := F_Ou) (N := 4) hx hb hts i_Ou hown hZ.1 hP 0 rfl rfl 1 (by decide) (hts _ fl_Ou_15) (fun _ h9 => h9) rfl d_Ou_add_121 ?_
      refine lv_iconst (v := 1) hx hb d_Ou_add_124 (by decide) ?_
      refine lv_iadd hx hb d_Ou_add_125 ?_
      refine lv_tv (y := nI (m + 1)) (nI_add m 1) ?_
      refine va_put (D := D) (ci := 4) (v := .int (nI (m + 1))) (ty := .int) (C := R_Ou) (T := F_Ou) (N := 4) hx hb hts i_Ou t_Ou t_Ou_ok n_Ou hown hZ.1 hP hD hS 0 rfl rfl 1 (by decide) (hts _ fl_Ou_15) (fun _ h9 => h9) rfl (by decide +kernel) rfl rfl (Nat.le_of_ble_eq_true rfl) d_Ou_add_126 (fun H locs hP hD hS => ?_)
      have hP : va_P D classes [(u, .inr (4, [.ref ra, .int (nI (m + 1)), .int t6, .int t7])), (ra, .inl (cI, oc, .inl (upd (upd (upd (upd (upd (upd (upd fo (m * 7) t1) (m * 7 + 1) t6) (m * 7 + 2) t7) (m * 7 + 3) t2) (m * 7 + 4) t3) (m * 7 + 5) t4) (m * 7 + 6) t5)))] H := hP
      have hD : va_D A_ [(u, .inr (4, [.ref ra, .int (nI (m + 1)), .int t6, .int t7])), (ra, .inl (cI, oc, .inl (upd (upd (upd (upd (upd (upd (upd fo (m * 7) t1) (m * 7 + 1) t6) (m * 7 + 2) t7) (m * 7 + 3) t2) (m * 7 + 4) t3) (m * 7 + 5) t4) (m * 7 + 6) t5)))] := hD
      refine lv_iconst (v := 1) hx hb d_Ou_add_129 (by decide) ?_
      exact t_zret hx hb hr hlk (by first | decide | exact nar01 (by assumption)) d_Ou_add_130 (hP.subm (ws' := [(u, .inr (4, [.ref ra, .int (nI (m + 1)), .int t6, .int t7])), (ra, .inl (cI, oc, .inl (upd (upd (upd (upd (upd (upd (upd fo (m * 7) t1) (m * 7 + 1) t6) (m * 7 + 2) t7) (m * 7 + 3) t2) (m * 7 + 4) t3) (m * 7 + 5) t4) (m * 7 + 6) t5)))]) [0, 1] rfl) (hD.sub (ws' := [(u, .inr (4, [.ref ra, .int (nI (m + 1)), .int t6, .int t7])), (ra, .inl (cI, oc, .inl (upd (upd (upd (upd (upd (upd (upd fo (m * 7) t1) (m * 7 + 1) t6) (m * 7 + 2) t7) (m * 7 + 3) t2) (m * 7 + 4) t3) (m * 7 + 5) t4) (m * 7 + 6) t5)))]) [0, 1] rfl rfl) hS ⟨_, rfl, rfl, rfl, _, _, _, _, rfl, (by omega), ⟨add_ok (by omega), by omega⟩, (by first | decide | assumption)⟩
    · have n_29 : ¬ (m * 7 + 7) ≤ (oc) := fun z => c_29 ((nI_leI (a := m * 7 + 7) (b := oc) (by omega) (by omega)).mpr z)
      refine lv_iconst (v := 0) hx hb d_Ou_add_32 (by decide) ?_
      exact t_zret hx hb hr hlk (by first | decide | exact nar01 (by assumption)) d_Ou_add_33 (hP.subm (ws' := [(u, .inr (4, [.ref ra, .int (nI m), .int x, .int y])), (ra, .inl (cI, oc, .inl fo))]) [0, 1] rfl) (hD.sub (ws' := [(u, .inr (4, [.ref ra, .int (nI m), .int x, .int y])), (ra, .inl (cI, oc, .inl fo))]) [0, 1] rfl rfl) hS ⟨_, rfl, rfl, rfl, _, _, _, _, rfl, (by omega), (absurd (hrm (by omega)) (by omega)), (by first | decide | assumption)⟩
set_option maxHeartbeats 1000000 in
set_option maxRecDepth 100000 in
theorem c_Ou_move (l : Launch) (D : va_G) (cB cI cJ : ClassId) (u ra oc : Nat) (m : Nat) (x : Int32) (y : Int32) (fo : Nat → Int32) (t1 : Int32) (t2 : Int32) (hiOu : m ≤ 4000 ∧ 7 * m ≤ oc ∧ 336 ≤ oc ∧ oc ≤ 28000) (hrm : m < 4000 → 7 * m + 7 ≤ oc) : Tr l D classes (TY cB cI cJ) gd_tbl nx_tbl y_Ou_move b_Ou_move 3 (some .boolean) ({ frames := 1, cells := 0, slots := 0, locals := 28 }) [.ref u, .int t1, .int t2] [(u, .inr (4, [.ref ra, .int (nI m), .int x, .int y])), (ra, .inl (cI, oc, .inl fo))] (pI0 (fun r w => ∃ (m' : Nat) (x' : Int32) (y' : Int32) (fo' : Nat → Int32), w = [(u, .inr (4, [.ref ra, .int (nI m'), .int x', .int y'])), (ra, .inl (cI, oc, .inl fo'))] ∧ (m' ≤ 4000 ∧ 7 * m' ≤ oc ∧ 336 ≤ oc ∧ oc ≤ 28000) ∧ (zR r (uS m' x' y' fo') = moveU (uS m x y fo) t1 t2 ∧ m' ≤ m + 1) ∧ (r = 0 ∨ r = 1))) := by
  refine Tr.intro (by decide +kernel) nx_ok (Nat.le_of_ble_eq_true rfl) ?_
  intro p_ e_ s_ m_ args_ below_ meth_ c_ A_ ls hx hb hml hown hts hr hlk hnm hZ hP hD hS hl
  have hl : lv_has ls 3 [(0, .ref u), (1, .int t1), (2, .int t2)] := hl
  refine lv_aload_n hx hb d_Ou_move_0 rfl (lv_at hl 0 rfl) ?_
  refine lv_iconst (v := 0) hx hb d_Ou_move_1 (by decide) ?_
  refine lv_iconst (v := 0) hx hb d_Ou_move_2 (by decide) ?_
  refine lv_iconst (v := 0) hx hb d_Ou_move_3 (by decide) ?_
  refine lv_iconst (v := 0) hx hb d_Ou_move_4 (by decide) ?_
  refine lv_iconst (v := 0) hx hb d_Ou_move_5 (by decide) ?_
  refine lv_aload_n hx hb d_Ou_move_6 rfl (lv_at hl 0 rfl) ?_
  refine va_get (D := D) (ci := 4) (v := .int x) (C := R_Ou) (T := F_Ou) (N := 4) hx hb hts i_Ou hown hZ.1 hP 0 rfl rfl 2 (by decide) (hts _ fl_Ou_23) (fun _ h9 => h9) rfl d_Ou_move_7 ?_
  refine lv_iload_n hx hb d_Ou_move_10 rfl (lv_at hl 1 rfl) ?_
  refine lv_iadd hx hb d_Ou_move_11 ?_
  refine lv_aload_n hx hb d_Ou_move_12 rfl (lv_at hl 0 rfl) ?_
  refine va_get (D := D) (ci := 4) (v := .int y) (C := R_Ou) (T := F_Ou) (N := 4) hx hb hts i_Ou hown hZ.1 hP 0 rfl rfl 3 (by decide) (hts _ fl_Ou_26) (fun _ h9 => h9) rfl d_Ou_move_13 ?_
  refine lv_iload_n hx hb d_Ou_move_16 rfl (lv_at hl 2 rfl) ?_
  refine lv_iadd hx hb d_Ou_move_17 ?_
  have hC : Cut [(u, .inr (4, [.ref ra, .int (nI m), .int x, .int y])), (ra, .inl (cI, oc, .inl fo))] [(u, .inr (4, [.ref ra, .int (nI m), .int x, .int y])), (ra, .inl (cI, oc, .inl fo))] [] [0, 1] [] := ⟨rfl, rfl, rfl, rfl, by decide⟩
  refine goI0 (trV (As := [.int 0, .int 0, .int 0, .int 0, .int 0, .int (x + t1), .int (y + t2)]) (rest := []) ⟨hx, hb, hml, hown, hts⟩ gd_good (c_Ou_add l D cB cI cJ u ra oc m x y fo 0 0 0 0 0 (x + t1) (y + t2) (by omega) hrm) cal_Ou_add ml_Ou_44 ⟨Nat.le_of_ble_eq_true rfl, Nat.le_of_ble_eq_true rfl⟩ hZ hP hD hC 0 (ci := 4) rfl rfl rfl rfl hl.1 rfl (Nat.le_of_ble_eq_true rfl) d_Ou_move_18 ⟨Nat.le_of_ble_eq_true rfl, Nat.le_of_ble_eq_true rfl⟩) hZ hP hD hS hC (fun r_18 w1 H locs hq hP hD hS => ?_)
  obtain ⟨m_18, x_18, y_18, fo_18, rfl, hv0_18, hx_18, hz_18⟩ := hq
  have hP : va_P D classes [(u, .inr (4, [.ref ra, .int (nI m_18), .int x_18, .int y_18])), (ra, .inl (cI, oc, .inl fo_18))] H := hP
  have hD : va_D A_ [(u, .inr (4, [.ref ra, .int (nI m_18), .int x_18, .int y_18])), (ra, .inl (cI, oc, .inl fo_18))] := hD
  exact t_zret hx hb hr hlk (by first | decide | exact nar01 (by assumption)) d_Ou_move_21 (hP.subm (ws' := [(u, .inr (4, [.ref ra, .int (nI m_18), .int x_18, .int y_18])), (ra, .inl (cI, oc, .inl fo_18))]) [0, 1] rfl) (hD.sub (ws' := [(u, .inr (4, [.ref ra, .int (nI m_18), .int x_18, .int y_18])), (ra, .inl (cI, oc, .inl fo_18))]) [0, 1] rfl rfl) hS ⟨_, rfl, rfl, rfl, _, _, _, _, rfl, (by omega), hx_18, (by first | decide | assumption)⟩
set_option maxHeartbeats 1000000 in
set_option maxRecDepth 100000 in
theorem c_Ou_line (l : Launch) (D : va_G) (cB cI cJ : ClassId) (u ra oc : Nat) (m : Nat) (x : Int32) (y : Int32) (fo : Nat → Int32) (t1 : Int32) (t2 : Int32) (hiOu : m ≤ 4000 ∧ 7 * m ≤ oc ∧ 336 ≤ oc ∧ oc ≤ 28000) (hrm : m < 4000 → 7 * m + 7 ≤ oc) : Tr l D classes (TY cB cI cJ) gd_tbl nx_tbl y_Ou_line b_Ou_line 3 (some .boolean) ({ frames := 1, cells := 0, slots := 0, locals := 28 }) [.ref u, .int t1, .int t2] [(u, .inr (4, [.ref ra, .int (nI m), .int x, .int y])), (ra, .inl (cI, oc, .inl fo))] (pI0 (fun r w => ∃ (m' : Nat) (x' : Int32) (y' : Int32) (fo' : Nat → Int32), w = [(u, .inr (4, [.ref ra, .int (nI m'), .int x', .int y'])), (ra, .inl (cI, oc, .inl fo'))] ∧ (m' ≤ 4000 ∧ 7 * m' ≤ oc ∧ 336 ≤ oc ∧ oc ≤ 28000) ∧ (zR r (uS m' x' y' fo') = lineP (uS m x y fo) t1 t2 ∧ m' ≤ m + 1) ∧ (r = 0 ∨ r = 1))) := by
  refine Tr.intro (by decide +kernel) nx_ok (Nat.le_of_ble_eq_true rfl) ?_
  intro p_ e_ s_ m_ args_ below_ meth_ c_ A_ ls hx hb hml hown hts hr hlk hnm hZ hP hD hS hl
  have hl : lv_has ls 3 [(0, .ref u), (1, .int t1), (2, .int t2)] := hl
  refine lv_aload_n hx hb d_Ou_line_0 rfl (lv_at hl 0 rfl) ?_
  refine lv_iconst (v := 1) hx hb d_Ou_line_1 (by decide) ?_
  refine lv_iconst (v := 0) hx hb d_Ou_line_2 (by decide) ?_
  refine lv_iconst (v := 0) hx hb d_Ou_line_3 (by decide) ?_
  refine lv_iconst (v := 0) hx hb d_Ou_line_4 (by decide) ?_
  refine lv_iconst (v := 0) hx hb d_Ou_line_5 (by decide) ?_
  refine lv_aload_n hx hb d_Ou_line_6 rfl (lv_at hl 0 rfl) ?_
  refine va_get (D := D) (ci := 4) (v := .int x) (C := R_Ou) (T := F_Ou) (N := 4) hx hb hts i_Ou hown hZ.1 hP 0 rfl rfl 2 (by decide) (hts _ fl_Ou_23) (fun _ h9 => h9) rfl d_Ou_line_7 ?_
  refine lv_iload_n hx hb d_Ou_line_10 rfl (lv_at hl 1 rfl) ?_
  refine lv_iadd hx hb d_Ou_line_11 ?_
  refine lv_aload_n hx hb d_Ou_line_12 rfl (lv_at hl 0 rfl) ?_
  refine va_get (D := D) (ci := 4) (v := .int y) (C := R_Ou) (T := F_Ou) (N := 4) hx hb hts i_Ou hown hZ.1 hP 0 rfl rfl 3 (by decide) (hts _ fl_Ou_26) (fun _ h9 => h9) rfl d_Ou_line_13 ?_
  refine lv_iload_n hx hb d_Ou_line_16 rfl (lv_at hl 2 rfl) ?_
  refine lv_iadd hx hb d_Ou_line_17 ?_
  have hC : Cut [(u, .inr (4, [.ref ra, .int (nI m), .int x, .int y])), (ra, .inl (cI, oc, .inl fo))] [(u, .inr (4, [.ref ra, .int (nI m), .int x, .int y])), (ra, .inl (cI, oc, .inl fo))] [] [0, 1] [] := ⟨rfl, rfl, rfl, rfl, by decide⟩
  refine goI0 (trV (As := [.int 1, .int 0, .int 0, .int 0, .int 0, .int (x + t1), .int (y + t2)]) (rest := []) ⟨hx, hb, hml, hown, hts⟩ gd_good (c_Ou_add l D cB cI cJ u ra oc m x y fo 1 0 0 0 0 (x + t1) (y + t2) (by omega) hrm) cal_Ou_add ml_Ou_44 ⟨Nat.le_of_ble_eq_true rfl, Nat.le_of_ble_eq_true rfl⟩ hZ hP hD hC 0 (ci := 4) rfl rfl rfl rfl hl.1 rfl (Nat.le_of_ble_eq_true rfl) d_Ou_line_18 ⟨Nat.le_of_ble_eq_true rfl, Nat.le_of_ble_eq_true rfl⟩) hZ hP hD hS hC (fun r_18 w1 H locs hq hP hD hS => ?_)
  obtain ⟨m_18, x_18, y_18, fo_18, rfl, hv0_18, hx_18, hz_18⟩ := hq
  have hP : va_P D classes [(u, .inr (4, [.ref ra, .int (nI m_18), .int x_18, .int y_18])), (ra, .inl (cI, oc, .inl fo_18))] H := hP
  have hD : va_D A_ [(u, .inr (4, [.ref ra, .int (nI m_18), .int x_18, .int y_18])), (ra, .inl (cI, oc, .inl fo_18))] := hD
  exact t_zret hx hb hr hlk (by first | decide | exact nar01 (by assumption)) d_Ou_line_21 (hP.subm (ws' := [(u, .inr (4, [.ref ra, .int (nI m_18), .int x_18, .int y_18])), (ra, .inl (cI, oc, .inl fo_18))]) [0, 1] rfl) (hD.sub (ws' := [(u, .inr (4, [.ref ra, .int (nI m_18), .int x_18, .int y_18])), (ra, .inl (cI, oc, .inl fo_18))]) [0, 1] rfl rfl) hS ⟨_, rfl, rfl, rfl, _, _, _, _, rfl, (by omega), hx_18, (by first | decide | assumption)⟩
set_option maxHeartbeats 1000000 in
set_option maxRecDepth 100000 in
theorem c_Ou_curve (l : Launch) (D : va_G) (cB cI cJ : ClassId) (u ra oc : Nat) (m : Nat) (x : Int32) (y : Int32) (fo : Nat → Int32) (t1 : Int32) (t2 : Int32) (t3 : Int32) (t4 : Int32) (t5 : Int32) (t6 : Int32) (hiOu : m ≤ 4000 ∧ 7 * m ≤ oc ∧ 336 ≤ oc ∧ oc ≤ 28000) (hrm : m < 4000 → 7 * m + 7 ≤ oc) : Tr l D classes (TY cB cI cJ) gd_tbl nx_tbl y_Ou_curve b_Ou_curve 11 (some .boolean) ({ frames := 1, cells := 0, slots := 0, locals := 28 }) [.ref u, .int t1, .int t2, .int t3, .int t4, .int t5, .int t6] [(u, .inr (4, [.ref ra, .int (nI m), .int x, .int y])), (ra, .inl (cI, oc, .inl fo))] (pI0 (fun r w => ∃ (m' : Nat) (x' : Int32) (y' : Int32) (fo' : Nat → Int32), w = [(u, .inr (4, [.ref ra, .int (nI m'), .int x', .int y'])), (ra, .inl (cI, oc, .inl fo'))] ∧ (m' ≤ 4000 ∧ 7 * m' ≤ oc ∧ 336 ≤ oc ∧ oc ≤ 28000) ∧ (zR r (uS m' x' y' fo') = curveP (uS m x y fo) t1 t2 t3 t4 t5 t6 ∧ m' ≤ m + 1) ∧ (r = 0 ∨ r = 1))) := by
  refine Tr.intro (by decide +kernel) nx_ok (Nat.le_of_ble_eq_true rfl) ?_
  intro p_ e_ s_ m_ args_ below_ meth_ c_ A_ ls hx hb hml hown hts hr hlk hnm hZ hP hD hS hl
  have hl : lv_has ls 11 [(0, .ref u), (1, .int t1), (2, .int t2), (3, .int t3), (4, .int t4), (5, .int t5), (6, .int t6)] := hl
  refine lv_aload_n hx hb d_Ou_curve_0 rfl (lv_at hl 0 rfl) ?_
  refine va_get (D := D) (ci := 4) (v := .int x) (C := R_Ou) (T := F_Ou) (N := 4) hx hb hts i_Ou hown hZ.1 hP 0 rfl rfl 2 (by decide) (hts _ fl_Ou_23) (fun _ h9 => h9) rfl d_Ou_curve_1 ?_
  refine lv_iload_n hx hb d_Ou_curve_4 rfl (lv_at hl 1 rfl) ?_
  refine lv_iadd hx hb d_Ou_curve_5 ?_
  refine lv_istore (lv' := [(7, .int (x + t1)), (0, .ref u), (1, .int t1), (2, .int t2), (3, .int t3), (4, .int t4), (5, .int t5), (6, .int t6)]) hx hb d_Ou_curve_6 hl (by decide) rfl (fun ls hl => ?_)
  refine lv_aload_n hx hb d_Ou_curve_8 rfl (lv_at hl 1 rfl) ?_
  refine va_get (D := D) (ci := 4) (v := .int y) (C := R_Ou) (T := F_Ou) (N := 4) hx hb hts i_Ou hown hZ.1 hP 0 rfl rfl 3 (by decide) (hts _ fl_Ou_26) (fun _ h9 => h9) rfl d_Ou_curve_9 ?_
  refine lv_iload_n hx hb d_Ou_curve_12 rfl (lv_at hl 3 rfl) ?_
  refine lv_iadd hx hb d_Ou_curve_13 ?_
  refine lv_istore (lv' := [(8, .int (y + t2)), (7, .int (x + t1)), (0, .ref u), (1, .int t1), (2, .int t2), (3, .int t3), (4, .int t4), (5, .int t5), (6, .int t6)]) hx hb d_Ou_curve_14 hl (by decide) rfl (fun ls hl => ?_)
  refine lv_iload hx hb d_Ou_curve_16 (lv_at hl 1 rfl) ?_
  refine lv_iload_n hx hb d_Ou_curve_18 rfl (lv_at hl 5 rfl) ?_
  refine lv_iadd hx hb d_Ou_curve_19 ?_
  refine lv_istore (lv' := [(9, .int ((x + t1) + t3)), (8, .int (y + t2)), (7, .int (x + t1)), (0, .ref u), (1, .int t1), (2, .int t2), (3, .int t3), (4, .int t4), (5, .int t5), (6, .int t6)]) hx hb d_Ou_curve_20 hl (by decide) rfl (fun ls hl => ?_)
  refine lv_iload hx hb d_Ou_curve_22 (lv_at hl 1 rfl) ?_
  refine lv_iload hx hb d_Ou_curve_24 (lv_at hl 7 rfl) ?_
  refine lv_iadd hx hb d_Ou_curve_26 ?_
  refine lv_istore (lv' := [(10, .int ((y + t2) + t4)), (9, .int ((x + t1) + t3)), (8, .int (y + t2)), (7, .int (x + t1)), (0, .ref u), (1, .int t1), (2, .int t2), (3, .int t3), (4, .int t4), (5, .int t5), (6, .int t6)]) hx hb d_Ou_curve_27 hl (by decide) rfl (fun ls hl => ?_)
  refine lv_aload_n hx hb d_Ou_curve_29 rfl (lv_at hl 4 rfl) ?_
  refine lv_iconst (v := 2) hx hb d_Ou_curve_30 (by decide) ?_
  refine lv_iload hx hb d_Ou_curve_31 (lv_at hl 3 rfl) ?_
  refine lv_iload hx hb d_Ou_curve_33 (lv_at hl 2 rfl) ?_
  refine lv_iload hx hb d_Ou_curve_35 (lv_at hl 1 rfl) ?_
  refine lv_iload hx hb d_Ou_curve_37 (lv_at hl 0 rfl) ?_
  refine lv_iload hx hb d_Ou_curve_39 (lv_at hl 1 rfl) ?_
  refine lv_iload hx hb d_Ou_curve_41 (lv_at hl 9 rfl) ?_
  refine lv_iadd hx hb d_Ou_curve_43 ?_
  refine lv_iload hx hb d_Ou_curve_44 (lv_at hl 0 rfl) ?_
  refine lv_iload hx hb d_Ou_curve_46 (lv_at hl 10 rfl) ?_
  refine lv_iadd hx hb d_Ou_curve_48 ?_
  have hC : Cut [(u, .inr (4, [.ref ra, .int (nI m), .int x, .int y])), (ra, .inl (cI, oc, .inl fo))] [(u, .inr (4, [.ref ra, .int (nI m), .int x, .int y])), (ra, .inl (cI, oc, .inl fo))] [] [0, 1] [] := ⟨rfl, rfl, rfl, rfl, by decide⟩
  refine goI0 (trV (As := [.int 2, .int (x + t1), .int (y + t2), .int ((x + t1) + t3), .int ((y + t2) + t4), .int (((x + t1) + t3) + t5), .int (((y + t2) + t4) + t6)]) (rest := []) ⟨hx, hb, hml, hown, hts⟩ gd_good (c_Ou_add l D cB cI cJ u ra oc m x y fo 2 (x + t1) (y + t2) ((x + t1) + t3) ((y + t2) + t4) (((x + t1) + t3) + t5) (((y + t2) + t4) + t6) (by omega) hrm) cal_Ou_add ml_Ou_44 ⟨Nat.le_of_ble_eq_true rfl, Nat.le_of_ble_eq_true rfl⟩ hZ hP hD hC 0 (ci := 4) rfl rfl rfl rfl hl.1 rfl (Nat.le_of_ble_eq_true rfl) d_Ou_curve_49 ⟨Nat.le_of_ble_eq_true rfl, Nat.le_of_ble_eq_true rfl⟩) hZ hP hD hS hC (fun r_49 w1 H locs hq hP hD hS => ?_)
  obtain ⟨m_49, x_49, y_49, fo_49, rfl, hv0_49, hx_49, hz_49⟩ := hq
  have hP : va_P D classes [(u, .inr (4, [.ref ra, .int (nI m_49), .int x_49, .int y_49])), (ra, .inl (cI, oc, .inl fo_49))] H := hP
  have hD : va_D A_ [(u, .inr (4, [.ref ra, .int (nI m_49), .int x_49, .int y_49])), (ra, .inl (cI, oc, .inl fo_49))] := hD
  exact t_zret hx hb hr hlk (by first | decide | exact nar01 (by assumption)) d_Ou_curve_52 (hP.subm (ws' := [(u, .inr (4, [.ref ra, .int (nI m_49), .int x_49, .int y_49])), (ra, .inl (cI, oc, .inl fo_49))]) [0, 1] rfl) (hD.sub (ws' := [(u, .inr (4, [.ref ra, .int (nI m_49), .int x_49, .int y_49])), (ra, .inl (cI, oc, .inl fo_49))]) [0, 1] rfl rfl) hS ⟨_, rfl, rfl, rfl, _, _, _, _, rfl, (by omega), hx_49, (by first | decide | assumption)⟩
set_option maxHeartbeats 1000000 in
set_option maxRecDepth 100000 in
theorem c_Ou_makeRoom (l : Launch) (D : va_G) (cB cI cJ : ClassId) (u : Nat) (ra : Nat) (m : Nat) (oc : Nat) (x : Int32) (y : Int32) (fo : Nat → Int32)  (hiOu : m ≤ 4000 ∧ 7 * m ≤ oc ∧ 336 ≤ oc ∧ oc ≤ 28000) : Tr l D classes (TY cB cI cJ) gd_tbl nx_tbl y_Ou_makeRoom b_Ou_makeRoom 2 none ({ frames := 2, cells := gO oc, slots := gO oc, locals := 43 }) [.ref u] [(u, .inr (4, [.ref ra, .int (nI m), .int x, .int y])), (ra, .inl (cI, oc, .inl fo))] (pV (fun w k q => ∃ (ra' : Nat) (oc' : Nat) (fo' : Nat → Int32), w = [(u, .inr (4, [.ref ra', .int (nI m), .int x, .int y])), (ra', .inl (cI, oc', .inl fo'))] ∧ (m ≤ 4000 ∧ 7 * m ≤ oc' ∧ 336 ≤ oc' ∧ oc' ≤ 28000) ∧ (uS m x y fo' = uS m x y fo ∧ 7 * min 4000 (m + 48) ≤ oc') ∧ k ≤ q ∧ q + gO oc' ≤ gO oc)) := by
  refine Tr.intro (by decide +kernel) nx_ok (Nat.le_of_ble_eq_true rfl) ?_
  intro p_ e_ s_ m_ args_ below_ meth_ c_ A_ ls hx hb hml hown hts hr hlk hnm hZ hP hD hS hl
  have hl : lv_has ls 2 [(0, .ref u)] := hl
  refine lv_sipush (v := 4000) hx hb d_Ou_makeRoom_0 (by decide) ?_
  refine lv_aload_n hx hb d_Ou_makeRoom_3 rfl (lv_at hl 0 rfl) ?_
  refine va_get (D := D) (ci := 4) (v := .int (nI m)) (C := R_Ou) (T := F_Ou) (N := 4) hx hb hts i_Ou hown hZ.1 hP 0 rfl rfl 1 (by decide) (hts _ fl_Ou_15) (fun _ h9 => h9) rfl d_Ou_makeRoom_4 ?_
  refine lv_bipush (v := 48) hx hb d_Ou_makeRoom_7 (by decide) ?_
  refine lv_iadd hx hb d_Ou_makeRoom_9 ?_
  refine lv_tv (y := nI (m + 48)) (nI_add m 48) ?_
  refine roS (As := [.int 4000, .int (nI (m + 48))]) (rest := []) ⟨hx, hb, hml, hown, hts⟩ gd_good (c_Math_min l D cB cI cJ 4000 (nI (m + 48))) cal_Math_min ml_Ou_29 ⟨Nat.le_of_ble_eq_true rfl, Nat.le_of_ble_eq_true rfl⟩ hZ hP hD (isC := []) ⟨rfl, rfl⟩ rfl hl.1 rfl (Nat.le_of_ble_eq_true rfl) d_Ou_makeRoom_10 ⟨by dsimp only; omega, by dsimp only; omega⟩ (fun v hv => ?_)
  subst hv
  refine lv_tv (y := nI (min 4000 (m + 48))) (iMin_N (a := 4000) (by omega) (by omega)) ?_
  refine lv_bipush (v := 7) hx hb d_Ou_makeRoom_13 (by decide) ?_
  refine lv_imul hx hb d_Ou_makeRoom_15 ?_
  refine lv_tv (y := nI ((min 4000 (m + 48)) * 7)) (pk_mul (min 4000 (m + 48)) 7) ?_
  refine lv_istore_n (lv' := [(1, .int (nI ((min 4000 (m + 48)) * 7))), (0, .ref u)]) hx hb d_Ou_makeRoom_16 rfl hl (by decide) rfl (fun ls hl => ?_)
  refine lv_iload_n hx hb d_Ou_makeRoom_17 rfl (lv_at hl 0 rfl) ?_
  refine lv_aload_n hx hb d_Ou_makeRoom_18 rfl (lv_at hl 1 rfl) ?_
  refine va_get (D := D) (ci := 4) (v := .ref ra) (C := R_Ou) (T := F_Ou) (N := 4) hx hb hts i_Ou hown hZ.1 hP 0 rfl rfl 0 (by decide) (hts _ fl_Ou_11) (fun _ h9 => h9) rfl d_Ou_makeRoom_19 ?_
  refine va_alen (v := nI oc) hx hb hZ.1 hP 1 1 rfl rfl rfl d_Ou_makeRoom_22 ?_
  refine lv_icmp_le (tgt := 54) hx hb d_Ou_makeRoom_23 (by decide) (fun c_23 => ?_) (fun c_23 => ?_)
  · have n_23 : ((min 4000 (m + 48)) * 7) ≤ (oc) := (nI_leI (a := (min 4000 (m + 48)) * 7) (b := oc) (by omega) (by omega)).mp c_23
    exact t_vret hx hb hr hlk d_Ou_makeRoom_54 (hP.subm (ws' := [(u, .inr (4, [.ref ra, .int (nI m), .int x, .int y])), (ra, .inl (cI, oc, .inl fo))]) [0, 1] rfl) (hD.sub (ws' := [(u, .inr (4, [.ref ra, .int (nI m), .int x, .int y])), (ra, .inl (cI, oc, .inl fo))]) [0, 1] rfl rfl) hS ⟨rfl, _, _, _, rfl, (by omega), ⟨rfl, by omega⟩, (by omega), (by omega)⟩
  · have n_23 : ¬ ((min 4000 (m + 48)) * 7) ≤ (oc) := fun z => c_23 ((nI_leI (a := (min 4000 (m + 48)) * 7) (b := oc) (by omega) (by omega)).mpr z)
    refine lv_aload_n hx hb d_Ou_makeRoom_26 rfl (lv_at hl 1 rfl) ?_
    refine lv_aload_n hx hb d_Ou_makeRoom_27 rfl (lv_at hl 1 rfl) ?_
    refine va_get (D := D) (ci := 4) (v := .ref ra) (C := R_Ou) (T := F_Ou) (N := 4) hx hb hts i_Ou hown hZ.1 hP 0 rfl rfl 0 (by decide) (hts _ fl_Ou_11) (fun _ h9 => h9) rfl d_Ou_makeRoom_28 ?_
    refine lv_sipush (v := 28000) hx hb d_Ou_makeRoom_31 (by decide) ?_
    refine lv_iload_n hx hb d_Ou_makeRoom_34 rfl (lv_at hl 0 rfl) ?_
    refine lv_iconst (v := 2) hx hb d_Ou_makeRoom_35 (by decide) ?_
    refine lv_aload_n hx hb d_Ou_makeRoom_36 rfl (lv_at hl 1 rfl) ?_
    refine va_get (D := D) (ci := 4) (v := .ref ra) (C := R_Ou) (T := F_Ou) (N := 4) hx hb hts i_Ou hown hZ.1 hP 0 rfl rfl 0 (by decide) (hts _ fl_Ou_11) (fun _ h9 => h9) rfl d_Ou_makeRoom_37 ?_
    refine va_alen (v := nI oc) hx hb hZ.1 hP 1 1 rfl rfl rfl d_Ou_makeRoom_40 ?_
    refine lv_imul hx hb d_Ou_makeRoom_41 ?_
    refine lv_tv (y := nI (2 * oc)) (pk_mul 2 oc) ?_
    refine roS (As := [.int (nI ((min 4000 (m + 48)) * 7)), .int (nI (2 * oc))]) (rest := [.int 28000, .ref ra, .ref u]) ⟨hx, hb, hml, hown, hts⟩ gd_good (c_Math_max l D cB cI cJ (nI ((min 4000 (m + 48)) * 7)) (nI (2 * oc))) cal_Math_max ml_Ou_35 ⟨Nat.le_of_ble_eq_true rfl, Nat.le_of_ble_eq_true rfl⟩ hZ hP hD (isC := []) ⟨rfl, rfl⟩ rfl hl.1 rfl (Nat.le_of_ble_eq_true rfl) d_Ou_makeRoom_42 ⟨by dsimp only; omega, by dsimp only; omega⟩ (fun v hv => ?_)
    subst hv
    refine lv_tv (y := nI (max (min 4000 (m + 48) * 7) (2 * oc))) (iMax_N (by omega) (by omega)) ?_
    refine roS (As := [.int 28000, .int (nI (max (min 4000 (m + 48) * 7) (2 * oc)))]) (rest := [.ref ra, .ref u]) ⟨hx, hb, hml, hown, hts⟩ gd_good (c_Math_min l D cB cI cJ 28000 (nI (max (min 4000 (m + 48) * 7) (2 * oc)))) cal_Math_min ml_Ou_29 ⟨Nat.le_of_ble_eq_true rfl, Nat.le_of_ble_eq_true rfl⟩ hZ hP hD (isC := []) ⟨rfl, rfl⟩ rfl hl.1 rfl (Nat.le_of_ble_eq_true rfl) d_Ou_makeRoom_45 ⟨by dsimp only; omega, by dsimp only; omega⟩ (fun v hv => ?_)
    subst hv
    refine lv_tv (y := nI (min 28000 (max (min 4000 (m + 48) * 7) (2 * oc)))) (iMin_N (a := 28000) (by omega) (by omega)) ?_
    have hC : Cut [(u, .inr (4, [.ref ra, .int (nI m), .int x, .int y])), (ra, .inl (cI, oc, .inl fo))] [(ra, .inl (cI, oc, .inl fo))] [(u, .inr (4, [.ref ra, .int (nI m), .int x, .int y]))] [1] [0] := ⟨rfl, rfl, rfl, rfl, by decide⟩
    refine goR (trS (As := [.ref ra, .int (nI (min 28000 (max (min 4000 (m + 48) * 7) (2 * oc))))]) (rest := [.ref u]) ⟨hx, hb, hml, hown, hts⟩ gd_good (c_copyOfI l D cB cI cJ ra oc (min 28000 (max (min 4000 (m + 48) * 7) (2 * oc))) fo (by omega) (by omega)) cal_Arrs_copyOf_III ml_Ou_38 ⟨Nat.le_of_ble_eq_true rfl, Nat.le_of_ble_eq_true rfl⟩ hZ hP hD hC rfl hl.1 rfl (Nat.le_of_ble_eq_true rfl) d_Ou_makeRoom_48 ⟨by have hg := gO_grow (c := oc) (j := min 4000 (m + 48) * 7) rfl (by omega); dsimp only; omega, by have hg := gO_grow (c := oc) (j := min 4000 (m + 48) * 7) rfl (by omega); dsimp only; omega⟩) hZ hP hD hS hC (fun r_48 w1 kk_48 qq_48 H locs hq hP hD hS => ?_)
    obtain ⟨rfl, rfl, rfl⟩ := hq
    have hP : va_P D classes [(u, .inr (4, [.ref ra, .int (nI m), .int x, .int y])), (ra, .inl (cI, oc, .inl fo)), (r_48, .inl (cI, (min 28000 (max (min 4000 (m + 48) * 7) (2 * oc))), .inl (va_cpy fo (fun _ => 0) 0 0 oc)))] H := hP
    have hD : va_D A_ [(u, .inr (4, [.ref ra, .int (nI m), .int x, .int y])), (ra, .inl (cI, oc, .inl fo)), (r_48, .inl (cI, (min 28000 (max (min 4000 (m + 48) * 7) (2 * oc))), .inl (va_cpy fo (fun _ => 0) 0 0 oc)))] := hD
    refine va_put (D := D) (ci := 4) (v := .ref r_48) (ty := .array .int) (C := R_Ou) (T := F_Ou) (N := 4) hx hb hts i_Ou t_Ou t_Ou_ok n_Ou hown hZ.1 hP hD hS 0 rfl rfl 0 (by decide) (hts _ fl_Ou_11) (fun _ h9 => h9) rfl (by decide +kernel) rfl rfl (Nat.le_of_ble_eq_true rfl) d_Ou_makeRoom_51 (fun H locs hP hD hS => ?_)
    have hP : va_P D classes [(u, .inr (4, [.ref r_48, .int (nI m), .int x, .int y])), (ra, .inl (cI, oc, .inl fo)), (r_48, .inl (cI, (min 28000 (max (min 4000 (m + 48) * 7) (2 * oc))), .inl (va_cpy fo (fun _ => 0) 0 0 oc)))] H := hP
    have hD : va_D A_ [(u, .inr (4, [.ref r_48, .int (nI m), .int x, .int y])), (ra, .inl (cI, oc, .inl fo)), (r_48, .inl (cI, (min 28000 (max (min 4000 (m + 48) * 7) (2 * oc))), .inl (va_cpy fo (fun _ => 0) 0 0 oc)))] := hD
    exact t_vret hx hb hr hlk d_Ou_makeRoom_54 (hP.subm (ws' := [(u, .inr (4, [.ref r_48, .int (nI m), .int x, .int y])), (r_48, .inl (cI, (min 28000 (max (min 4000 (m + 48) * 7) (2 * oc))), .inl (va_cpy fo (fun _ => 0) 0 0 oc)))]) [0, 2] rfl) (hD.sub (ws' := [(u, .inr (4, [.ref r_48, .int (nI m), .int x, .int y])), (r_48, .inl (cI, (min 28000 (max (min 4000 (m + 48) * 7) (2 * oc))), .inl (va_cpy fo (fun _ => 0) 0 0 oc)))]) [0, 2] rfl rfl) hS (by have hg := gO_grow (c := oc) (j := min 4000 (m + 48) * 7) rfl (by omega); exact ⟨rfl, _, _, _, rfl, (by omega), ⟨uS_cpy (by omega), by omega⟩, (by omega), (by omega)⟩)
set_option maxHeartbeats 1000000 in
set_option maxRecDepth 100000 in
theorem c_Arrs_fill (l : Launch) (D : va_G) (cB cI cJ : ClassId) (a N : Nat) (f : Nat → Int32) (x : Int32) (hN : N < 65536) : Tr l D classes (TY cB cI cJ) gd_tbl nx_tbl y_Arrs_fill b_Arrs_fill 4 none ({ frames := 0, cells := 0, slots := 0, locals := 0 }) [.ref a, .int x] [(a, .inl (cI, N, .inl f))] (pV0 (fun w => ∃ f' : Nat → Int32, w = [(a, .inl (cI, N, .inl f'))] ∧ ∀ i, i < N → f' i = x)) := by
  refine Tr.intro (by decide +kernel) nx_ok (Nat.le_of_ble_eq_true rfl) ?_
  intro p_ e_ s_ m_ args_ below_ meth_ c_ A_ ls hx hb hml hown hts hr hlk hnm hZ hP hD hS hl
  have hl : lv_has ls 4 [(0, .ref a), (1, .int x)] := hl
  refine lv_iconst (v := 0) hx hb d_Arrs_fill_0 (by decide) ?_
  refine lv_istore_n (lv' := [(2, .int 0), (0, .ref a), (1, .int x)]) hx hb d_Arrs_fill_1 rfl hl (by decide) rfl (fun ls hl => ?_)
  refine lv_aload_n hx hb d_Arrs_fill_2 rfl (lv_at hl 1 rfl) ?_
  refine va_alen (v := nI N) hx hb hZ.1 hP 0 1 rfl rfl rfl d_Arrs_fill_3 ?_
  refine lv_istore_n (lv' := [(3, .int (nI N)), (2, .int 0), (0, .ref a), (1, .int x)]) hx hb d_Arrs_fill_4 rfl hl (by decide) rfl (fun ls hl => ?_)
  have lp_5 : ∀ (fu : Nat) (k : Nat) (g : Nat → Int32) (H : Heap) (locs : List Loc) (ls : Array Slot), (k ≤ N ∧ ∀ i, i < k → g i = x) → (N - k) < fu → va_P D classes [(a, .inl (cI, N, .inl g))] H → va_D A_ [(a, .inl (cI, N, .inl g))] → va_S A_ s_.heap H locs → lv_has ls 4 [(0, .ref a), (1, .int x), (2, .int (nI k)), (3, .int (nI N))] → W p_ l e_ ({ frames := 0, cells := 0, slots := 0, locals := 0 }) s_ m_ args_ below_ meth_ c_ H locs (0) (0) (MQT below_ D classes A_ (pV0 (fun w => ∃ f' : Nat → Int32, w = [(a, .inl (cI, N, .inl f'))] ∧ ∀ i, i < N → f' i = x)) s_) (F0 m_ 5 ls []) := by
    intro fu
    induction fu with
    | zero => intro k g H locs ls hinv hfu; exact absurd hfu (Nat.not_lt_zero _)
    | succ fu ih_5 =>
      intro k g H locs ls hinv hfu hP hD hS hl
      obtain ⟨hkN, hg⟩ := hinv
      refine lv_iload_n hx hb d_Arrs_fill_5 rfl (lv_at hl 2 rfl) ?_
      refine lv_iload_n hx hb d_Arrs_fill_6 rfl (lv_at hl 3 rfl) ?_
      refine lv_icmp_ge (tgt := 20) hx hb d_Arrs_fill_7 (by decide) (fun c_7 => ?_) (fun c_7 => ?_)
      · have n_7 : (N) ≤ (k) := (nI_leI (a := N) (b := k) (by omega) (by omega)).mp c_7
        exact t_vret hx hb hr hlk d_Arrs_fill_20 hP hD hS ⟨rfl, rfl, rfl, _, rfl, fun i hi => hg i (by omega)⟩
      · have n_7 : ¬ (N) ≤ (k) := fun z => c_7 ((nI_leI (a := N) (b := k) (by omega) (by omega)).mpr z)
        refine lv_aload_n hx hb d_Arrs_fill_10 rfl (lv_at hl 0 rfl) ?_
        refine lv_iload_n hx hb d_Arrs_fill_11 rfl (lv_at hl 2 rfl) ?_
        refine lv_iload_n hx hb d_Arrs_fill_12 rfl (lv_at hl 1 rfl) ?_
        refine va_iast hx hb hZ.1 hP hD hS 0 1 rfl rfl (vp_in_nI (by omega) (by omega)) d_Arrs_fill_13 (fun H locs hP hD hS => ?_)
        rw [show ((nI k).toNatClampNeg) = k from nI_clamp (by omega)] at hP hD
        have hP : va_P D classes [(a, .inl (cI, N, .inl (upd g k x)))] H := hP
        have hD : va_D A_ [(a, .inl (cI, N, .inl (upd g k x)))] := hD
        refine lv_iinc (v := nI (k + 1)) (lv' := [(2, .int (nI (k + 1))), (0, .ref a), (1, .int x), (3, .int (nI N))]) hx hb d_Arrs_fill_14 hl (k := 2) rfl (nI_add k 1) (by decide) rfl (fun ls hl => ?_)
        refine lv_goto (tgt := 5) hx hb d_Arrs_fill_17 (by decide) ?_
        exact ih_5  (k + 1) (upd g k x) _ _ _ ⟨by omega, upd_all hg⟩ (by omega) (hP.subm [0] rfl) (hD.sub [0] rfl rfl) hS (lv_sub hl [1, 2, 0, 3] rfl)
  exact lp_5 _ 0 f _ _ _ ⟨by omega, fun i hi => absurd hi (Nat.not_lt_zero _)⟩ (Nat.lt_succ_self _) (hP.subm [0] rfl) (hD.sub [0] rfl rfl) hS (lv_sub hl [2, 3, 1, 0] rfl)
set_option maxHeartbeats 1000000 in
set_option maxRecDepth 100000 in
theorem c_Re_clear (l : Launch) (D : va_G) (cB cI cJ : ClassId) (re rp : Nat) (fp : Nat → Int32) : Tr l D classes (TY cB cI cJ) gd_tbl nx_tbl y_Re_clear b_Re_clear 1 none ({ frames := 1, cells := 0, slots := 0, locals := 23 }) [.ref re] [(re, .inr (5, [.ref rp])), (rp, .inl (cI, 32, .inl fp))] (pV0 (fun w => ∃ (fp' : Nat → Int32), w = [(re, .inr (5, [.ref rp])), (rp, .inl (cI, 32, .inl fp'))] ∧ (trunc 32 fp' = zero7))) := by
  refine Tr.intro (by decide +kernel) nx_ok (Nat.le_of_ble_eq_true rfl) ?_
  intro p_ e_ s_ m_ args_ below_ meth_ c_ A_ ls hx hb hml hown hts hr hlk hnm hZ hP hD hS hl
  have hl : lv_has ls 1 [(0, .ref re)] := hl
  refine lv_aload_n hx hb d_Re_clear_0 rfl (lv_at hl 0 rfl) ?_
  refine va_get (D := D) (ci := 5) (v := .ref rp) (C := R_Re) (T := F_Re) (N := 1) hx hb hts i_Re hown hZ.1 hP 0 rfl rfl 0 (by decide) (hts _ fl_Re_9) (fun _ h9 => h9) rfl d_Re_clear_1 ?_
  refine lv_iconst (v := 0) hx hb d_Re_clear_4 (by decide) ?_
  have hC : Cut [(re, .inr (5, [.ref rp])), (rp, .inl (cI, 32, .inl fp))] [(rp, .inl (cI, 32, .inl fp))] [(re, .inr (5, [.ref rp]))] [1] [0] := ⟨rfl, rfl, rfl, rfl, by decide⟩
  refine goV0 (trS (As := [.ref rp, .int 0]) (rest := []) ⟨hx, hb, hml, hown, hts⟩ gd_good (c_Arrs_fill l D cB cI cJ rp 32 fp 0 (by omega)) cal_Arrs_fill ml_Re_15 ⟨Nat.le_of_ble_eq_true rfl, Nat.le_of_ble_eq_true rfl⟩ hZ hP hD hC rfl hl.1 rfl (Nat.le_of_ble_eq_true rfl) d_Re_clear_5 ⟨Nat.le_of_ble_eq_true rfl, Nat.le_of_ble_eq_true rfl⟩) hZ hP hD hS hC (fun w1 H locs hq hP hD hS => ?_)
  obtain ⟨ff_5, rfl, hf_5⟩ := hq
  have hP : va_P D classes [(re, .inr (5, [.ref rp])), (rp, .inl (cI, 32, .inl ff_5))] H := hP
  have hD : va_D A_ [(re, .inr (5, [.ref rp])), (rp, .inl (cI, 32, .inl ff_5))] := hD
  exact t_vret hx hb hr hlk d_Re_clear_8 (hP.subm (ws' := [(re, .inr (5, [.ref rp])), (rp, .inl (cI, 32, .inl ff_5))]) [0, 1] rfl) (hD.sub (ws' := [(re, .inr (5, [.ref rp])), (rp, .inl (cI, 32, .inl ff_5))]) [0, 1] rfl rfl) hS ⟨rfl, rfl, rfl, _, rfl, (trunc_z hf_5)⟩
set_option maxHeartbeats 1000000 in
set_option maxRecDepth 100000 in
theorem c_St_shelf (l : Launch) (D : va_G) (cB cI cJ : ClassId) (s e0 e1 e2 ki pl en d : Nat) (dp k : Int32) : Ro l D classes (TY cB cI cJ) gd_tbl nx_tbl y_St_shelf b_St_shelf 2 (some (.object "CharOutlines$Shelf")) ({ frames := 0, cells := 0, slots := 0, locals := 0 }) [.ref s, .int k] [(s, .inr (2, [.ref e0, .ref e1, .ref e2, .ref ki, .ref pl, .ref en, .int (nI d), .int dp]))] (fun v => v = .ref (selK k e0 e1 e2)) := by
  refine Ro.intro (by decide +kernel) nx_ok (Nat.le_of_ble_eq_true rfl) ?_
  intro p_ e_ s_ m_ args_ below_ meth_ c_ A_ ls hx hb hml hown hts hr hlk hnm hZ hP hD hl
  have hl : lv_has ls 2 [(0, .ref s), (1, .int k)] := hl
  refine lv_iload_n hx hb d_St_shelf_0 rfl (lv_at hl 1 rfl) ?_
  by_cases h_1_1 : k = 1
  · refine lv_lookup (tgt := 28) (off := 27) hx hb d_St_shelf_1 (by decide) (by first | (rw [h_1_1]; done) | (rw [h_1_1]; rfl)) (by decide) ?_
    refine lv_aload_n hx hb d_St_shelf_28 rfl (lv_at hl 0 rfl) ?_
    refine va_get (D := D) (ci := 2) (v := .ref e1) (C := R_St) (T := F_St) (N := 8) hx hb hts i_St hown hZ.1 hP 0 rfl rfl 1 (by decide) (hts _ fl_St_18) (fun _ h9 => h9) rfl d_St_shelf_29 ?_
    exact r_aret hx hb hr (Or.inl ⟨_, rfl⟩) hlk d_St_shelf_32 (by simp [selK, h_1_1])
  by_cases h_1_2 : k = 2
  · refine lv_lookup (tgt := 33) (off := 32) hx hb d_St_shelf_1 (by decide) (by first | (rw [h_1_2]; done) | (rw [h_1_2]; rfl)) (by decide) ?_
    refine lv_aload_n hx hb d_St_shelf_33 rfl (lv_at hl 0 rfl) ?_
    refine va_get (D := D) (ci := 2) (v := .ref e2) (C := R_St) (T := F_St) (N := 8) hx hb hts i_St hown hZ.1 hP 0 rfl rfl 2 (by decide) (hts _ fl_St_21) (fun _ h9 => h9) rfl d_St_shelf_34 ?_
    exact r_aret hx hb hr (Or.inl ⟨_, rfl⟩) hlk d_St_shelf_37 (by simp [selK, h_1_2])
  refine lv_lookup (tgt := 38) (off := 37) hx hb d_St_shelf_1 (by decide) (by show Op.lookupswitch.offset _ _ _ = _; first | (rw [lv_osw h_1_1 (by decide), lv_osw h_1_2 (by decide)]; done) | (rw [lv_osw h_1_1 (by decide), lv_osw h_1_2 (by decide)]; rfl)) (by decide) ?_
  refine lv_aload_n hx hb d_St_shelf_38 rfl (lv_at hl 0 rfl) ?_
  refine va_get (D := D) (ci := 2) (v := .ref e0) (C := R_St) (T := F_St) (N := 8) hx hb hts i_St hown hZ.1 hP 0 rfl rfl 0 (by decide) (hts _ fl_St_12) (fun _ h9 => h9) rfl d_St_shelf_39 ?_
  exact r_aret hx hb hr (Or.inl ⟨_, rfl⟩) hlk d_St_shelf_42 (by simp [selK, h_1_1, h_1_2])
set_option maxHeartbeats 1000000 in
set_option maxRecDepth 100000 in
theorem c_St_deepest (l : Launch) (D : va_G) (cB cI cJ : ClassId) (s e0 e1 e2 ki pl en d : Nat) (dp : Int32) : Ro l D classes (TY cB cI cJ) gd_tbl nx_tbl y_St_deepest b_St_deepest 1 (some .int) ({ frames := 0, cells := 0, slots := 0, locals := 0 }) [.ref s] [(s, .inr (2, [.ref e0, .ref e1, .ref e2, .ref ki, .ref pl, .ref en, .int (nI d), .int dp]))] (fun v => v = .int dp) := by
  refine Ro.intro (by decide +kernel) nx_ok (Nat.le_of_ble_eq_true rfl) ?_
  intro p_ e_ s_ m_ args_ below_ meth_ c_ A_ ls hx hb hml hown hts hr hlk hnm hZ hP hD hl
  have hl : lv_has ls 1 [(0, .ref s)] := hl
  refine lv_aload_n hx hb d_St_deepest_0 rfl (lv_at hl 0 rfl) ?_
  refine va_get (D := D) (ci := 2) (v := .int dp) (C := R_St) (T := F_St) (N := 8) hx hb hts i_St hown hZ.1 hP 0 rfl rfl 7 (by decide) (hts _ fl_St_34) (fun _ h9 => h9) rfl d_St_deepest_1 ?_
  exact r_iret hx hb hr hlk d_St_deepest_4 rfl
set_option maxHeartbeats 1000000 in
set_option maxRecDepth 100000 in
theorem c_St_enter_0 (l : Launch) (D : va_G) (cB cI cJ : ClassId) (s ki pl en e0 h0 a0 m0 l0 c0 e1 h1 a1 m1 l1 c1 e2 h2 a2 m2 l2 c2 : Nat) (f0 : Nat → Int32) (f1 : Nat → Int32) (f2 : Nat → Int32) (d : Nat) (dp : Int32) (fk : Nat → Int32) (fl : Nat → Int32) (fz : Nat → Int32) (k : Int32) (hiSy : d ≤ 10) (hhSy : (l0 ≤ c0 ∧ c0 ≤ 16384) ∧ (l1 ≤ c1 ∧ c1 ≤ 16384) ∧ (l2 ≤ c2 ∧ c2 ≤ 16384)) : Tr l D classes (TY cB cI cJ) gd_tbl nx_tbl y_St_enter b_St_enter 3 (some .int) ({ frames := 3, cells := 0, slots := 0, locals := 68 }) [.ref s, .int 0, .int k] [(s, .inr (2, [.ref e0, .ref e1, .ref e2, .ref ki, .ref pl, .ref en, .int (nI d), .int dp])), (ki, .inl (cI, 10, .inl fk)), (pl, .inl (cI, 10, .inl fl)), (en, .inl (cI, 10, .inl fz)), (e0, .inr (1, [.ref h0, .int (nI m0)])), (h0, .inr (0, [.ref a0, .int (nI l0)])), (a0, .inl (cB, c0, .inl f0)), (e1, .inr (1, [.ref h1, .int (nI m1)])), (h1, .inr (0, [.ref a1, .int (nI l1)])), (a1, .inl (cB, c1, .inl f1)), (e2, .inr (1, [.ref h2, .int (nI m2)])), (h2, .inr (0, [.ref a2, .int (nI l2)])), (a2, .inl (cB, c2, .inl f2))] (pI0 (fun r w => ∃ (d' : Nat) (dp' : Int32) (fk' : Nat → Int32) (fl' : Nat → Int32) (fz' : Nat → Int32), w = [(s, .inr (2, [.ref e0, .ref e1, .ref e2, .ref ki, .ref pl, .ref en, .int (nI d'), .int dp'])), (ki, .inl (cI, 10, .inl fk')), (pl, .inl (cI, 10, .inl fl')), (en, .inl (cI, 10, .inl fz')), (e0, .inr (1, [.ref h0, .int (nI m0)])), (h0, .inr (0, [.ref a0, .int (nI l0)])), (a0, .inl (cB, c0, .inl f0)), (e1, .inr (1, [.ref h1, .int (nI m1)])), (h1, .inr (0, [.ref a1, .int (nI l1)])), (a1, .inl (cB, c1, .inl f1)), (e2, .inr (1, [.ref h2, .int (nI m2)])), (h2, .inr (0, [.ref a2, .int (nI l2)])), (a2, .inl (cB, c2, .inl f2))] ∧ (d' ≤ 10) ∧ (qR r (sS d' fk' fl' fz') = gP (enterP ((m0, l0, f0), (m1, l1, f1), (m2, l2, f2)) (sS d fk fl fz) 0 k)))) := by
  refine Tr.intro (by decide +kernel) nx_ok (Nat.le_of_ble_eq_true rfl) ?_
  intro p_ e_ s_ m_ args_ below_ meth_ c_ A_ ls hx hb hml hown hts hr hlk hnm hZ hP hD hS hl
  have hl : lv_has ls 3 [(0, .ref s), (1, .int 0), (2, .int k)] := hl
  refine lv_aload_n hx hb d_St_enter_0 rfl (lv_at hl 0 rfl) ?_
  refine lv_iload_n hx hb d_St_enter_1 rfl (lv_at hl 1 rfl) ?_
  refine roV (As := [.int 0]) (rest := []) ⟨hx, hb, hml, hown, hts⟩ gd_good (c_St_shelf l D cB cI cJ s e0 e1 e2 ki pl en d dp 0) cal_St_shelf ml_St_45 ⟨Nat.le_of_ble_eq_true rfl, Nat.le_of_ble_eq_true rfl⟩ hZ hP hD (isC := [0]) ⟨rfl, rfl⟩ 0 (ci := 2) rfl rfl rfl rfl hl.1 rfl (Nat.le_of_ble_eq_true rfl) d_St_enter_2 ⟨Nat.le_of_ble_eq_true rfl, Nat.le_of_ble_eq_true rfl⟩ (fun v hv => ?_)
  have hv : v = .ref e0 := hv
  subst hv
  refine lv_iload_n hx hb d_St_enter_5 rfl (lv_at hl 2 rfl) ?_
  refine roV (As := [.int k]) (rest := []) ⟨hx, hb, hml, hown, hts⟩ gd_good (c_Sh_has l D cB cI cJ e0 h0 m0 k) cal_Sh_has ml_St_49 ⟨Nat.le_of_ble_eq_true rfl, Nat.le_of_ble_eq_true rfl⟩ hZ hP hD (isC := [4]) ⟨rfl, rfl⟩ 4 (ci := 1) rfl rfl rfl rfl hl.1 rfl (Nat.le_of_ble_eq_true rfl) d_St_enter_6 ⟨Nat.le_of_ble_eq_true rfl, Nat.le_of_ble_eq_true rfl⟩ (fun v hv => ?_)
  subst hv
  refine lv_if_ne (tgt := 15) hx hb d_St_enter_9 (by decide) (fun c_9 => ?_) (fun c_9 => ?_)
  · refine lv_aload_n hx hb d_St_enter_15 rfl (lv_at hl 0 rfl) ?_
    refine va_get (D := D) (ci := 2) (v := .int (nI d)) (C := R_St) (T := F_St) (N := 8) hx hb hts i_St hown hZ.1 hP 0 rfl rfl 6 (by decide) (hts _ fl_St_38) (fun _ h9 => h9) rfl d_St_enter_16 ?_
    refine lv_bipush (v := 10) hx hb d_St_enter_19 (by decide) ?_
    refine lv_icmp_lt (tgt := 27) hx hb d_St_enter_21 (by decide) (fun c_21 => ?_) (fun c_21 => ?_)
    · have n_21 : (d) < (10) := (nI_ltI (a := d) (b := 10) (by omega) (by omega)).mp c_21
      refine lv_aload_n hx hb d_St_enter_27 rfl (lv_at hl 0 rfl) ?_
      refine va_get (D := D) (ci := 2) (v := .ref ki) (C := R_St) (T := F_St) (N := 8) hx hb hts i_St hown hZ.1 hP 0 rfl rfl 3 (by decide) (hts _ fl_St_24) (fun _ h9 => h9) rfl d_St_enter_28 ?_
      refine lv_aload_n hx hb d_St_enter_31 rfl (lv_at hl 0 rfl) ?_
      refine va_get (D := D) (ci := 2) (v := .int (nI d)) (C := R_St) (T := F_St) (N := 8) hx hb hts i_St hown hZ.1 hP 0 rfl rfl 6 (by decide) (hts _ fl_St_38) (fun _ h9 => h9) rfl d_St_enter_32 ?_
      refine lv_iload_n hx hb d_St_enter_35 rfl (lv_at hl 1 rfl) ?_
      refine va_iast hx hb hZ.1 hP hD hS 1 1 rfl rfl (vp_in_nI (by omega) (by omega)) d_St_enter_36 (fun H locs hP hD hS => ?_)
      rw [show ((nI d).toNatClampNeg) = d from nI_clamp (by omega)] at hP hD
      have hP : va_P D classes [(s, .inr (2, [.ref e0, .ref e1, .ref e2, .ref ki, .ref pl, .ref en, .int (nI d), .int dp])), (ki, .inl (cI, 10, .inl (upd fk d 0))), (pl, .inl (cI, 10, .inl fl)), (en, .inl (cI, 10, .inl fz)), (e0, .inr (1, [.ref h0, .int (nI m0)])), (h0, .inr (0, [.ref a0, .int (nI l0)])), (a0, .inl (cB, c0, .inl f0)), (e1, .inr (1, [.ref h1, .int (nI m1)])), (h1, .inr (0, [.ref a1, .int (nI l1)])), (a1, .inl (cB, c1, .inl f1)), (e2, .inr (1, [.ref h2, .int (nI m2)])), (h2, .inr (0, [.ref a2, .int (nI l2)])), (a2, .inl (cB, c2, .inl f2))] H := hP
      have hD : va_D A_ [(s, .inr (2, [.ref e0, .ref e1, .ref e2, .ref ki, .ref pl, .ref en, .int (nI d), .int dp])), (ki, .inl (cI, 10, .inl (upd fk d 0))), (pl, .inl (cI, 10, .inl fl)), (en, .inl (cI, 10, .inl fz)), (e0, .inr (1, [.ref h0, .int (nI m0)])), (h0, .inr (0, [.ref a0, .int (nI l0)])), (a0, .inl (cB, c0, .inl f0)), (e1, .inr (1, [.ref h1, .int (nI m1)])), (h1, .inr (0, [.ref a1, .int (nI l1)])), (a1, .inl (cB, c1, .inl f1)), (e2, .inr (1, [.ref h2, .int (nI m2)])), (h2, .inr (0, [.ref a2, .int (nI l2)])), (a2, .inl (cB, c2, .inl f2))] := hD
      refine lv_aload_n hx hb d_St_enter_37 rfl (lv_at hl 0 rfl) ?_
      refine va_get (D := D) (ci := 2) (v := .ref pl) (C := R_St) (T := F_St) (N := 8) hx hb hts i_St hown hZ.1 hP 0 rfl rfl 4 (by decide) (hts _ fl_St_28) (fun _ h9 => h9) rfl d_St_enter_38 ?_
      refine lv_aload_n hx hb d_St_enter_41 rfl (lv_at hl 0 rfl) ?_
      refine va_get (D := D) (ci := 2) (v := .int (nI d)) (C := R_St) (T := F_St) (N := 8) hx hb hts i_St hown hZ.1 hP 0 rfl rfl 6 (by decide) (hts _ fl_St_38) (fun _ h9 => h9) rfl d_St_enter_42 ?_
      refine lv_aload_n hx hb d_St_enter_45 rfl (lv_at hl 0 rfl) ?_
      refine lv_iload_n hx hb d_St_enter_46 rfl (lv_at hl 1 rfl) ?_
      refine roV (As := [.int 0]) (rest := [.int (nI d), .ref pl]) ⟨hx, hb, hml, hown, hts⟩ gd_good (c_St_shelf l D cB cI cJ s e0 e1 e2 ki pl en d dp 0) cal_St_shelf ml_St_45 ⟨Nat.le_of_ble_eq_true rfl, Nat.le_of_ble_eq_true rfl⟩ hZ hP hD (isC := [0]) ⟨rfl, rfl⟩ 0 (ci := 2) rfl rfl rfl rfl hl.1 rfl (Nat.le_of_ble_eq_true rfl) d_St_enter_47 ⟨Nat.le_of_ble_eq_true rfl, Nat.le_of_ble_eq_true rfl⟩ (fun v hv => ?_)
      have hv : v = .ref e0 := hv
      subst hv
      refine lv_iload_n hx hb d_St_enter_50 rfl (lv_at hl 2 rfl) ?_
      refine roV (As := [.int k]) (rest := [.int (nI d), .ref pl]) ⟨hx, hb, hml, hown, hts⟩ gd_good (c_Sh_start l D cB cI cJ e0 h0 a0 m0 l0 c0 f0 k (by omega)) cal_Sh_start ml_St_53 ⟨Nat.le_of_ble_eq_true rfl, Nat.le_of_ble_eq_true rfl⟩ hZ hP hD (isC := [4, 5, 6]) ⟨rfl, rfl⟩ 4 (ci := 1) rfl rfl rfl rfl hl.1 rfl (Nat.le_of_ble_eq_true rfl) d_St_enter_51 ⟨Nat.le_of_ble_eq_true rfl, Nat.le_of_ble_eq_true rfl⟩ (fun v hv => ?_)
      subst hv
      refine va_iast hx hb hZ.1 hP hD hS 2 1 rfl rfl (vp_in_nI (by omega) (by omega)) d_St_enter_54 (fun H locs hP hD hS => ?_)
      rw [show ((nI d).toNatClampNeg) = d from nI_clamp (by omega)] at hP hD
      have hP : va_P D classes [(s, .inr (2, [.ref e0, .ref e1, .ref e2, .ref ki, .ref pl, .ref en, .int (nI d), .int dp])), (ki, .inl (cI, 10, .inl (upd fk d 0))), (pl, .inl (cI, 10, .inl (upd fl d (startX m0 l0 f0 k)))), (en, .inl (cI, 10, .inl fz)), (e0, .inr (1, [.ref h0, .int (nI m0)])), (h0, .inr (0, [.ref a0, .int (nI l0)])), (a0, .inl (cB, c0, .inl f0)), (e1, .inr (1, [.ref h1, .int (nI m1)])), (h1, .inr (0, [.ref a1, .int (nI l1)])), (a1, .inl (cB, c1, .inl f1)), (e2, .inr (1, [.ref h2, .int (nI m2)])), (h2, .inr (0, [.ref a2, .int (nI l2)])), (a2, .inl (cB, c2, .inl f2))] H := hP
      have hD : va_D A_ [(s, .inr (2, [.ref e0, .ref e1, .ref e2, .ref ki, .ref pl, .ref en, .int (nI d), .int dp])), (ki, .inl (cI, 10, .inl (upd fk d 0))), (pl, .inl (cI, 10, .inl (upd fl d (startX m0 l0 f0 k)))), (en, .inl (cI, 10, .inl fz)), (e0, .inr (1, [.ref h0, .int (nI m0)])), (h0, .inr (0, [.ref a0, .int (nI l0)])), (a0, .inl (cB, c0, .inl f0)), (e1, .inr (1, [.ref h1, .int (nI m1)])), (h1, .inr (0, [.ref a1, .int (nI l1)])), (a1, .inl (cB, c1, .inl f1)), (e2, .inr (1, [.ref h2, .int (nI m2)])), (h2, .inr (0, [.ref a2, .int (nI l2)])), (a2, .inl (cB, c2, .inl f2))] := hD
      refine lv_aload_n hx hb d_St_enter_55 rfl (lv_at hl 0 rfl) ?_
      refine va_get (D := D) (ci := 2) (v := .ref en) (C := R_St) (T := F_St) (N := 8) hx hb hts i_St hown hZ.1 hP 0 rfl rfl 5 (by decide) (hts _ fl_St_31) (fun _ h9 => h9) rfl d_St_enter_56 ?_
      refine lv_aload_n hx hb d_St_enter_59 rfl (lv_at hl 0 rfl) ?_
      refine va_get (D := D) (ci := 2) (v := .int (nI d)) (C := R_St) (T := F_St) (N := 8) hx hb hts i_St hown hZ.1 hP 0 rfl rfl 6 (by decide) (hts _ fl_St_38) (fun _ h9 => h9) rfl d_St_enter_60 ?_
      refine lv_aload_n hx hb d_St_enter_63 rfl (lv_at hl 0 rfl) ?_
      refine lv_iload_n hx hb d_St_enter_64 rfl (lv_at hl 1 rfl) ?_
      refine roV (As := [.int 0]) (rest := [.int (nI d), .ref en]) ⟨hx, hb, hml, hown, hts⟩ gd_good (c_St_shelf l D cB cI cJ s e0 e1 e2 ki pl en d dp 0) cal_St_shelf ml_St_45 ⟨Nat.le_of_ble_eq_true rfl, Nat.le_of_ble_eq_true rfl⟩ hZ hP hD (isC := [0]) ⟨rfl, rfl⟩ 0 (ci := 2) rfl rfl rfl rfl hl.1 rfl (Nat.le_of_ble_eq_true rfl) d_St_enter_65 ⟨Nat.le_of_ble_eq_true rfl, Nat.le_of_ble_eq_true rfl⟩ (fun v hv => ?_)
      have hv : v = .ref e0 := hv
      subst hv
      refine lv_iload_n hx hb d_St_enter_68 rfl (lv_at hl 2 rfl) ?_
      refine lv_iconst (v := 1) hx hb d_St_enter_69 (by decide) ?_
      refine lv_iadd hx hb d_St_enter_70 ?_
      refine roV (As := [.int (k + 1)]) (rest := [.int (nI d), .ref en]) ⟨hx, hb, hml, hown, hts⟩ gd_good (c_Sh_start l D cB cI cJ e0 h0 a0 m0 l0 c0 f0 (k + 1) (by omega)) cal_Sh_start ml_St_53 ⟨Nat.le_of_ble_eq_true rfl, Nat.le_of_ble_eq_true rfl⟩ hZ hP hD (isC := [4, 5, 6]) ⟨rfl, rfl⟩ 4 (ci := 1) rfl rfl rfl rfl hl.1 rfl (Nat.le_of_ble_eq_true rfl) d_St_enter_71 ⟨Nat.le_of_ble_eq_true rfl, Nat.le_of_ble_eq_true rfl⟩ (fun v hv => ?_)
      subst hv
      refine va_iast hx hb hZ.1 hP hD hS 3 1 rfl rfl (vp_in_nI (by omega) (by omega)) d_St_enter_74 (fun H locs hP hD hS => ?_)
      rw [show ((nI d).toNatClampNeg) = d from nI_clamp (by omega)] at hP hD
      have hP : va_P D classes [(s, .inr (2, [.ref e0, .ref e1, .ref e2, .ref ki, .ref pl, .ref en, .int (nI d), .int dp])), (ki, .inl (cI, 10, .inl (upd fk d 0))), (pl, .inl (cI, 10, .inl (upd fl d (startX m0 l0 f0 k)))), (en, .inl (cI, 10, .inl (upd fz d (startX m0 l0 f0 (k + 1))))), (e0, .inr (1, [.ref h0, .int (nI m0)])), (h0, .inr (0, [.ref a0, .int (nI l0)])), (a0, .inl (cB, c0, .inl f0)), (e1, .inr (1, [.ref h1, .int (nI m1)])), (h1, .inr (0, [.ref a1, .int (nI l1)])), (a1, .inl (cB, c1, .inl f1)), (e2, .inr (1, [.ref h2, .int (nI m2)])), (h2, .inr (0, [.ref a2, .int (nI l2)])), (a2, .inl (cB, c2, .inl f2))] H := hP
      have hD : va_D A_ [(s, .inr (2, [.ref e0, .ref e1, .ref e2, .ref ki, .ref pl, .ref en, .int (nI d), .int dp])), (ki, .inl (cI, 10, .inl (upd fk d 0))), (pl, .inl (cI, 10, .inl (upd fl d (startX m0 l0 f0 k)))), (en, .inl (cI, 10, .inl (upd fz d (startX m0 l0 f0 (k + 1))))), (e0, .inr (1, [.ref h0, .int (nI m0)])), (h0, .inr (0, [.ref a0, .int (nI l0)])), (a0, .inl (cB, c0, .inl f0)), (e1, .inr (1, [.ref h1, .int (nI m1)])), (h1, .inr (0, [.ref a1, .int (nI l1)])), (a1, .inl (cB, c1, .inl f1)), (e2, .inr (1, [.ref h2, .int (nI m2)])), (h2, .inr (0, [.ref a2, .int (nI l2)])), (a2, .inl (cB, c2, .inl f2))] := hD
      refine lv_aload_n hx hb d_St_enter_75 rfl (lv_at hl 0 rfl) ?_
      refine lv_dup hx hb d_St_enter_76 rfl ?_
      refine va_get (D := D) (ci := 2) (v := .int (nI d)) (C := R_St) (T := F_St) (N := 8) hx hb hts i_St hown hZ.1 hP 0 rfl rfl 6 (by decide) (hts _ fl_St_38) (fun _ h9 => h9) rfl d_St_enter_77 ?_
      refine lv_iconst (v := 1) hx hb d_St_enter_80 (by decide) ?_
      refine lv_iadd hx hb d_St_enter_81 ?_
      refine lv_tv (y := nI (d + 1)) (nI_add d 1) ?_
      refine va_put (D := D) (ci := 2) (v := .int (nI (d + 1))) (ty := .int) (C := R_St) (T := F_St) (N := 8) hx hb hts i_St t_St t_St_ok n_St hown hZ.1 hP hD hS 0 rfl rfl 6 (by decide) (hts _ fl_St_38) (fun _ h9 => h9) rfl (by decide +kernel) rfl rfl (Nat.le_of_ble_eq_true rfl) d_St_enter_82 (fun H locs hP hD hS => ?_)
      have hP : va_P D classes [(s, .inr (2, [.ref e0, .ref e1, .ref e2, .ref ki, .ref pl, .ref en, .int (nI (d + 1)), .int dp])), (ki, .inl (cI, 10, .inl (upd fk d 0))), (pl, .inl (cI, 10, .inl (upd fl d (startX m0 l0 f0 k)))), (en, .inl (cI, 10, .inl (upd fz d (startX m0 l0 f0 (k + 1))))), (e0, .inr (1, [.ref h0, .int (nI m0)])), (h0, .inr (0, [.ref a0, .int (nI l0)])), (a0, .inl (cB, c0, .inl f0)), (e1, .inr (1, [.ref h1, .int (nI m1)])), (h1, .inr (0, [.ref a1, .int (nI l1)])), (a1, .inl (cB, c1, .inl f1)), (e2, .inr (1, [.ref h2, .int (nI m2)])), (h2, .inr (0, [.ref a2, .int (nI l2)])), (a2, .inl (cB, c2, .inl f2))] H := hP
      have hD : va_D A_ [(s, .inr (2, [.ref e0, .ref e1, .ref e2, .ref ki, .ref pl, .ref en, .int (nI (d + 1)), .int dp])), (ki, .inl (cI, 10, .inl (upd fk d 0))), (pl, .inl (cI, 10, .inl (upd fl d (startX m0 l0 f0 k)))), (en, .inl (cI, 10, .inl (upd fz d (startX m0 l0 f0 (k + 1))))), (e0, .inr (1, [.ref h0, .int (nI m0)])), (h0, .inr (0, [.ref a0, .int (nI l0)])), (a0, .inl (cB, c0, .inl f0)), (e1, .inr (1, [.ref h1, .int (nI m1)])), (h1, .inr (0, [.ref a1, .int (nI l1)])), (a1, .inl (cB, c1, .inl f1)), (e2, .inr (1, [.ref h2, .int (nI m2)])), (h2, .inr (0, [.ref a2, .int (nI l2)])), (a2, .inl (cB, c2, .inl f2))] := hD
      refine lv_aload_n hx hb d_St_enter_85 rfl (lv_at hl 0 rfl) ?_
      refine lv_aload_n hx hb d_St_enter_86 rfl (lv_at hl 0 rfl) ?_
      refine va_get (D := D) (ci := 2) (v := .int dp) (C := R_St) (T := F_St) (N := 8) hx hb hts i_St hown hZ.1 hP 0 rfl rfl 7 (by decide) (hts _ fl_St_34) (fun _ h9 => h9) rfl d_St_enter_87 ?_
      refine lv_aload_n hx hb d_St_enter_90 rfl (lv_at hl 0 rfl) ?_
      refine va_get (D := D) (ci := 2) (v := .int (nI (d + 1))) (C := R_St) (T := F_St) (N := 8) hx hb hts i_St hown hZ.1 hP 0 rfl rfl 6 (by decide) (hts _ fl_St_38) (fun _ h9 => h9) rfl d_St_enter_91 ?_
      refine roS (As := [.int dp, .int (nI (d + 1))]) (rest := [.ref s]) ⟨hx, hb, hml, hown, hts⟩ gd_good (c_Math_max l D cB cI cJ dp (nI (d + 1))) cal_Math_max ml_St_57 ⟨Nat.le_of_ble_eq_true rfl, Nat.le_of_ble_eq_true rfl⟩ hZ hP hD (isC := []) ⟨rfl, rfl⟩ rfl hl.1 rfl (Nat.le_of_ble_eq_true rfl) d_St_enter_94 ⟨Nat.le_of_ble_eq_true rfl, Nat.le_of_ble_eq_true rfl⟩ (fun v hv => ?_)
      subst hv
      refine va_put (D := D) (ci := 2) (v := .int (iMax dp (nI (d + 1)))) (ty := .int) (C := R_St) (T := F_St) (N := 8) hx hb hts i_St t_St t_St_ok n_St hown hZ.1 hP hD hS 0 rfl rfl 7 (by decide) (hts _ fl_St_34) (fun _ h9 => h9) rfl (by decide +kernel) rfl rfl (Nat.le_of_ble_eq_true rfl) d_St_enter_97 (fun H locs hP hD hS => ?_)
      have hP : va_P D classes [(s, .inr (2, [.ref e0, .ref e1, .ref e2, .ref ki, .ref pl, .ref en, .int (nI (d + 1)), .int (iMax dp (nI (d + 1)))])), (ki, .inl (cI, 10, .inl (upd fk d 0))), (pl, .inl (cI, 10, .inl (upd fl d (startX m0 l0 f0 k)))), (en, .inl (cI, 10, .inl (upd fz d (startX m0 l0 f0 (k + 1))))), (e0, .inr (1, [.ref h0, .int (nI m0)])), (h0, .inr (0, [.ref a0, .int (nI l0)])), (a0, .inl (cB, c0, .inl f0)), (e1, .inr (1, [.ref h1, .int (nI m1)])), (h1, .inr (0, [.ref a1, .int (nI l1)])), (a1, .inl (cB, c1, .inl f1)), (e2, .inr (1, [.ref h2, .int (nI m2)])), (h2, .inr (0, [.ref a2, .int (nI l2)])), (a2, .inl (cB, c2, .inl f2))] H := hP
      have hD : va_D A_ [(s, .inr (2, [.ref e0, .ref e1, .ref e2, .ref ki, .ref pl, .ref en, .int (nI (d + 1)), .int (iMax dp (nI (d + 1)))])), (ki, .inl (cI, 10, .inl (upd fk d 0))), (pl, .inl (cI, 10, .inl (upd fl d (startX m0 l0 f0 k)))), (en, .inl (cI, 10, .inl (upd fz d (startX m0 l0 f0 (k + 1))))), (e0, .inr (1, [.ref h0, .int (nI m0)])), (h0, .inr (0, [.ref a0, .int (nI l0)])), (a0, .inl (cB, c0, .inl f0)), (e1, .inr (1, [.ref h1, .int (nI m1)])), (h1, .inr (0, [.ref a1, .int (nI l1)])), (a1, .inl (cB, c1, .inl f1)), (e2, .inr (1, [.ref h2, .int (nI m2)])), (h2, .inr (0, [.ref a2, .int (nI l2)])), (a2, .inl (cB, c2, .inl f2))] := hD
      refine lv_iconst (v := 0) hx hb d_St_enter_100 (by decide) ?_
      exact t_iret hx hb hr hlk d_St_enter_101 (hP.subm (ws' := [(s, .inr (2, [.ref e0, .ref e1, .ref e2, .ref ki, .ref pl, .ref en, .int (nI (d + 1)), .int (iMax dp (nI (d + 1)))])), (ki, .inl (cI, 10, .inl (upd fk d 0))), (pl, .inl (cI, 10, .inl (upd fl d (startX m0 l0 f0 k)))), (en, .inl (cI, 10, .inl (upd fz d (startX m0 l0 f0 (k + 1))))), (e0, .inr (1, [.ref h0, .int (nI m0)])), (h0, .inr (0, [.ref a0, .int (nI l0)])), (a0, .inl (cB, c0, .inl f0)), (e1, .inr (1, [.ref h1, .int (nI m1)])), (h1, .inr (0, [.ref a1, .int (nI l1)])), (a1, .inl (cB, c1, .inl f1)), (e2, .inr (1, [.ref h2, .int (nI m2)])), (h2, .inr (0, [.ref a2, .int (nI l2)])), (a2, .inl (cB, c2, .inl f2))]) [0, 1, 2, 3, 4, 5, 6, 7, 8, 9, 10, 11, 12] rfl) (hD.sub (ws' := [(s, .inr (2, [.ref e0, .ref e1, .ref e2, .ref ki, .ref pl, .ref en, .int (nI (d + 1)), .int (iMax dp (nI (d + 1)))])), (ki, .inl (cI, 10, .inl (upd fk d 0))), (pl, .inl (cI, 10, .inl (upd fl d (startX m0 l0 f0 k)))), (en, .inl (cI, 10, .inl (upd fz d (startX m0 l0 f0 (k + 1))))), (e0, .inr (1, [.ref h0, .int (nI m0)])), (h0, .inr (0, [.ref a0, .int (nI l0)])), (a0, .inl (cB, c0, .inl f0)), (e1, .inr (1, [.ref h1, .int (nI m1)])), (h1, .inr (0, [.ref a1, .int (nI l1)])), (a1, .inl (cB, c1, .inl f1)), (e2, .inr (1, [.ref h2, .int (nI m2)])), (h2, .inr (0, [.ref a2, .int (nI l2)])), (a2, .inl (cB, c2, .inl f2))]) [0, 1, 2, 3, 4, 5, 6, 7, 8, 9, 10, 11, 12] rfl rfl) hS ⟨_, rfl, rfl, rfl, _, _, _, _, _, rfl, (by omega), (en_ok (S := (m0, l0, f0)) rfl c_9 (by omega))⟩
    · have n_21 : ¬ (d) < (10) := fun z => c_21 ((nI_ltI (a := d) (b := 10) (by omega) (by omega)).mpr z)
      refine lv_bipush (v := (-9)) hx hb d_St_enter_24 (by decide) ?_
      exact t_iret hx hb hr hlk d_St_enter_26 (hP.subm (ws' := [(s, .inr (2, [.ref e0, .ref e1, .ref e2, .ref ki, .ref pl, .ref en, .int (nI d), .int dp])), (ki, .inl (cI, 10, .inl fk)), (pl, .inl (cI, 10, .inl fl)), (en, .inl (cI, 10, .inl fz)), (e0, .inr (1, [.ref h0, .int (nI m0)])), (h0, .inr (0, [.ref a0, .int (nI l0)])), (a0, .inl (cB, c0, .inl f0)), (e1, .inr (1, [.ref h1, .int (nI m1)])), (h1, .inr (0, [.ref a1, .int (nI l1)])), (a1, .inl (cB, c1, .inl f1)), (e2, .inr (1, [.ref h2, .int (nI m2)])), (h2, .inr (0, [.ref a2, .int (nI l2)])), (a2, .inl (cB, c2, .inl f2))]) [0, 1, 2, 3, 4, 5, 6, 7, 8, 9, 10, 11, 12] rfl) (hD.sub (ws' := [(s, .inr (2, [.ref e0, .ref e1, .ref e2, .ref ki, .ref pl, .ref en, .int (nI d), .int dp])), (ki, .inl (cI, 10, .inl fk)), (pl, .inl (cI, 10, .inl fl)), (en, .inl (cI, 10, .inl fz)), (e0, .inr (1, [.ref h0, .int (nI m0)])), (h0, .inr (0, [.ref a0, .int (nI l0)])), (a0, .inl (cB, c0, .inl f0)), (e1, .inr (1, [.ref h1, .int (nI m1)])), (h1, .inr (0, [.ref a1, .int (nI l1)])), (a1, .inl (cB, c1, .inl f1)), (e2, .inr (1, [.ref h2, .int (nI m2)])), (h2, .inr (0, [.ref a2, .int (nI l2)])), (a2, .inl (cB, c2, .inl f2))]) [0, 1, 2, 3, 4, 5, 6, 7, 8, 9, 10, 11, 12] rfl rfl) hS ⟨_, rfl, rfl, rfl, _, _, _, _, _, rfl, (by omega), (en_deep (S := (m0, l0, f0)) rfl c_9 (by omega))⟩
  · refine lv_bipush (v := (-8)) hx hb d_St_enter_12 (by decide) ?_
    exact t_iret hx hb hr hlk d_St_enter_14 (hP.subm (ws' := [(s, .inr (2, [.ref e0, .ref e1, .ref e2, .ref ki, .ref pl, .ref en, .int (nI d), .int dp])), (ki, .inl (cI, 10, .inl fk)), (pl, .inl (cI, 10, .inl fl)), (en, .inl (cI, 10, .inl fz)), (e0, .inr (1, [.ref h0, .int (nI m0)])), (h0, .inr (0, [.ref a0, .int (nI l0)])), (a0, .inl (cB, c0, .inl f0)), (e1, .inr (1, [.ref h1, .int (nI m1)])), (h1, .inr (0, [.ref a1, .int (nI l1)])), (a1, .inl (cB, c1, .inl f1)), (e2, .inr (1, [.ref h2, .int (nI m2)])), (h2, .inr (0, [.ref a2, .int (nI l2)])), (a2, .inl (cB, c2, .inl f2))]) [0, 1, 2, 3, 4, 5, 6, 7, 8, 9, 10, 11, 12] rfl) (hD.sub (ws' := [(s, .inr (2, [.ref e0, .ref e1, .ref e2, .ref ki, .ref pl, .ref en, .int (nI d), .int dp])), (ki, .inl (cI, 10, .inl fk)), (pl, .inl (cI, 10, .inl fl)), (en, .inl (cI, 10, .inl fz)), (e0, .inr (1, [.ref h0, .int (nI m0)])), (h0, .inr (0, [.ref a0, .int (nI l0)])), (a0, .inl (cB, c0, .inl f0)), (e1, .inr (1, [.ref h1, .int (nI m1)])), (h1, .inr (0, [.ref a1, .int (nI l1)])), (a1, .inl (cB, c1, .inl f1)), (e2, .inr (1, [.ref h2, .int (nI m2)])), (h2, .inr (0, [.ref a2, .int (nI l2)])), (a2, .inl (cB, c2, .inl f2))]) [0, 1, 2, 3, 4, 5, 6, 7, 8, 9, 10, 11, 12] rfl rfl) hS ⟨_, rfl, rfl, rfl, _, _, _, _, _, rfl, (by omega), (en_call (S := (m0, l0, f0)) rfl c_9)⟩
set_option maxHeartbeats 1000000 in
set_option maxRecDepth 100000 in
theorem c_St_enter_1 (l : Launch) (D : va_G) (cB cI cJ : ClassId) (s ki pl en e0 h0 a0 m0 l0 c0 e1 h1 a1 m1 l1 c1 e2 h2 a2 m2 l2 c2 : Nat) (f0 : Nat → Int32) (f1 : Nat → Int32) (f2 : Nat → Int32) (d : Nat) (dp : Int32) (fk : Nat → Int32) (fl : Nat → Int32) (fz : Nat → Int32) (k : Int32) (hiSy : d ≤ 10) (hhSy : (l0 ≤ c0 ∧ c0 ≤ 16384) ∧ (l1 ≤ c1 ∧ c1 ≤ 16384) ∧ (l2 ≤ c2 ∧ c2 ≤ 16384)) : Tr l D classes (TY cB cI cJ) gd_tbl nx_tbl y_St_enter b_St_enter 3 (some .int) ({ frames := 3, cells := 0, slots := 0, locals := 68 }) [.ref s, .int 1, .int k] [(s, .inr (2, [.ref e0, .ref e1, .ref e2, .ref ki, .ref pl, .ref en, .int (nI d), .int dp])), (ki, .inl (cI, 10, .inl fk)), (pl, .inl (cI, 10, .inl fl)), (en, .inl (cI, 10, .inl fz)), (e0, .inr (1, [.ref h0, .int (nI m0)])), (h0, .inr (0, [.ref a0, .int (nI l0)])), (a0, .inl (cB, c0, .inl f0)), (e1, .inr (1, [.ref h1, .int (nI m1)])), (h1, .inr (0, [.ref a1, .int (nI l1)])), (a1, .inl (cB, c1, .inl f1)), (e2, .inr (1, [.ref h2, .int (nI m2)])), (h2, .inr (0, [.ref a2, .int (nI l2)])), (a2, .inl (cB, c2, .inl f2))] (pI0 (fun r w => ∃ (d' : Nat) (dp' : Int32) (fk' : Nat → Int32) (fl' : Nat → Int32) (fz' : Nat → Int32), w = [(s, .inr (2, [.ref e0, .ref e1, .ref e2, .ref ki, .ref pl, .ref en, .int (nI d'), .int dp'])), (ki, .inl (cI, 10, .inl fk')), (pl, .inl (cI, 10, .inl fl')), (en, .inl (cI, 10, .inl fz')), (e0, .inr (1, [.ref h0, .int (nI m0)])), (h0, .inr (0, [.ref a0, .int (nI l0)])), (a0, .inl (cB, c0, .inl f0)), (e1, .inr (1, [.ref h1, .int (nI m1)])), (h1, .inr (0, [.ref a1, .int (nI l1)])), (a1, .inl (cB, c1, .inl f1)), (e2, .inr (1, [.ref h2, .int (nI m2)])), (h2, .inr (0, [.ref a2, .int (nI l2)])), (a2, .inl (cB, c2, .inl f2))] ∧ (d' ≤ 10) ∧ (qR r (sS d' fk' fl' fz') = gP (enterP ((m0, l0, f0), (m1, l1, f1), (m2, l2, f2)) (sS d fk fl fz) 1 k)))) := by
  refine Tr.intro (by decide +kernel) nx_ok (Nat.le_of_ble_eq_true rfl) ?_
  intro p_ e_ s_ m_ args_ below_ meth_ c_ A_ ls hx hb hml hown hts hr hlk hnm hZ hP hD hS hl
  have hl : lv_has ls 3 [(0, .ref s), (1, .int 1), (2, .int k)] := hl
  refine lv_aload_n hx hb d_St_enter_0 rfl (lv_at hl 0 rfl) ?_
  refine lv_iload_n hx hb d_St_enter_1 rfl (lv_at hl 1 rfl) ?_
  refine roV (As := [.int 1]) (rest := []) ⟨hx, hb, hml, hown, hts⟩ gd_good (c_St_shelf l D cB cI cJ s e0 e1 e2 ki pl en d dp 1) cal_St_shelf ml_St_45 ⟨Nat.le_of_ble_eq_true rfl, Nat.le_of_ble_eq_true rfl⟩ hZ hP hD (isC := [0]) ⟨rfl, rfl⟩ 0 (ci := 2) rfl rfl rfl rfl hl.1 rfl (Nat.le_of_ble_eq_true rfl) d_St_enter_2 ⟨Nat.le_of_ble_eq_true rfl, Nat.le_of_ble_eq_true rfl⟩ (fun v hv => ?_)
  have hv : v = .ref e1 := hv
  subst hv
  refine lv_iload_n hx hb d_St_enter_5 rfl (lv_at hl 2 rfl) ?_
  refine roV (As := [.int k]) (rest := []) ⟨hx, hb, hml, hown, hts⟩ gd_good (c_Sh_has l D cB cI cJ e1 h1 m1 k) cal_Sh_has ml_St_49 ⟨Nat.le_of_ble_eq_true rfl, Nat.le_of_ble_eq_true rfl⟩ hZ hP hD (isC := [7]) ⟨rfl, rfl⟩ 7 (ci := 1) rfl rfl rfl rfl hl.1 rfl (Nat.le_of_ble_eq_true rfl) d_St_enter_6 ⟨Nat.le_of_ble_eq_true rfl, Nat.le_of_ble_eq_true rfl⟩ (fun v hv => ?_)
  subst hv
  refine lv_if_ne (tgt := 15) hx hb d_St_enter_9 (by decide) (fun c_9 => ?_) (fun c_9 => ?_)
  · refine lv_aload_n hx hb d_St_enter_15 rfl (lv_at hl 0 rfl) ?_
    refine va_get (D := D) (ci := 2) (v := .int (nI d)) (C := R_St) (T := F_St) (N := 8) hx hb hts i_St hown hZ.1 hP 0 rfl rfl 6 (by decide) (hts _ fl_St_38) (fun _ h9 => h9) rfl d_St_enter_16 ?_
    refine lv_bipush (v := 10) hx hb d_St_enter_19 (by decide) ?_
    refine lv_icmp_lt (tgt := 27) hx hb d_St_enter_21 (by decide) (fun c_21 => ?_) (fun c_21 => ?_)
    · have n_21 : (d) < (10) := (nI_ltI (a := d) (b := 10) (by omega) (by omega)).mp c_21
      refine lv_aload_n hx hb d_St_enter_27 rfl (lv_at hl 0 rfl) ?_
      refine va_get (D := D) (ci := 2) (v := .ref ki) (C := R_St) (T := F_St) (N := 8) hx hb hts i_St hown hZ.1 hP 0 rfl rfl 3 (by decide) (hts _ fl_St_24) (fun _ h9 => h9) rfl d_St_enter_28 ?_
      refine lv_aload_n hx hb d_St_enter_31 rfl (lv_at hl 0 rfl) ?_
      refine va_get (D := D) (ci := 2) (v := .int (nI d)) (C := R_St) (T := F_St) (N := 8) hx hb hts i_St hown hZ.1 hP 0 rfl rfl 6 (by decide) (hts _ fl_St_38) (fun _ h9 => h9) rfl d_St_enter_32 ?_
      refine lv_iload_n hx hb d_St_enter_35 rfl (lv_at hl 1 rfl) ?_
      refine va_iast hx hb hZ.1 hP hD hS 1 1 rfl rfl (vp_in_nI (by omega) (by omega)) d_St_enter_36 (fun H locs hP hD hS => ?_)
      rw [show ((nI d).toNatClampNeg) = d from nI_clamp (by omega)] at hP hD
      have hP : va_P D classes [(s, .inr (2, [.ref e0, .ref e1, .ref e2, .ref ki, .ref pl, .ref en, .int (nI d), .int dp])), (ki, .inl (cI, 10, .inl (upd fk d 1))), (pl, .inl (cI, 10, .inl fl)), (en, .inl (cI, 10, .inl fz)), (e0, .inr (1, [.ref h0, .int (nI m0)])), (h0, .inr (0, [.ref a0, .int (nI l0)])), (a0, .inl (cB, c0, .inl f0)), (e1, .inr (1, [.ref h1, .int (nI m1)])), (h1, .inr (0, [.ref a1, .int (nI l1)])), (a1, .inl (cB, c1, .inl f1)), (e2, .inr (1, [.ref h2, .int (nI m2)])), (h2, .inr (0, [.ref a2, .int (nI l2)])), (a2, .inl (cB, c2, .inl f2))] H := hP
      have hD : va_D A_ [(s, .inr (2, [.ref e0, .ref e1, .ref e2, .ref ki, .ref pl, .ref en, .int (nI d), .int dp])), (ki, .inl (cI, 10, .inl (upd fk d 1))), (pl, .inl (cI, 10, .inl fl)), (en, .inl (cI, 10, .inl fz)), (e0, .inr (1, [.ref h0, .int (nI m0)])), (h0, .inr (0, [.ref a0, .int (nI l0)])), (a0, .inl (cB, c0, .inl f0)), (e1, .inr (1, [.ref h1, .int (nI m1)])), (h1, .inr (0, [.ref a1, .int (nI l1)])), (a1, .inl (cB, c1, .inl f1)), (e2, .inr (1, [.ref h2, .int (nI m2)])), (h2, .inr (0, [.ref a2, .int (nI l2)])), (a2, .inl (cB, c2, .inl f2))] := hD
      refine lv_aload_n hx hb d_St_enter_37 rfl (lv_at hl 0 rfl) ?_
      refine va_get (D := D) (ci := 2) (v := .ref pl) (C := R_St) (T := F_St) (N := 8) hx hb hts i_St hown hZ.1 hP 0 rfl rfl 4 (by decide) (hts _ fl_St_28) (fun _ h9 => h9) rfl d_St_enter_38 ?_
      refine lv_aload_n hx hb d_St_enter_41 rfl (lv_at hl 0 rfl) ?_
      refine va_get (D := D) (ci := 2) (v := .int (nI d)) (C := R_St) (T := F_St) (N := 8) hx hb hts i_St hown hZ.1 hP 0 rfl rfl 6 (by decide) (hts _ fl_St_38) (fun _ h9 => h9) rfl d_St_enter_42 ?_
      refine lv_aload_n hx hb d_St_enter_45 rfl (lv_at hl 0 rfl) ?_
      refine lv_iload_n hx hb d_St_enter_46 rfl (lv_at hl 1 rfl) ?_
      refine roV (As := [.int 1]) (rest := [.int (nI d), .ref pl]) ⟨hx, hb, hml, hown, hts⟩ gd_good (c_St_shelf l D cB cI cJ s e0 e1 e2 ki pl en d dp 1) cal_St_shelf ml_St_45 ⟨Nat.le_of_ble_eq_true rfl, Nat.le_of_ble_eq_true rfl⟩ hZ hP hD (isC := [0]) ⟨rfl, rfl⟩ 0 (ci := 2) rfl rfl rfl rfl hl.1 rfl (Nat.le_of_ble_eq_true rfl) d_St_enter_47 ⟨Nat.le_of_ble_eq_true rfl, Nat.le_of_ble_eq_true rfl⟩ (fun v hv => ?_)
      have hv : v = .ref e1 := hv
      subst hv
      refine lv_iload_n hx hb d_St_enter_50 rfl (lv_at hl 2 rfl) ?_
      refine roV (As := [.int k]) (rest := [.int (nI d), .ref pl]) ⟨hx, hb, hml, hown, hts⟩ gd_good (c_Sh_start l D cB cI cJ e1 h1 a1 m1 l1 c1 f1 k (by omega)) cal_Sh_start ml_St_53 ⟨Nat.le_of_ble_eq_true rfl, Nat.le_of_ble_eq_true rfl⟩ hZ hP hD (isC := [7, 8, 9]) ⟨rfl, rfl⟩ 7 (ci := 1) rfl rfl rfl rfl hl.1 rfl (Nat.le_of_ble_eq_true rfl) d_St_enter_51 ⟨Nat.le_of_ble_eq_true rfl, Nat.le_of_ble_eq_true rfl⟩ (fun v hv => ?_)
      subst hv
      refine va_iast hx hb hZ.1 hP hD hS 2 1 rfl rfl (vp_in_nI (by omega) (by omega)) d_St_enter_54 (fun H locs hP hD hS => ?_)
      rw [show ((nI d).toNatClampNeg) = d from nI_clamp (by omega)] at hP hD
      have hP : va_P D classes [(s, .inr (2, [.ref e0, .ref e1, .ref e2, .ref ki, .ref pl, .ref en, .int (nI d), .int dp])), (ki, .inl (cI, 10, .inl (upd fk d 1))), (pl, .inl (cI, 10, .inl (upd fl d (startX m1 l1 f1 k)))), (en, .inl (cI, 10, .inl fz)), (e0, .inr (1, [.ref h0, .int (nI m0)])), (h0, .inr (0, [.ref a0, .int (nI l0)])), (a0, .inl (cB, c0, .inl f0)), (e1, .inr (1, [.ref h1, .int (nI m1)])), (h1, .inr (0, [.ref a1, .int (nI l1)])), (a1, .inl (cB, c1, .inl f1)), (e2, .inr (1, [.ref h2, .int (nI m2)])), (h2, .inr (0, [.ref a2, .int (nI l2)])), (a2, .inl (cB, c2, .inl f2))] H := hP
      have hD : va_D A_ [(s, .inr (2, [.ref e0, .ref e1, .ref e2, .ref ki, .ref pl, .ref en, .int (nI d), .int dp])), (ki, .inl (cI, 10, .inl (upd fk d 1))), (pl, .inl (cI, 10, .inl (upd fl d (startX m1 l1 f1 k)))), (en, .inl (cI, 10, .inl fz)), (e0, .inr (1, [.ref h0, .int (nI m0)])), (h0, .inr (0, [.ref a0, .int (nI l0)])), (a0, .inl (cB, c0, .inl f0)), (e1, .inr (1, [.ref h1, .int (nI m1)])), (h1, .inr (0, [.ref a1, .int (nI l1)])), (a1, .inl (cB, c1, .inl f1)), (e2, .inr (1, [.ref h2, .int (nI m2)])), (h2, .inr (0, [.ref a2, .int (nI l2)])), (a2, .inl (cB, c2, .inl f2))] := hD
      refine lv_aload_n hx hb d_St_enter_55 rfl (lv_at hl 0 rfl) ?_
      refine va_get (D := D) (ci := 2) (v := .ref en) (C := R_St) (T := F_St) (N := 8) hx hb hts i_St hown hZ.1 hP 0 rfl rfl 5 (by decide) (hts _ fl_St_31) (fun _ h9 => h9) rfl d_St_enter_56 ?_
      refine lv_aload_n hx hb d_St_enter_59 rfl (lv_at hl 0 rfl) ?_
      refine va_get (D := D) (ci := 2) (v := .int (nI d)) (C := R_St) (T := F_St) (N := 8) hx hb hts i_St hown hZ.1 hP 0 rfl rfl 6 (by decide) (hts _ fl_St_38) (fun _ h9 => h9) rfl d_St_enter_60 ?_
      refine lv_aload_n hx hb d_St_enter_63 rfl (lv_at hl 0 rfl) ?_
      refine lv_iload_n hx hb d_St_enter_64 rfl (lv_at hl 1 rfl) ?_
      refine roV (As := [.int 1]) (rest := [.int (nI d), .ref en]) ⟨hx, hb, hml, hown, hts⟩ gd_good (c_St_shelf l D cB cI cJ s e0 e1 e2 ki pl en d dp 1) cal_St_shelf ml_St_45 ⟨Nat.le_of_ble_eq_true rfl, Nat.le_of_ble_eq_true rfl⟩ hZ hP hD (isC := [0]) ⟨rfl, rfl⟩ 0 (ci := 2) rfl rfl rfl rfl hl.1 rfl (Nat.le_of_ble_eq_true rfl) d_St_enter_65 ⟨Nat.le_of_ble_eq_true rfl, Nat.le_of_ble_eq_true rfl⟩ (fun v hv => ?_)
      have hv : v = .ref e1 := hv
      subst hv
      refine lv_iload_n hx hb d_St_enter_68 rfl (lv_at hl 2 rfl) ?_
      refine lv_iconst (v := 1) hx hb d_St_enter_69 (by decide) ?_
      refine lv_iadd hx hb d_St_enter_70 ?_
      refine roV (As := [.int (k + 1)]) (rest := [.int (nI d), .ref en]) ⟨hx, hb, hml, hown, hts⟩ gd_good (c_Sh_start l D cB cI cJ e1 h1 a1 m1 l1 c1 f1 (k + 1) (by omega)) cal_Sh_start ml_St_53 ⟨Nat.le_of_ble_eq_true rfl, Nat.le_of_ble_eq_true rfl⟩ hZ hP hD (isC := [7, 8, 9]) ⟨rfl, rfl⟩ 7 (ci := 1) rfl rfl rfl rfl hl.1 rfl (Nat.le_of_ble_eq_true rfl) d_St_enter_71 ⟨Nat.le_of_ble_eq_true rfl, Nat.le_of_ble_eq_true rfl⟩ (fun v hv => ?_)
      subst hv
      refine va_iast hx hb hZ.1 hP hD hS 3 1 rfl rfl (vp_in_nI (by omega) (by omega)) d_St_enter_74 (fun H locs hP hD hS => ?_)
      rw [show ((nI d).toNatClampNeg) = d from nI_clamp (by omega)] at hP hD
      have hP : va_P D classes [(s, .inr (2, [.ref e0, .ref e1, .ref e2, .ref ki, .ref pl, .ref en, .int (nI d), .int dp])), (ki, .inl (cI, 10, .inl (upd fk d 1))), (pl, .inl (cI, 10, .inl (upd fl d (startX m1 l1 f1 k)))), (en, .inl (cI, 10, .inl (upd fz d (startX m1 l1 f1 (k + 1))))), (e0, .inr (1, [.ref h0, .int (nI m0)])), (h0, .inr (0, [.ref a0, .int (nI l0)])), (a0, .inl (cB, c0, .inl f0)), (e1, .inr (1, [.ref h1, .int (nI m1)])), (h1, .inr (0, [.ref a1, .int (nI l1)])), (a1, .inl (cB, c1, .inl f1)), (e2, .inr (1, [.ref h2, .int (nI m2)])), (h2, .inr (0, [.ref a2, .int (nI l2)])), (a2, .inl (cB, c2, .inl f2))] H := hP
      have hD : va_D A_ [(s, .inr (2, [.ref e0, .ref e1, .ref e2, .ref ki, .ref pl, .ref en, .int (nI d), .int dp])), (ki, .inl (cI, 10, .inl (upd fk d 1))), (pl, .inl (cI, 10, .inl (upd fl d (startX m1 l1 f1 k)))), (en, .inl (cI, 10, .inl (upd fz d (startX m1 l1 f1 (k + 1))))), (e0, .inr (1, [.ref h0, .int (nI m0)])), (h0, .inr (0, [.ref a0, .int (nI l0)])), (a0, .inl (cB, c0, .inl f0)), (e1, .inr (1, [.ref h1, .int (nI m1)])), (h1, .inr (0, [.ref a1, .int (nI l1)])), (a1, .inl (cB, c1, .inl f1)), (e2, .inr (1, [.ref h2, .int (nI m2)])), (h2, .inr (0, [.ref a2, .int (nI l2)])), (a2, .inl (cB, c2, .inl f2))] := hD
      refine lv_aload_n hx hb d_St_enter_75 rfl (lv_at hl 0 rfl) ?_
      refine lv_dup hx hb d_St_enter_76 rfl ?_
      refine va_get (D := D) (ci := 2) (v := .int (nI d)) (C := R_St) (T := F_St) (N := 8) hx hb hts i_St hown hZ.1 hP 0 rfl rfl 6 (by decide) (hts _ fl_St_38) (fun _ h9 => h9) rfl d_St_enter_77 ?_
      refine lv_iconst (v := 1) hx hb d_St_enter_80 (by decide) ?_
      refine lv_iadd hx hb d_St_enter_81 ?_
      refine lv_tv (y := nI (d + 1)) (nI_add d 1) ?_
      refine va_put (D := D) (ci := 2) (v := .int (nI (d + 1))) (ty := .int) (C := R_St) (T := F_St) (N := 8) hx hb hts i_St t_St t_St_ok n_St hown hZ.1 hP hD hS 0 rfl rfl 6 (by decide) (hts _ fl_St_38) (fun _ h9 => h9) rfl (by decide +kernel) rfl rfl (Nat.le_of_ble_eq_true rfl) d_St_enter_82 (fun H locs hP hD hS => ?_)
      have hP : va_P D classes [(s, .inr (2, [.ref e0, .ref e1, .ref e2, .ref ki, .ref pl, .ref en, .int (nI (d + 1)), .int dp])), (ki, .inl (cI, 10, .inl (upd fk d 1))), (pl, .inl (cI, 10, .inl (upd fl d (startX m1 l1 f1 k)))), (en, .inl (cI, 10, .inl (upd fz d (startX m1 l1 f1 (k + 1))))), (e0, .inr (1, [.ref h0, .int (nI m0)])), (h0, .inr (0, [.ref a0, .int (nI l0)])), (a0, .inl (cB, c0, .inl f0)), (e1, .inr (1, [.ref h1, .int (nI m1)])), (h1, .inr (0, [.ref a1, .int (nI l1)])), (a1, .inl (cB, c1, .inl f1)), (e2, .inr (1, [.ref h2, .int (nI m2)])), (h2, .inr (0, [.ref a2, .int (nI l2)])), (a2, .inl (cB, c2, .inl f2))] H := hP
      have hD : va_D A_ [(s, .inr (2, [.ref e0, .ref e1, .ref e2, .ref ki, .ref pl, .ref en, .int (nI (d + 1)), .int dp])), (ki, .inl (cI, 10, .inl (upd fk d 1))), (pl, .inl (cI, 10, .inl (upd fl d (startX m1 l1 f1 k)))), (en, .inl (cI, 10, .inl (upd fz d (startX m1 l1 f1 (k + 1))))), (e0, .inr (1, [.ref h0, .int (nI m0)])), (h0, .inr (0, [.ref a0, .int (nI l0)])), (a0, .inl (cB, c0, .inl f0)), (e1, .inr (1, [.ref h1, .int (nI m1)])), (h1, .inr (0, [.ref a1, .int (nI l1)])), (a1, .inl (cB, c1, .inl f1)), (e2, .inr (1, [.ref h2, .int (nI m2)])), (h2, .inr (0, [.ref a2, .int (nI l2)])), (a2, .inl (cB, c2, .inl f2))] := hD
      refine lv_aload_n hx hb d_St_enter_85 rfl (lv_at hl 0 rfl) ?_
      refine lv_aload_n hx hb d_St_enter_86 rfl (lv_at hl 0 rfl) ?_
      refine va_get (D := D) (ci := 2) (v := .int dp) (C := R_St) (T := F_St) (N := 8) hx hb hts i_St hown hZ.1 hP 0 rfl rfl 7 (by decide) (hts _ fl_St_34) (fun _ h9 => h9) rfl d_St_enter_87 ?_
      refine lv_aload_n hx hb d_St_enter_90 rfl (lv_at hl 0 rfl) ?_
      refine va_get (D := D) (ci := 2) (v := .int (nI (d + 1))) (C := R_St) (T := F_St) (N := 8) hx hb hts i_St hown hZ.1 hP 0 rfl rfl 6 (by decide) (hts _ fl_St_38) (fun _ h9 => h9) rfl d_St_enter_91 ?_
      refine roS (As := [.int dp, .int (nI (d + 1))]) (rest := [.ref s]) ⟨hx, hb, hml, hown, hts⟩ gd_good (c_Math_max l D cB cI cJ dp (nI (d + 1))) cal_Math_max ml_St_57 ⟨Nat.le_of_ble_eq_true rfl, Nat.le_of_ble_eq_true rfl⟩ hZ hP hD (isC := []) ⟨rfl, rfl⟩ rfl hl.1 rfl (Nat.le_of_ble_eq_true rfl) d_St_enter_94 ⟨Nat.le_of_ble_eq_true rfl, Nat.le_of_ble_eq_true rfl⟩ (fun v hv => ?_)
      subst hv
      refine va_put (D := D) (ci := 2) (v := .int (iMax dp (nI (d + 1)))) (ty := .int) (C := R_St) (T := F_St) (N := 8) hx hb hts i_St t_St t_St_ok n_St hown hZ.1 hP hD hS 0 rfl rfl 7 (by decide) (hts _ fl_St_34) (fun _ h9 => h9) rfl (by decide +kernel) rfl rfl (Nat.le_of_ble_eq_true rfl) d_St_enter_97 (fun H locs hP hD hS => ?_)
      have hP : va_P D classes [(s, .inr (2, [.ref e0, .ref e1, .ref e2, .ref ki, .ref pl, .ref en, .int (nI (d + 1)), .int (iMax dp (nI (d + 1)))])), (ki, .inl (cI, 10, .inl (upd fk d 1))), (pl, .inl (cI, 10, .inl (upd fl d (startX m1 l1 f1 k)))), (en, .inl (cI, 10, .inl (upd fz d (startX m1 l1 f1 (k + 1))))), (e0, .inr (1, [.ref h0, .int (nI m0)])), (h0, .inr (0, [.ref a0, .int (nI l0)])), (a0, .inl (cB, c0, .inl f0)), (e1, .inr (1, [.ref h1, .int (nI m1)])), (h1, .inr (0, [.ref a1, .int (nI l1)])), (a1, .inl (cB, c1, .inl f1)), (e2, .inr (1, [.ref h2, .int (nI m2)])), (h2, .inr (0, [.ref a2, .int (nI l2)])), (a2, .inl (cB, c2, .inl f2))] H := hP
      have hD : va_D A_ [(s, .inr (2, [.ref e0, .ref e1, .ref e2, .ref ki, .ref pl, .ref en, .int (nI (d + 1)), .int (iMax dp (nI (d + 1)))])), (ki, .inl (cI, 10, .inl (upd fk d 1))), (pl, .inl (cI, 10, .inl (upd fl d (startX m1 l1 f1 k)))), (en, .inl (cI, 10, .inl (upd fz d (startX m1 l1 f1 (k + 1))))), (e0, .inr (1, [.ref h0, .int (nI m0)])), (h0, .inr (0, [.ref a0, .int (nI l0)])), (a0, .inl (cB, c0, .inl f0)), (e1, .inr (1, [.ref h1, .int (nI m1)])), (h1, .inr (0, [.ref a1, .int (nI l1)])), (a1, .inl (cB, c1, .inl f1)), (e2, .inr (1, [.ref h2, .int (nI m2)])), (h2, .inr (0, [.ref a2, .int (nI l2)])), (a2, .inl (cB, c2, .inl f2))] := hD
      refine lv_iconst (v := 0) hx hb d_St_enter_100 (by decide) ?_
      exact t_iret hx hb hr hlk d_St_enter_101 (hP.subm (ws' := [(s, .inr (2, [.ref e0, .ref e1, .ref e2, .ref ki, .ref pl, .ref en, .int (nI (d + 1)), .int (iMax dp (nI (d + 1)))])), (ki, .inl (cI, 10, .inl (upd fk d 1))), (pl, .inl (cI, 10, .inl (upd fl d (startX m1 l1 f1 k)))), (en, .inl (cI, 10, .inl (upd fz d (startX m1 l1 f1 (k + 1))))), (e0, .inr (1, [.ref h0, .int (nI m0)])), (h0, .inr (0, [.ref a0, .int (nI l0)])), (a0, .inl (cB, c0, .inl f0)), (e1, .inr (1, [.ref h1, .int (nI m1)])), (h1, .inr (0, [.ref a1, .int (nI l1)])), (a1, .inl (cB, c1, .inl f1)), (e2, .inr (1, [.ref h2, .int (nI m2)])), (h2, .inr (0, [.ref a2, .int (nI l2)])), (a2, .inl (cB, c2, .inl f2))]) [0, 1, 2, 3, 4, 5, 6, 7, 8, 9, 10, 11, 12] rfl) (hD.sub (ws' := [(s, .inr (2, [.ref e0, .ref e1, .ref e2, .ref ki, .ref pl, .ref en, .int (nI (d + 1)), .int (iMax dp (nI (d + 1)))])), (ki, .inl (cI, 10, .inl (upd fk d 1))), (pl, .inl (cI, 10, .inl (upd fl d (startX m1 l1 f1 k)))), (en, .inl (cI, 10, .inl (upd fz d (startX m1 l1 f1 (k + 1))))), (e0, .inr (1, [.ref h0, .int (nI m0)])), (h0, .inr (0, [.ref a0, .int (nI l0)])), (a0, .inl (cB, c0, .inl f0)), (e1, .inr (1, [.ref h1, .int (nI m1)])), (h1, .inr (0, [.ref a1, .int (nI l1)])), (a1, .inl (cB, c1, .inl f1)), (e2, .inr (1, [.ref h2, .int (nI m2)])), (h2, .inr (0, [.ref a2, .int (nI l2)])), (a2, .inl (cB, c2, .inl f2))]) [0, 1, 2, 3, 4, 5, 6, 7, 8, 9, 10, 11, 12] rfl rfl) hS ⟨_, rfl, rfl, rfl, _, _, _, _, _, rfl, (by omega), (en_ok (S := (m1, l1, f1)) rfl c_9 (by omega))⟩
    · have n_21 : ¬ (d) < (10) := fun z => c_21 ((nI_ltI (a := d) (b := 10) (by omega) (by omega)).mpr z)
      refine lv_bipush (v := (-9)) hx hb d_St_enter_24 (by decide) ?_
      exact t_iret hx hb hr hlk d_St_enter_26 (hP.subm (ws' := [(s, .inr (2, [.ref e0, .ref e1, .ref e2, .ref ki, .ref pl, .ref en, .int (nI d), .int dp])), (ki, .inl (cI, 10, .inl fk)), (pl, .inl (cI, 10, .inl fl)), (en, .inl (cI, 10, .inl fz)), (e0, .inr (1, [.ref h0, .int (nI m0)])), (h0, .inr (0, [.ref a0, .int (nI l0)])), (a0, .inl (cB, c0, .inl f0)), (e1, .inr (1, [.ref h1, .int (nI m1)])), (h1, .inr (0, [.ref a1, .int (nI l1)])), (a1, .inl (cB, c1, .inl f1)), (e2, .inr (1, [.ref h2, .int (nI m2)])), (h2, .inr (0, [.ref a2, .int (nI l2)])), (a2, .inl (cB, c2, .inl f2))]) [0, 1, 2, 3, 4, 5, 6, 7, 8, 9, 10, 11, 12] rfl) (hD.sub (ws' := [(s, .inr (2, [.ref e0, .ref e1, .ref e2, .ref ki, .ref pl, .ref en, .int (nI d), .int dp])), (ki, .inl (cI, 10, .inl fk)), (pl, .inl (cI, 10, .inl fl)), (en, .inl (cI, 10, .inl fz)), (e0, .inr (1, [.ref h0, .int (nI m0)])), (h0, .inr (0, [.ref a0, .int (nI l0)])), (a0, .inl (cB, c0, .inl f0)), (e1, .inr (1, [.ref h1, .int (nI m1)])), (h1, .inr (0, [.ref a1, .int (nI l1)])), (a1, .inl (cB, c1, .inl f1)), (e2, .inr (1, [.ref h2, .int (nI m2)])), (h2, .inr (0, [.ref a2, .int (nI l2)])), (a2, .inl (cB, c2, .inl f2))]) [0, 1, 2, 3, 4, 5, 6, 7, 8, 9, 10, 11, 12] rfl rfl) hS ⟨_, rfl, rfl, rfl, _, _, _, _, _, rfl, (by omega), (en_deep (S := (m1, l1, f1)) rfl c_9 (by omega))⟩
  · refine lv_bipush (v := (-8)) hx hb d_St_enter_12 (by decide) ?_
    exact t_iret hx hb hr hlk d_St_enter_14 (hP.subm (ws' := [(s, .inr (2, [.ref e0, .ref e1, .ref e2, .ref ki, .ref pl, .ref en, .int (nI d), .int dp])), (ki, .inl (cI, 10, .inl fk)), (pl, .inl (cI, 10, .inl fl)), (en, .inl (cI, 10, .inl fz)), (e0, .inr (1, [.ref h0, .int (nI m0)])), (h0, .inr (0, [.ref a0, .int (nI l0)])), (a0, .inl (cB, c0, .inl f0)), (e1, .inr (1, [.ref h1, .int (nI m1)])), (h1, .inr (0, [.ref a1, .int (nI l1)])), (a1, .inl (cB, c1, .inl f1)), (e2, .inr (1, [.ref h2, .int (nI m2)])), (h2, .inr (0, [.ref a2, .int (nI l2)])), (a2, .inl (cB, c2, .inl f2))]) [0, 1, 2, 3, 4, 5, 6, 7, 8, 9, 10, 11, 12] rfl) (hD.sub (ws' := [(s, .inr (2, [.ref e0, .ref e1, .ref e2, .ref ki, .ref pl, .ref en, .int (nI d), .int dp])), (ki, .inl (cI, 10, .inl fk)), (pl, .inl (cI, 10, .inl fl)), (en, .inl (cI, 10, .inl fz)), (e0, .inr (1, [.ref h0, .int (nI m0)])), (h0, .inr (0, [.ref a0, .int (nI l0)])), (a0, .inl (cB, c0, .inl f0)), (e1, .inr (1, [.ref h1, .int (nI m1)])), (h1, .inr (0, [.ref a1, .int (nI l1)])), (a1, .inl (cB, c1, .inl f1)), (e2, .inr (1, [.ref h2, .int (nI m2)])), (h2, .inr (0, [.ref a2, .int (nI l2)])), (a2, .inl (cB, c2, .inl f2))]) [0, 1, 2, 3, 4, 5, 6, 7, 8, 9, 10, 11, 12] rfl rfl) hS ⟨_, rfl, rfl, rfl, _, _, _, _, _, rfl, (by omega), (en_call (S := (m1, l1, f1)) rfl c_9)⟩
set_option maxHeartbeats 1000000 in
set_option maxRecDepth 100000 in
theorem c_St_enter_2 (l : Launch) (D : va_G) (cB cI cJ : ClassId) (s ki pl en e0 h0 a0 m0 l0 c0 e1 h1 a1 m1 l1 c1 e2 h2 a2 m2 l2 c2 : Nat) (f0 : Nat → Int32) (f1 : Nat → Int32) (f2 : Nat → Int32) (d : Nat) (dp : Int32) (fk : Nat → Int32) (fl : Nat → Int32) (fz : Nat → Int32) (k : Int32) (hiSy : d ≤ 10) (hhSy : (l0 ≤ c0 ∧ c0 ≤ 16384) ∧ (l1 ≤ c1 ∧ c1 ≤ 16384) ∧ (l2 ≤ c2 ∧ c2 ≤ 16384)) : Tr l D classes (TY cB cI cJ) gd_tbl nx_tbl y_St_enter b_St_enter 3 (some .int) ({ frames := 3, cells := 0, slots := 0, locals := 68 }) [.ref s, .int 2, .int k] [(s, .inr (2, [.ref e0, .ref e1, .ref e2, .ref ki, .ref pl, .ref en, .int (nI d), .int dp])), (ki, .inl (cI, 10, .inl fk)), (pl, .inl (cI, 10, .inl fl)), (en, .inl (cI, 10, .inl fz)), (e0, .inr (1, [.ref h0, .int (nI m0)])), (h0, .inr (0, [.ref a0, .int (nI l0)])), (a0, .inl (cB, c0, .inl f0)), (e1, .inr (1, [.ref h1, .int (nI m1)])), (h1, .inr (0, [.ref a1, .int (nI l1)])), (a1, .inl (cB, c1, .inl f1)), (e2, .inr (1, [.ref h2, .int (nI m2)])), (h2, .inr (0, [.ref a2, .int (nI l2)])), (a2, .inl (cB, c2, .inl f2))] (pI0 (fun r w => ∃ (d' : Nat) (dp' : Int32) (fk' : Nat → Int32) (fl' : Nat → Int32) (fz' : Nat → Int32), w = [(s, .inr (2, [.ref e0, .ref e1, .ref e2, .ref ki, .ref pl, .ref en, .int (nI d'), .int dp'])), (ki, .inl (cI, 10, .inl fk')), (pl, .inl (cI, 10, .inl fl')), (en, .inl (cI, 10, .inl fz')), (e0, .inr (1, [.ref h0, .int (nI m0)])), (h0, .inr (0, [.ref a0, .int (nI l0)])), (a0, .inl (cB, c0, .inl f0)), (e1, .inr (1, [.ref h1, .int (nI m1)])), (h1, .inr (0, [.ref a1, .int (nI l1)])), (a1, .inl (cB, c1, .inl f1)), (e2, .inr (1, [.ref h2, .int (nI m2)])), (h2, .inr (0, [.ref a2, .int (nI l2)])), (a2, .inl (cB, c2, .inl f2))] ∧ (d' ≤ 10) ∧ (qR r (sS d' fk' fl' fz') = gP (enterP ((m0, l0, f0), (m1, l1, f1), (m2, l2, f2)) (sS d fk fl fz) 2 k)))) := by
  refine Tr.intro (by decide +kernel) nx_ok (Nat.le_of_ble_eq_true rfl) ?_
  intro p_ e_ s_ m_ args_ below_ meth_ c_ A_ ls hx hb hml hown hts hr hlk hnm hZ hP hD hS hl
  have hl : lv_has ls 3 [(0, .ref s), (1, .int 2), (2, .int k)] := hl
  refine lv_aload_n hx hb d_St_enter_0 rfl (lv_at hl 0 rfl) ?_
  refine lv_iload_n hx hb d_St_enter_1 rfl (lv_at hl 1 rfl) ?_
  refine roV (As := [.int 2]) (rest := []) ⟨hx, hb, hml, hown, hts⟩ gd_good (c_St_shelf l D cB cI cJ s e0 e1 e2 ki pl en d dp 2) cal_St_shelf ml_St_45 ⟨Nat.le_of_ble_eq_true rfl, Nat.le_of_ble_eq_true rfl⟩ hZ hP hD (isC := [0]) ⟨rfl, rfl⟩ 0 (ci := 2) rfl rfl rfl rfl hl.1 rfl (Nat.le_of_ble_eq_true rfl) d_St_enter_2 ⟨Nat.le_of_ble_eq_true rfl, Nat.le_of_ble_eq_true rfl⟩ (fun v hv => ?_)
  have hv : v = .ref e2 := hv
  subst hv
  refine lv_iload_n hx hb d_St_enter_5 rfl (lv_at hl 2 rfl) ?_
  refine roV (As := [.int k]) (rest := []) ⟨hx, hb, hml, hown, hts⟩ gd_good (c_Sh_has l D cB cI cJ e2 h2 m2 k) cal_Sh_has ml_St_49 ⟨Nat.le_of_ble_eq_true rfl, Nat.le_of_ble_eq_true rfl⟩ hZ hP hD (isC := [10]) ⟨rfl, rfl⟩ 10 (ci := 1) rfl rfl rfl rfl hl.1 rfl (Nat.le_of_ble_eq_true rfl) d_St_enter_6 ⟨Nat.le_of_ble_eq_true rfl, Nat.le_of_ble_eq_true rfl⟩ (fun v hv => ?_)
  subst hv
  refine lv_if_ne (tgt := 15) hx hb d_St_enter_9 (by decide) (fun c_9 => ?_) (fun c_9 => ?_)
  · refine lv_aload_n hx hb d_St_enter_15 rfl (lv_at hl 0 rfl) ?_
    refine va_get (D := D) (ci := 2) (v := .int (nI d)) (C := R_St) (T := F_St) (N := 8) hx hb hts i_St hown hZ.1 hP 0 rfl rfl 6 (by decide) (hts _ fl_St_38) (fun _ h9 => h9) rfl d_St_enter_16 ?_
    refine lv_bipush (v := 10) hx hb d_St_enter_19 (by decide) ?_
    refine lv_icmp_lt (tgt := 27) hx hb d_St_enter_21 (by decide) (fun c_21 => ?_) (fun c_21 => ?_)
    · have n_21 : (d) < (10) := (nI_ltI (a := d) (b := 10) (by omega) (by omega)).mp c_21
      refine lv_aload_n hx hb d_St_enter_27 rfl (lv_at hl 0 rfl) ?_
      refine va_get (D := D) (ci := 2) (v := .ref ki) (C := R_St) (T := F_St) (N := 8) hx hb hts i_St hown hZ.1 hP 0 rfl rfl 3 (by decide) (hts _ fl_St_24) (fun _ h9 => h9) rfl d_St_enter_28 ?_
      refine lv_aload_n hx hb d_St_enter_31 rfl (lv_at hl 0 rfl) ?_
      refine va_get (D := D) (ci := 2) (v := .int (nI d)) (C := R_St) (T := F_St) (N := 8) hx hb hts i_St hown hZ.1 hP 0 rfl rfl 6 (by decide) (hts _ fl_St_38) (fun _ h9 => h9) rfl d_St_enter_32 ?_
      refine lv_iload_n hx hb d_St_enter_35 rfl (lv_at hl 1 rfl) ?_
      refine va_iast hx hb hZ.1 hP hD hS 1 1 rfl rfl (vp_in_nI (by omega) (by omega)) d_St_enter_36 (fun H locs hP hD hS => ?_)
      rw [show ((nI d).toNatClampNeg) = d from nI_clamp (by omega)] at hP hD
      have hP : va_P D classes [(s, .inr (2, [.ref e0, .ref e1, .ref e2, .ref ki, .ref pl, .ref en, .int (nI d), .int dp])), (ki, .inl (cI, 10, .inl (upd fk d 2))), (pl, .inl (cI, 10, .inl fl)), (en, .inl (cI, 10, .inl fz)), (e0, .inr (1, [.ref h0, .int (nI m0)])), (h0, .inr (0, [.ref a0, .int (nI l0)])), (a0, .inl (cB, c0, .inl f0)), (e1, .inr (1, [.ref h1, .int (nI m1)])), (h1, .inr (0, [.ref a1, .int (nI l1)])), (a1, .inl (cB, c1, .inl f1)), (e2, .inr (1, [.ref h2, .int (nI m2)])), (h2, .inr (0, [.ref a2, .int (nI l2)])), (a2, .inl (cB, c2, .inl f2))] H := hP
      have hD : va_D A_ [(s, .inr (2, [.ref e0, .ref e1, .ref e2, .ref ki, .ref pl, .ref en, .int (nI d), .int dp])), (ki, .inl (cI, 10, .inl (upd fk d 2))), (pl, .inl (cI, 10, .inl fl)), (en, .inl (cI, 10, .inl fz)), (e0, .inr (1, [.ref h0, .int (nI m0)])), (h0, .inr (0, [.ref a0, .int (nI l0)])), (a0, .inl (cB, c0, .inl f0)), (e1, .inr (1, [.ref h1, .int (nI m1)])), (h1, .inr (0, [.ref a1, .int (nI l1)])), (a1, .inl (cB, c1, .inl f1)), (e2, .inr (1, [.ref h2, .int (nI m2)])), (h2, .inr (0, [.ref a2, .int (nI l2)])), (a2, .inl (cB, c2, .inl f2))] := hD
      refine lv_aload_n hx hb d_St_enter_37 rfl (lv_at hl 0 rfl) ?_
      refine va_get (D := D) (ci := 2) (v := .ref pl) (C := R_St) (T := F_St) (N := 8) hx hb hts i_St hown hZ.1 hP 0 rfl rfl 4 (by decide) (hts _ fl_St_28) (fun _ h9 => h9) rfl d_St_enter_38 ?_
      refine lv_aload_n hx hb d_St_enter_41 rfl (lv_at hl 0 rfl) ?_
      refine va_get (D := D) (ci := 2) (v := .int (nI d)) (C := R_St) (T := F_St) (N := 8) hx hb hts i_St hown hZ.1 hP 0 rfl rfl 6 (by decide) (hts _ fl_St_38) (fun _ h9 => h9) rfl d_St_enter_42 ?_
      refine lv_aload_n hx hb d_St_enter_45 rfl (lv_at hl 0 rfl) ?_
      refine lv_iload_n hx hb d_St_enter_46 rfl (lv_at hl 1 rfl) ?_
      refine roV (As := [.int 2]) (rest := [.int (nI d), .ref pl]) ⟨hx, hb, hml, hown, hts⟩ gd_good (c_St_shelf l D cB cI cJ s e0 e1 e2 ki pl en d dp 2) cal_St_shelf ml_St_45 ⟨Nat.le_of_ble_eq_true rfl, Nat.le_of_ble_eq_true rfl⟩ hZ hP hD (isC := [0]) ⟨rfl, rfl⟩ 0 (ci := 2) rfl rfl rfl rfl hl.1 rfl (Nat.le_of_ble_eq_true rfl) d_St_enter_47 ⟨Nat.le_of_ble_eq_true rfl, Nat.le_of_ble_eq_true rfl⟩ (fun v hv => ?_)
      have hv : v = .ref e2 := hv
      subst hv
      refine lv_iload_n hx hb d_St_enter_50 rfl (lv_at hl 2 rfl) ?_
      refine roV (As := [.int k]) (rest := [.int (nI d), .ref pl]) ⟨hx, hb, hml, hown, hts⟩ gd_good (c_Sh_start l D cB cI cJ e2 h2 a2 m2 l2 c2 f2 k (by omega)) cal_Sh_start ml_St_53 ⟨Nat.le_of_ble_eq_true rfl, Nat.le_of_ble_eq_true rfl⟩ hZ hP hD (isC := [10, 11, 12]) ⟨rfl, rfl⟩ 10 (ci := 1) rfl rfl rfl rfl hl.1 rfl (Nat.le_of_ble_eq_true rfl) d_St_enter_51 ⟨Nat.le_of_ble_eq_true rfl, Nat.le_of_ble_eq_true rfl⟩ (fun v hv => ?_)
      subst hv
      refine va_iast hx hb hZ.1 hP hD hS 2 1 rfl rfl (vp_in_nI (by omega) (by omega)) d_St_enter_54 (fun H locs hP hD hS => ?_)
      rw [show ((nI d).toNatClampNeg) = d from nI_clamp (by omega)] at hP hD
      have hP : va_P D classes [(s, .inr (2, [.ref e0, .ref e1, .ref e2, .ref ki, .ref pl, .ref en, .int (nI d), .int dp])), (ki, .inl (cI, 10, .inl (upd fk d 2))), (pl, .inl (cI, 10, .inl (upd fl d (startX m2 l2 f2 k)))), (en, .inl (cI, 10, .inl fz)), (e0, .inr (1, [.ref h0, .int (nI m0)])), (h0, .inr (0, [.ref a0, .int (nI l0)])), (a0, .inl (cB, c0, .inl f0)), (e1, .inr (1, [.ref h1, .int (nI m1)])), (h1, .inr (0, [.ref a1, .int (nI l1)])), (a1, .inl (cB, c1, .inl f1)), (e2, .inr (1, [.ref h2, .int (nI m2)])), (h2, .inr (0, [.ref a2, .int (nI l2)])), (a2, .inl (cB, c2, .inl f2))] H := hP
      have hD : va_D A_ [(s, .inr (2, [.ref e0, .ref e1, .ref e2, .ref ki, .ref pl, .ref en, .int (nI d), .int dp])), (ki, .inl (cI, 10, .inl (upd fk d 2))), (pl, .inl (cI, 10, .inl (upd fl d (startX m2 l2 f2 k)))), (en, .inl (cI, 10, .inl fz)), (e0, .inr (1, [.ref h0, .int (nI m0)])), (h0, .inr (0, [.ref a0, .int (nI l0)])), (a0, .inl (cB, c0, .inl f0)), (e1, .inr (1, [.ref h1, .int (nI m1)])), (h1, .inr (0, [.ref a1, .int (nI l1)])), (a1, .inl (cB, c1, .inl f1)), (e2, .inr (1, [.ref h2, .int (nI m2)])), (h2, .inr (0, [.ref a2, .int (nI l2)])), (a2, .inl (cB, c2, .inl f2))] := hD
      refine lv_aload_n hx hb d_St_enter_55 rfl (lv_at hl 0 rfl) ?_
      refine va_get (D := D) (ci := 2) (v := .ref en) (C := R_St) (T := F_St) (N := 8) hx hb hts i_St hown hZ.1 hP 0 rfl rfl 5 (by decide) (hts _ fl_St_31) (fun _ h9 => h9) rfl d_St_enter_56 ?_
      refine lv_aload_n hx hb d_St_enter_59 rfl (lv_at hl 0 rfl) ?_
      refine va_get (D := D) (ci := 2) (v := .int (nI d)) (C := R_St) (T := F_St) (N := 8) hx hb hts i_St hown hZ.1 hP 0 rfl rfl 6 (by decide) (hts _ fl_St_38) (fun _ h9 => h9) rfl d_St_enter_60 ?_
      refine lv_aload_n hx hb d_St_enter_63 rfl (lv_at hl 0 rfl) ?_
      refine lv_iload_n hx hb d_St_enter_64 rfl (lv_at hl 1 rfl) ?_
      refine roV (As := [.int 2]) (rest := [.int (nI d), .ref en]) ⟨hx, hb, hml, hown, hts⟩ gd_good (c_St_shelf l D cB cI cJ s e0 e1 e2 ki pl en d dp 2) cal_St_shelf ml_St_45 ⟨Nat.le_of_ble_eq_true rfl, Nat.le_of_ble_eq_true rfl⟩ hZ hP hD (isC := [0]) ⟨rfl, rfl⟩ 0 (ci := 2) rfl rfl rfl rfl hl.1 rfl (Nat.le_of_ble_eq_true rfl) d_St_enter_65 ⟨Nat.le_of_ble_eq_true rfl, Nat.le_of_ble_eq_true rfl⟩ (fun v hv => ?_)
      have hv : v = .ref e2 := hv
      subst hv
      refine lv_iload_n hx hb d_St_enter_68 rfl (lv_at hl 2 rfl) ?_
      refine lv_iconst (v := 1) hx hb d_St_enter_69 (by decide) ?_
      refine lv_iadd hx hb d_St_enter_70 ?_
      refine roV (As := [.int (k + 1)]) (rest := [.int (nI d), .ref en]) ⟨hx, hb, hml, hown, hts⟩ gd_good (c_Sh_start l D cB cI cJ e2 h2 a2 m2 l2 c2 f2 (k + 1) (by omega)) cal_Sh_start ml_St_53 ⟨Nat.le_of_ble_eq_true rfl, Nat.le_of_ble_eq_true rfl⟩ hZ hP hD (isC := [10, 11, 12]) ⟨rfl, rfl⟩ 10 (ci := 1) rfl rfl rfl rfl hl.1 rfl (Nat.le_of_ble_eq_true rfl) d_St_enter_71 ⟨Nat.le_of_ble_eq_true rfl, Nat.le_of_ble_eq_true rfl⟩ (fun v hv => ?_)
      subst hv
      refine va_iast hx hb hZ.1 hP hD hS 3 1 rfl rfl (vp_in_nI (by omega) (by omega)) d_St_enter_74 (fun H locs hP hD hS => ?_)
      rw [show ((nI d).toNatClampNeg) = d from nI_clamp (by omega)] at hP hD
      have hP : va_P D classes [(s, .inr (2, [.ref e0, .ref e1, .ref e2, .ref ki, .ref pl, .ref en, .int (nI d), .int dp])), (ki, .inl (cI, 10, .inl (upd fk d 2))), (pl, .inl (cI, 10, .inl (upd fl d (startX m2 l2 f2 k)))), (en, .inl (cI, 10, .inl (upd fz d (startX m2 l2 f2 (k + 1))))), (e0, .inr (1, [.ref h0, .int (nI m0)])), (h0, .inr (0, [.ref a0, .int (nI l0)])), (a0, .inl (cB, c0, .inl f0)), (e1, .inr (1, [.ref h1, .int (nI m1)])), (h1, .inr (0, [.ref a1, .int (nI l1)])), (a1, .inl (cB, c1, .inl f1)), (e2, .inr (1, [.ref h2, .int (nI m2)])), (h2, .inr (0, [.ref a2, .int (nI l2)])), (a2, .inl (cB, c2, .inl f2))] H := hP
      have hD : va_D A_ [(s, .inr (2, [.ref e0, .ref e1, .ref e2, .ref ki, .ref pl, .ref en, .int (nI d), .int dp])), (ki, .inl (cI, 10, .inl (upd fk d 2))), (pl, .inl (cI, 10, .inl (upd fl d (startX m2 l2 f2 k)))), (en, .inl (cI, 10, .inl (upd fz d (startX m2 l2 f2 (k + 1))))), (e0, .inr (1, [.ref h0, .int (nI m0)])), (h0, .inr (0, [.ref a0, .int (nI l0)])), (a0, .inl (cB, c0, .inl f0)), (e1, .inr (1, [.ref h1, .int (nI m1)])), (h1, .inr (0, [.ref a1, .int (nI l1)])), (a1, .inl (cB, c1, .inl f1)), (e2, .inr (1, [.ref h2, .int (nI m2)])), (h2, .inr (0, [.ref a2, .int (nI l2)])), (a2, .inl (cB, c2, .inl f2))] := hD
      refine lv_aload_n hx hb d_St_enter_75 rfl (lv_at hl 0 rfl) ?_
      refine lv_dup hx hb d_St_enter_76 rfl ?_
      refine va_get (D := D) (ci := 2) (v := .int (nI d)) (C := R_St) (T := F_St) (N := 8) hx hb hts i_St hown hZ.1 hP 0 rfl rfl 6 (by decide) (hts _ fl_St_38) (fun _ h9 => h9) rfl d_St_enter_77 ?_
      refine lv_iconst (v := 1) hx hb d_St_enter_80 (by decide) ?_
      refine lv_iadd hx hb d_St_enter_81 ?_
      refine lv_tv (y := nI (d + 1)) (nI_add d 1) ?_
      refine va_put (D := D) (ci := 2) (v := .int (nI (d + 1))) (ty := .int) (C := R_St) (T := F_St) (N := 8) hx hb hts i_St t_St t_St_ok n_St hown hZ.1 hP hD hS 0 rfl rfl 6 (by decide) (hts _ fl_St_38) (fun _ h9 => h9) rfl (by decide +kernel) rfl rfl (Nat.le_of_ble_eq_true rfl) d_St_enter_82 (fun H locs hP hD hS => ?_)
      have hP : va_P D classes [(s, .inr (2, [.ref e0, .ref e1, .ref e2, .ref ki, .ref pl, .ref en, .int (nI (d + 1)), .int dp])), (ki, .inl (cI, 10, .inl (upd fk d 2))), (pl, .inl (cI, 10, .inl (upd fl d (startX m2 l2 f2 k)))), (en, .inl (cI, 10, .inl (upd fz d (startX m2 l2 f2 (k + 1))))), (e0, .inr (1, [.ref h0, .int (nI m0)])), (h0, .inr (0, [.ref a0, .int (nI l0)])), (a0, .inl (cB, c0, .inl f0)), (e1, .inr (1, [.ref h1, .int (nI m1)])), (h1, .inr (0, [.ref a1, .int (nI l1)])), (a1, .inl (cB, c1, .inl f1)), (e2, .inr (1, [.ref h2, .int (nI m2)])), (h2, .inr (0, [.ref a2, .int (nI l2)])), (a2, .inl (cB, c2, .inl f2))] H := hP
      have hD : va_D A_ [(s, .inr (2, [.ref e0, .ref e1, .ref e2, .ref ki, .ref pl, .ref en, .int (nI (d + 1)), .int dp])), (ki, .inl (cI, 10, .inl (upd fk d 2))), (pl, .inl (cI, 10, .inl (upd fl d (startX m2 l2 f2 k)))), (en, .inl (cI, 10, .inl (upd fz d (startX m2 l2 f2 (k + 1))))), (e0, .inr (1, [.ref h0, .int (nI m0)])), (h0, .inr (0, [.ref a0, .int (nI l0)])), (a0, .inl (cB, c0, .inl f0)), (e1, .inr (1, [.ref h1, .int (nI m1)])), (h1, .inr (0, [.ref a1, .int (nI l1)])), (a1, .inl (cB, c1, .inl f1)), (e2, .inr (1, [.ref h2, .int (nI m2)])), (h2, .inr (0, [.ref a2, .int (nI l2)])), (a2, .inl (cB, c2, .inl f2))] := hD
      refine lv_aload_n hx hb d_St_enter_85 rfl (lv_at hl 0 rfl) ?_
      refine lv_aload_n hx hb d_St_enter_86 rfl (lv_at hl 0 rfl) ?_
      refine va_get (D := D) (ci := 2) (v := .int dp) (C := R_St) (T := F_St) (N := 8) hx hb hts i_St hown hZ.1 hP 0 rfl rfl 7 (by decide) (hts _ fl_St_34) (fun _ h9 => h9) rfl d_St_enter_87 ?_
      refine lv_aload_n hx hb d_St_enter_90 rfl (lv_at hl 0 rfl) ?_
      refine va_get (D := D) (ci := 2) (v := .int (nI (d + 1))) (C := R_St) (T := F_St) (N := 8) hx hb hts i_St hown hZ.1 hP 0 rfl rfl 6 (by decide) (hts _ fl_St_38) (fun _ h9 => h9) rfl d_St_enter_91 ?_
      refine roS (As := [.int dp, .int (nI (d + 1))]) (rest := [.ref s]) ⟨hx, hb, hml, hown, hts⟩ gd_good (c_Math_max l D cB cI cJ dp (nI (d + 1))) cal_Math_max ml_St_57 ⟨Nat.le_of_ble_eq_true rfl, Nat.le_of_ble_eq_true rfl⟩ hZ hP hD (isC := []) ⟨rfl, rfl⟩ rfl hl.1 rfl (Nat.le_of_ble_eq_true rfl) d_St_enter_94 ⟨Nat.le_of_ble_eq_true rfl, Nat.le_of_ble_eq_true rfl⟩ (fun v hv => ?_)
      subst hv
      refine va_put (D := D) (ci := 2) (v := .int (iMax dp (nI (d + 1)))) (ty := .int) (C := R_St) (T := F_St) (N := 8) hx hb hts i_St t_St t_St_ok n_St hown hZ.1 hP hD hS 0 rfl rfl 7 (by decide) (hts _ fl_St_34) (fun _ h9 => h9) rfl (by decide +kernel) rfl rfl (Nat.le_of_ble_eq_true rfl) d_St_enter_97 (fun H locs hP hD hS => ?_)
      have hP : va_P D classes [(s, .inr (2, [.ref e0, .ref e1, .ref e2, .ref ki, .ref pl, .ref en, .int (nI (d + 1)), .int (iMax dp (nI (d + 1)))])), (ki, .inl (cI, 10, .inl (upd fk d 2))), (pl, .inl (cI, 10, .inl (upd fl d (startX m2 l2 f2 k)))), (en, .inl (cI, 10, .inl (upd fz d (startX m2 l2 f2 (k + 1))))), (e0, .inr (1, [.ref h0, .int (nI m0)])), (h0, .inr (0, [.ref a0, .int (nI l0)])), (a0, .inl (cB, c0, .inl f0)), (e1, .inr (1, [.ref h1, .int (nI m1)])), (h1, .inr (0, [.ref a1, .int (nI l1)])), (a1, .inl (cB, c1, .inl f1)), (e2, .inr (1, [.ref h2, .int (nI m2)])), (h2, .inr (0, [.ref a2, .int (nI l2)])), (a2, .inl (cB, c2, .inl f2))] H := hP
      have hD : va_D A_ [(s, .inr (2, [.ref e0, .ref e1, .ref e2, .ref ki, .ref pl, .ref en, .int (nI (d + 1)), .int (iMax dp (nI (d + 1)))])), (ki, .inl (cI, 10, .inl (upd fk d 2))), (pl, .inl (cI, 10, .inl (upd fl d (startX m2 l2 f2 k)))), (en, .inl (cI, 10, .inl (upd fz d (startX m2 l2 f2 (k + 1))))), (e0, .inr (1, [.ref h0, .int (nI m0)])), (h0, .inr (0, [.ref a0, .int (nI l0)])), (a0, .inl (cB, c0, .inl f0)), (e1, .inr (1, [.ref h1, .int (nI m1)])), (h1, .inr (0, [.ref a1, .int (nI l1)])), (a1, .inl (cB, c1, .inl f1)), (e2, .inr (1, [.ref h2, .int (nI m2)])), (h2, .inr (0, [.ref a2, .int (nI l2)])), (a2, .inl (cB, c2, .inl f2))] := hD
      refine lv_iconst (v := 0) hx hb d_St_enter_100 (by decide) ?_
      exact t_iret hx hb hr hlk d_St_enter_101 (hP.subm (ws' := [(s, .inr (2, [.ref e0, .ref e1, .ref e2, .ref ki, .ref pl, .ref en, .int (nI (d + 1)), .int (iMax dp (nI (d + 1)))])), (ki, .inl (cI, 10, .inl (upd fk d 2))), (pl, .inl (cI, 10, .inl (upd fl d (startX m2 l2 f2 k)))), (en, .inl (cI, 10, .inl (upd fz d (startX m2 l2 f2 (k + 1))))), (e0, .inr (1, [.ref h0, .int (nI m0)])), (h0, .inr (0, [.ref a0, .int (nI l0)])), (a0, .inl (cB, c0, .inl f0)), (e1, .inr (1, [.ref h1, .int (nI m1)])), (h1, .inr (0, [.ref a1, .int (nI l1)])), (a1, .inl (cB, c1, .inl f1)), (e2, .inr (1, [.ref h2, .int (nI m2)])), (h2, .inr (0, [.ref a2, .int (nI l2)])), (a2, .inl (cB, c2, .inl f2))]) [0, 1, 2, 3, 4, 5, 6, 7, 8, 9, 10, 11, 12] rfl) (hD.sub (ws' := [(s, .inr (2, [.ref e0, .ref e1, .ref e2, .ref ki, .ref pl, .ref en, .int (nI (d + 1)), .int (iMax dp (nI (d + 1)))])), (ki, .inl (cI, 10, .inl (upd fk d 2))), (pl, .inl (cI, 10, .inl (upd fl d (startX m2 l2 f2 k)))), (en, .inl (cI, 10, .inl (upd fz d (startX m2 l2 f2 (k + 1))))), (e0, .inr (1, [.ref h0, .int (nI m0)])), (h0, .inr (0, [.ref a0, .int (nI l0)])), (a0, .inl (cB, c0, .inl f0)), (e1, .inr (1, [.ref h1, .int (nI m1)])), (h1, .inr (0, [.ref a1, .int (nI l1)])), (a1, .inl (cB, c1, .inl f1)), (e2, .inr (1, [.ref h2, .int (nI m2)])), (h2, .inr (0, [.ref a2, .int (nI l2)])), (a2, .inl (cB, c2, .inl f2))]) [0, 1, 2, 3, 4, 5, 6, 7, 8, 9, 10, 11, 12] rfl rfl) hS ⟨_, rfl, rfl, rfl, _, _, _, _, _, rfl, (by omega), (en_ok (S := (m2, l2, f2)) rfl c_9 (by omega))⟩
    · have n_21 : ¬ (d) < (10) := fun z => c_21 ((nI_ltI (a := d) (b := 10) (by omega) (by omega)).mpr z)
      refine lv_bipush (v := (-9)) hx hb d_St_enter_24 (by decide) ?_
      exact t_iret hx hb hr hlk d_St_enter_26 (hP.subm (ws' := [(s, .inr (2, [.ref e0, .ref e1, .ref e2, .ref ki, .ref pl, .ref en, .int (nI d), .int dp])), (ki, .inl (cI, 10, .inl fk)), (pl, .inl (cI, 10, .inl fl)), (en, .inl (cI, 10, .inl fz)), (e0, .inr (1, [.ref h0, .int (nI m0)])), (h0, .inr (0, [.ref a0, .int (nI l0)])), (a0, .inl (cB, c0, .inl f0)), (e1, .inr (1, [.ref h1, .int (nI m1)])), (h1, .inr (0, [.ref a1, .int (nI l1)])), (a1, .inl (cB, c1, .inl f1)), (e2, .inr (1, [.ref h2, .int (nI m2)])), (h2, .inr (0, [.ref a2, .int (nI l2)])), (a2, .inl (cB, c2, .inl f2))]) [0, 1, 2, 3, 4, 5, 6, 7, 8, 9, 10, 11, 12] rfl) (hD.sub (ws' := [(s, .inr (2, [.ref e0, .ref e1, .ref e2, .ref ki, .ref pl, .ref en, .int (nI d), .int dp])), (ki, .inl (cI, 10, .inl fk)), (pl, .inl (cI, 10, .inl fl)), (en, .inl (cI, 10, .inl fz)), (e0, .inr (1, [.ref h0, .int (nI m0)])), (h0, .inr (0, [.ref a0, .int (nI l0)])), (a0, .inl (cB, c0, .inl f0)), (e1, .inr (1, [.ref h1, .int (nI m1)])), (h1, .inr (0, [.ref a1, .int (nI l1)])), (a1, .inl (cB, c1, .inl f1)), (e2, .inr (1, [.ref h2, .int (nI m2)])), (h2, .inr (0, [.ref a2, .int (nI l2)])), (a2, .inl (cB, c2, .inl f2))]) [0, 1, 2, 3, 4, 5, 6, 7, 8, 9, 10, 11, 12] rfl rfl) hS ⟨_, rfl, rfl, rfl, _, _, _, _, _, rfl, (by omega), (en_deep (S := (m2, l2, f2)) rfl c_9 (by omega))⟩
  · refine lv_bipush (v := (-8)) hx hb d_St_enter_12 (by decide) ?_
    exact t_iret hx hb hr hlk d_St_enter_14 (hP.subm (ws' := [(s, .inr (2, [.ref e0, .ref e1, .ref e2, .ref ki, .ref pl, .ref en, .int (nI d), .int dp])), (ki, .inl (cI, 10, .inl fk)), (pl, .inl (cI, 10, .inl fl)), (en, .inl (cI, 10, .inl fz)), (e0, .inr (1, [.ref h0, .int (nI m0)])), (h0, .inr (0, [.ref a0, .int (nI l0)])), (a0, .inl (cB, c0, .inl f0)), (e1, .inr (1, [.ref h1, .int (nI m1)])), (h1, .inr (0, [.ref a1, .int (nI l1)])), (a1, .inl (cB, c1, .inl f1)), (e2, .inr (1, [.ref h2, .int (nI m2)])), (h2, .inr (0, [.ref a2, .int (nI l2)])), (a2, .inl (cB, c2, .inl f2))]) [0, 1, 2, 3, 4, 5, 6, 7, 8, 9, 10, 11, 12] rfl) (hD.sub (ws' := [(s, .inr (2, [.ref e0, .ref e1, .ref e2, .ref ki, .ref pl, .ref en, .int (nI d), .int dp])), (ki, .inl (cI, 10, .inl fk)), (pl, .inl (cI, 10, .inl fl)), (en, .inl (cI, 10, .inl fz)), (e0, .inr (1, [.ref h0, .int (nI m0)])), (h0, .inr (0, [.ref a0, .int (nI l0)])), (a0, .inl (cB, c0, .inl f0)), (e1, .inr (1, [.ref h1, .int (nI m1)])), (h1, .inr (0, [.ref a1, .int (nI l1)])), (a1, .inl (cB, c1, .inl f1)), (e2, .inr (1, [.ref h2, .int (nI m2)])), (h2, .inr (0, [.ref a2, .int (nI l2)])), (a2, .inl (cB, c2, .inl f2))]) [0, 1, 2, 3, 4, 5, 6, 7, 8, 9, 10, 11, 12] rfl rfl) hS ⟨_, rfl, rfl, rfl, _, _, _, _, _, rfl, (by omega), (en_call (S := (m2, l2, f2)) rfl c_9)⟩
set_option maxHeartbeats 1000000 in
set_option maxRecDepth 100000 in
theorem c_St_begin (l : Launch) (D : va_G) (cB cI cJ : ClassId) (s ki pl en e0 h0 a0 m0 l0 c0 e1 h1 a1 m1 l1 c1 e2 h2 a2 m2 l2 c2 : Nat) (f0 : Nat → Int32) (f1 : Nat → Int32) (f2 : Nat → Int32) (d : Nat) (dp : Int32) (fk : Nat → Int32) (fl : Nat → Int32) (fz : Nat → Int32) (k : Int32) (hiSy : d ≤ 10) (hhSy : (l0 ≤ c0 ∧ c0 ≤ 16384) ∧ (l1 ≤ c1 ∧ c1 ≤ 16384) ∧ (l2 ≤ c2 ∧ c2 ≤ 16384)) (hk : ¬ hasS m0 k = 0) : Tr l D classes (TY cB cI cJ) gd_tbl nx_tbl y_St_begin b_St_begin 2 none ({ frames := 4, cells := 0, slots := 0, locals := 90 }) [.ref s, .int k] [(s, .inr (2, [.ref e0, .ref e1, .ref e2, .ref ki, .ref pl, .ref en, .int (nI d), .int dp])), (ki, .inl (cI, 10, .inl fk)), (pl, .inl (cI, 10, .inl fl)), (en, .inl (cI, 10, .inl fz)), (e0, .inr (1, [.ref h0, .int (nI m0)])), (h0, .inr (0, [.ref a0, .int (nI l0)])), (a0, .inl (cB, c0, .inl f0)), (e1, .inr (1, [.ref h1, .int (nI m1)])), (h1, .inr (0, [.ref a1, .int (nI l1)])), (a1, .inl (cB, c1, .inl f1)), (e2, .inr (1, [.ref h2, .int (nI m2)])), (h2, .inr (0, [.ref a2, .int (nI l2)])), (a2, .inl (cB, c2, .inl f2))] (pV0 (fun w => ∃ (d' : Nat) (dp' : Int32) (fk' : Nat → Int32) (fl' : Nat → Int32) (fz' : Nat → Int32), w = [(s, .inr (2, [.ref e0, .ref e1, .ref e2, .ref ki, .ref pl, .ref en, .int (nI d'), .int dp'])), (ki, .inl (cI, 10, .inl fk')), (pl, .inl (cI, 10, .inl fl')), (en, .inl (cI, 10, .inl fz')), (e0, .inr (1, [.ref h0, .int (nI m0)])), (h0, .inr (0, [.ref a0, .int (nI l0)])), (a0, .inl (cB, c0, .inl f0)), (e1, .inr (1, [.ref h1, .int (nI m1)])), (h1, .inr (0, [.ref a1, .int (nI l1)])), (a1, .inl (cB, c1, .inl f1)), (e2, .inr (1, [.ref h2, .int (nI m2)])), (h2, .inr (0, [.ref a2, .int (nI l2)])), (a2, .inl (cB, c2, .inl f2))] ∧ (d' ≤ 10) ∧ (enterP ((m0, l0, f0), (m1, l1, f1), (m2, l2, f2)) (0, zero7, zero7, zero7) 0 k = some (sS d' fk' fl' fz')))) := by
  refine Tr.intro (by decide +kernel) nx_ok (Nat.le_of_ble_eq_true rfl) ?_
  intro p_ e_ s_ m_ args_ below_ meth_ c_ A_ ls hx hb hml hown hts hr hlk hnm hZ hP hD hS hl
  have hl : lv_has ls 2 [(0, .ref s), (1, .int k)] := hl
  refine lv_aload_n hx hb d_St_begin_0 rfl (lv_at hl 0 rfl) ?_
  refine lv_iconst (v := 0) hx hb d_St_begin_1 (by decide) ?_
  refine va_put (D := D) (ci := 2) (v := .int 0) (ty := .int) (C := R_St) (T := F_St) (N := 8) hx hb hts i_St t_St t_St_ok n_St hown hZ.1 hP hD hS 0 rfl rfl 6 (by decide) (hts _ fl_St_38) (fun _ h9 => h9) rfl (by decide +kernel) rfl rfl (Nat.le_of_ble_eq_true rfl) d_St_begin_2 (fun H locs hP hD hS => ?_)
  have hP : va_P D classes [(s, .inr (2, [.ref e0, .ref e1, .ref e2, .ref ki, .ref pl, .ref en, .int 0, .int dp])), (ki, .inl (cI, 10, .inl fk)), (pl, .inl (cI, 10, .inl fl)), (en, .inl (cI, 10, .inl fz)), (e0, .inr (1, [.ref h0, .int (nI m0)])), (h0, .inr (0, [.ref a0, .int (nI l0)])), (a0, .inl (cB, c0, .inl f0)), (e1, .inr (1, [.ref h1, .int (nI m1)])), (h1, .inr (0, [.ref a1, .int (nI l1)])), (a1, .inl (cB, c1, .inl f1)), (e2, .inr (1, [.ref h2, .int (nI m2)])), (h2, .inr (0, [.ref a2, .int (nI l2)])), (a2, .inl (cB, c2, .inl f2))] H := hP
  have hD : va_D A_ [(s, .inr (2, [.ref e0, .ref e1, .ref e2, .ref ki, .ref pl, .ref en, .int 0, .int dp])), (ki, .inl (cI, 10, .inl fk)), (pl, .inl (cI, 10, .inl fl)), (en, .inl (cI, 10, .inl fz)), (e0, .inr (1, [.ref h0, .int (nI m0)])), (h0, .inr (0, [.ref a0, .int (nI l0)])), (a0, .inl (cB, c0, .inl f0)), (e1, .inr (1, [.ref h1, .int (nI m1)])), (h1, .inr (0, [.ref a1, .int (nI l1)])), (a1, .inl (cB, c1, .inl f1)), (e2, .inr (1, [.ref h2, .int (nI m2)])), (h2, .inr (0, [.ref a2, .int (nI l2)])), (a2, .inl (cB, c2, .inl f2))] := hD
  refine lv_aload_n hx hb d_St_begin_5 rfl (lv_at hl 0 rfl) ?_
  refine lv_iconst (v := 0) hx hb d_St_begin_6 (by decide) ?_
  refine va_put (D := D) (ci := 2) (v := .int 0) (ty := .int) (C := R_St) (T := F_St) (N := 8) hx hb hts i_St t_St t_St_ok n_St hown hZ.1 hP hD hS 0 rfl rfl 7 (by decide) (hts _ fl_St_34) (fun _ h9 => h9) rfl (by decide +kernel) rfl rfl (Nat.le_of_ble_eq_true rfl) d_St_begin_7 (fun H locs hP hD hS => ?_)
  have hP : va_P D classes [(s, .inr (2, [.ref e0, .ref e1, .ref e2, .ref ki, .ref pl, .ref en, .int 0, .int 0])), (ki, .inl (cI, 10, .inl fk)), (pl, .inl (cI, 10, .inl fl)), (en, .inl (cI, 10, .inl fz)), (e0, .inr (1, [.ref h0, .int (nI m0)])), (h0, .inr (0, [.ref a0, .int (nI l0)])), (a0, .inl (cB, c0, .inl f0)), (e1, .inr (1, [.ref h1, .int (nI m1)])), (h1, .inr (0, [.ref a1, .int (nI l1)])), (a1, .inl (cB, c1, .inl f1)), (e2, .inr (1, [.ref h2, .int (nI m2)])), (h2, .inr (0, [.ref a2, .int (nI l2)])), (a2, .inl (cB, c2, .inl f2))] H := hP
  have hD : va_D A_ [(s, .inr (2, [.ref e0, .ref e1, .ref e2, .ref ki, .ref pl, .ref en, .int 0, .int 0])), (ki, .inl (cI, 10, .inl fk)), (pl, .inl (cI, 10, .inl fl)), (en, .inl (cI, 10, .inl fz)), (e0, .inr (1, [.ref h0, .int (nI m0)])), (h0, .inr (0, [.ref a0, .int (nI l0)])), (a0, .inl (cB, c0, .inl f0)), (e1, .inr (1, [.ref h1, .int (nI m1)])), (h1, .inr (0, [.ref a1, .int (nI l1)])), (a1, .inl (cB, c1, .inl f1)), (e2, .inr (1, [.ref h2, .int (nI m2)])), (h2, .inr (0, [.ref a2, .int (nI l2)])), (a2, .inl (cB, c2, .inl f2))] := hD
  refine lv_aload_n hx hb d_St_begin_10 rfl (lv_at hl 0 rfl) ?_
  refine lv_iconst (v := 0) hx hb d_St_begin_11 (by decide) ?_
  refine lv_iload_n hx hb d_St_begin_12 rfl (lv_at hl 1 rfl) ?_
  have hC : Cut [(s, .inr (2, [.ref e0, .ref e1, .ref e2, .ref ki, .ref pl, .ref en, .int 0, .int 0])), (ki, .inl (cI, 10, .inl fk)), (pl, .inl (cI, 10, .inl fl)), (en, .inl (cI, 10, .inl fz)), (e0, .inr (1, [.ref h0, .int (nI m0)])), (h0, .inr (0, [.ref a0, .int (nI l0)])), (a0, .inl (cB, c0, .inl f0)), (e1, .inr (1, [.ref h1, .int (nI m1)])), (h1, .inr (0, [.ref a1, .int (nI l1)])), (a1, .inl (cB, c1, .inl f1)), (e2, .inr (1, [.ref h2, .int (nI m2)])), (h2, .inr (0, [.ref a2, .int (nI l2)])), (a2, .inl (cB, c2, .inl f2))] [(s, .inr (2, [.ref e0, .ref e1, .ref e2, .ref ki, .ref pl, .ref en, .int 0, .int 0])), (ki, .inl (cI, 10, .inl fk)), (pl, .inl (cI, 10, .inl fl)), (en, .inl (cI, 10, .inl fz)), (e0, .inr (1, [.ref h0, .int (nI m0)])), (h0, .inr (0, [.ref a0, .int (nI l0)])), (a0, .inl (cB, c0, .inl f0)), (e1, .inr (1, [.ref h1, .int (nI m1)])), (h1, .inr (0, [.ref a1, .int (nI l1)])), (a1, .inl (cB, c1, .inl f1)), (e2, .inr (1, [.ref h2, .int (nI m2)])), (h2, .inr (0, [.ref a2, .int (nI l2)])), (a2, .inl (cB, c2, .inl f2))] [] [0, 1, 2, 3, 4, 5, 6, 7, 8, 9, 10, 11, 12] [] := ⟨rfl, rfl, rfl, rfl, by decide⟩
  refine goI0 (trV (As := [.int 0, .int k]) (rest := []) ⟨hx, hb, hml, hown, hts⟩ gd_good (c_St_enter_0 l D cB cI cJ s ki pl en e0 h0 a0 m0 l0 c0 e1 h1 a1 m1 l1 c1 e2 h2 a2 m2 l2 c2 f0 f1 f2 0 0 fk fl fz k (by omega) (by omega) ) cal_St_enter ml_St_41 ⟨Nat.le_of_ble_eq_true rfl, Nat.le_of_ble_eq_true rfl⟩ hZ hP hD hC 0 (ci := 2) rfl rfl rfl rfl hl.1 rfl (Nat.le_of_ble_eq_true rfl) d_St_begin_13 ⟨Nat.le_of_ble_eq_true rfl, Nat.le_of_ble_eq_true rfl⟩) hZ hP hD hS hC (fun r_13 w1 H locs hq hP hD hS => ?_)
  obtain ⟨d_13, dp_13, fk_13, fl_13, fz_13, rfl, hv0_13, hx_13⟩ := hq
  have hP : va_P D classes [(s, .inr (2, [.ref e0, .ref e1, .ref e2, .ref ki, .ref pl, .ref en, .int (nI d_13), .int dp_13])), (ki, .inl (cI, 10, .inl fk_13)), (pl, .inl (cI, 10, .inl fl_13)), (en, .inl (cI, 10, .inl fz_13)), (e0, .inr (1, [.ref h0, .int (nI m0)])), (h0, .inr (0, [.ref a0, .int (nI l0)])), (a0, .inl (cB, c0, .inl f0)), (e1, .inr (1, [.ref h1, .int (nI m1)])), (h1, .inr (0, [.ref a1, .int (nI l1)])), (a1, .inl (cB, c1, .inl f1)), (e2, .inr (1, [.ref h2, .int (nI m2)])), (h2, .inr (0, [.ref a2, .int (nI l2)])), (a2, .inl (cB, c2, .inl f2))] H := hP
  have hD : va_D A_ [(s, .inr (2, [.ref e0, .ref e1, .ref e2, .ref ki, .ref pl, .ref en, .int (nI d_13), .int dp_13])), (ki, .inl (cI, 10, .inl fk_13)), (pl, .inl (cI, 10, .inl fl_13)), (en, .inl (cI, 10, .inl fz_13)), (e0, .inr (1, [.ref h0, .int (nI m0)])), (h0, .inr (0, [.ref a0, .int (nI l0)])), (a0, .inl (cB, c0, .inl f0)), (e1, .inr (1, [.ref h1, .int (nI m1)])), (h1, .inr (0, [.ref a1, .int (nI l1)])), (a1, .inl (cB, c1, .inl f1)), (e2, .inr (1, [.ref h2, .int (nI m2)])), (h2, .inr (0, [.ref a2, .int (nI l2)])), (a2, .inl (cB, c2, .inl f2))] := hD
  refine lv_pop hx hb d_St_begin_16 rfl ?_
  exact t_vret hx hb hr hlk d_St_begin_17 (hP.subm (ws' := [(s, .inr (2, [.ref e0, .ref e1, .ref e2, .ref ki, .ref pl, .ref en, .int (nI d_13), .int dp_13])), (ki, .inl (cI, 10, .inl fk_13)), (pl, .inl (cI, 10, .inl fl_13)), (en, .inl (cI, 10, .inl fz_13)), (e0, .inr (1, [.ref h0, .int (nI m0)])), (h0, .inr (0, [.ref a0, .int (nI l0)])), (a0, .inl (cB, c0, .inl f0)), (e1, .inr (1, [.ref h1, .int (nI m1)])), (h1, .inr (0, [.ref a1, .int (nI l1)])), (a1, .inl (cB, c1, .inl f1)), (e2, .inr (1, [.ref h2, .int (nI m2)])), (h2, .inr (0, [.ref a2, .int (nI l2)])), (a2, .inl (cB, c2, .inl f2))]) [0, 1, 2, 3, 4, 5, 6, 7, 8, 9, 10, 11, 12] rfl) (hD.sub (ws' := [(s, .inr (2, [.ref e0, .ref e1, .ref e2, .ref ki, .ref pl, .ref en, .int (nI d_13), .int dp_13])), (ki, .inl (cI, 10, .inl fk_13)), (pl, .inl (cI, 10, .inl fl_13)), (en, .inl (cI, 10, .inl fz_13)), (e0, .inr (1, [.ref h0, .int (nI m0)])), (h0, .inr (0, [.ref a0, .int (nI l0)])), (a0, .inl (cB, c0, .inl f0)), (e1, .inr (1, [.ref h1, .int (nI m1)])), (h1, .inr (0, [.ref a1, .int (nI l1)])), (a1, .inl (cB, c1, .inl f1)), (e2, .inr (1, [.ref h2, .int (nI m2)])), (h2, .inr (0, [.ref a2, .int (nI l2)])), (a2, .inl (cB, c2, .inl f2))]) [0, 1, 2, 3, 4, 5, 6, 7, 8, 9, 10, 11, 12] rfl rfl) hS ⟨rfl, rfl, rfl, _, _, _, _, _, rfl, (by omega), (en_some hk (by rw [← sS_0]; exact hx_13))⟩
set_option maxHeartbeats 1000000 in
set_option maxRecDepth 100000 in
theorem c_St_leave (l : Launch) (D : va_G) (cB cI cJ : ClassId) (s e0 e1 e2 ki pl en : Nat) (d : Nat) (dp : Int32) (fk : Nat → Int32) (fl : Nat → Int32) (fz : Nat → Int32)  (hiSx : d ≤ 10) : Tr l D classes (TY cB cI cJ) gd_tbl nx_tbl y_St_leave b_St_leave 1 (some .int) ({ frames := 0, cells := 0, slots := 0, locals := 0 }) [.ref s] [(s, .inr (2, [.ref e0, .ref e1, .ref e2, .ref ki, .ref pl, .ref en, .int (nI d), .int dp])), (ki, .inl (cI, 10, .inl fk)), (pl, .inl (cI, 10, .inl fl)), (en, .inl (cI, 10, .inl fz))] (pI0 (fun r w => ∃ (d' : Nat), w = [(s, .inr (2, [.ref e0, .ref e1, .ref e2, .ref ki, .ref pl, .ref en, .int (nI d'), .int dp])), (ki, .inl (cI, 10, .inl fk)), (pl, .inl (cI, 10, .inl fl)), (en, .inl (cI, 10, .inl fz))] ∧ (d' ≤ 10) ∧ (qR r (sS d' fk fl fz) = gP (leaveP (sS d fk fl fz))))) := by
  refine Tr.intro (by decide +kernel) nx_ok (Nat.le_of_ble_eq_true rfl) ?_
  intro p_ e_ s_ m_ args_ below_ meth_ c_ A_ ls hx hb hml hown hts hr hlk hnm hZ hP hD hS hl
  have hl : lv_has ls 1 [(0, .ref s)] := hl
  refine lv_aload_n hx hb d_St_leave_0 rfl (lv_at hl 0 rfl) ?_
  refine va_get (D := D) (ci := 2) (v := .int (nI d)) (C := R_St) (T := F_St) (N := 8) hx hb hts i_St hown hZ.1 hP 0 rfl rfl 6 (by decide) (hts _ fl_St_38) (fun _ h9 => h9) rfl d_St_leave_1 ?_
  refine lv_iconst (v := 1) hx hb d_St_leave_4 (by decide) ?_
  refine lv_icmp_gt (tgt := 11) hx hb d_St_leave_5 (by decide) (fun c_5 => ?_) (fun c_5 => ?_)
  · have n_5 : (1) < (d) := (nI_ltI (a := 1) (b := d) (by omega) (by omega)).mp c_5
    refine lv_aload_n hx hb d_St_leave_11 rfl (lv_at hl 0 rfl) ?_
    refine lv_dup hx hb d_St_leave_12 rfl ?_
    refine va_get (D := D) (ci := 2) (v := .int (nI d)) (C := R_St) (T := F_St) (N := 8) hx hb hts i_St hown hZ.1 hP 0 rfl rfl 6 (by decide) (hts _ fl_St_38) (fun _ h9 => h9) rfl d_St_leave_13 ?_
    refine lv_iconst (v := 1) hx hb d_St_leave_16 (by decide) ?_
    refine lv_isub hx hb d_St_leave_17 ?_
    refine lv_tv (y := nI (d - 1)) (pk_sub (a := d) (b := 1) (by omega)) ?_
    refine va_put (D := D) (ci := 2) (v := .int (nI (d - 1))) (ty := .int) (C := R_St) (T := F_St) (N := 8) hx hb hts i_St t_St t_St_ok n_St hown hZ.1 hP hD hS 0 rfl rfl 6 (by decide) (hts _ fl_St_38) (fun _ h9 => h9) rfl (by decide +kernel) rfl rfl (Nat.le_of_ble_eq_true rfl) d_St_leave_18 (fun H locs hP hD hS => ?_)
    have hP : va_P D classes [(s, .inr (2, [.ref e0, .ref e1, .ref e2, .ref ki, .ref pl, .ref en, .int (nI (d - 1)), .int dp])), (ki, .inl (cI, 10, .inl fk)), (pl, .inl (cI, 10, .inl fl)), (en, .inl (cI, 10, .inl fz))] H := hP
    have hD : va_D A_ [(s, .inr (2, [.ref e0, .ref e1, .ref e2, .ref ki, .ref pl, .ref en, .int (nI (d - 1)), .int dp])), (ki, .inl (cI, 10, .inl fk)), (pl, .inl (cI, 10, .inl fl)), (en, .inl (cI, 10, .inl fz))] := hD
    refine lv_iconst (v := 0) hx hb d_St_leave_21 (by decide) ?_
    exact t_iret hx hb hr hlk d_St_leave_22 (hP.subm (ws' := [(s, .inr (2, [.ref e0, .ref e1, .ref e2, .ref ki, .ref pl, .ref en, .int (nI (d - 1)), .int dp])), (ki, .inl (cI, 10, .inl fk)), (pl, .inl (cI, 10, .inl fl)), (en, .inl (cI, 10, .inl fz))]) [0, 1, 2, 3] rfl) (hD.sub (ws' := [(s, .inr (2, [.ref e0, .ref e1, .ref e2, .ref ki, .ref pl, .ref en, .int (nI (d - 1)), .int dp])), (ki, .inl (cI, 10, .inl fk)), (pl, .inl (cI, 10, .inl fl)), (en, .inl (cI, 10, .inl fz))]) [0, 1, 2, 3] rfl rfl) hS ⟨_, rfl, rfl, rfl, _, rfl, (by omega), (le_ok (by omega))⟩
  · have n_5 : ¬ (1) < (d) := fun z => c_5 ((nI_ltI (a := 1) (b := d) (by omega) (by omega)).mpr z)
    refine lv_bipush (v := (-5)) hx hb d_St_leave_8 (by decide) ?_
    exact t_iret hx hb hr hlk d_St_leave_10 (hP.subm (ws' := [(s, .inr (2, [.ref e0, .ref e1, .ref e2, .ref ki, .ref pl, .ref en, .int (nI d), .int dp])), (ki, .inl (cI, 10, .inl fk)), (pl, .inl (cI, 10, .inl fl)), (en, .inl (cI, 10, .inl fz))]) [0, 1, 2, 3] rfl) (hD.sub (ws' := [(s, .inr (2, [.ref e0, .ref e1, .ref e2, .ref ki, .ref pl, .ref en, .int (nI d), .int dp])), (ki, .inl (cI, 10, .inl fk)), (pl, .inl (cI, 10, .inl fl)), (en, .inl (cI, 10, .inl fz))]) [0, 1, 2, 3] rfl rfl) hS ⟨_, rfl, rfl, rfl, _, rfl, (by omega), (le_no (by omega))⟩
set_option maxHeartbeats 1000000 in
set_option maxRecDepth 100000 in
theorem c_St_has (l : Launch) (D : va_G) (cB cI cJ : ClassId) (s e0 e1 e2 ki pl en : Nat) (d : Nat) (dp : Int32) (fk : Nat → Int32) (fl : Nat → Int32) (fz : Nat → Int32) (b : Int32) (hiSx : d ≤ 10) : Tr l D classes (TY cB cI cJ) gd_tbl nx_tbl y_St_has b_St_has 2 (some .boolean) ({ frames := 0, cells := 0, slots := 0, locals := 0 }) [.ref s, .int b] [(s, .inr (2, [.ref e0, .ref e1, .ref e2, .ref ki, .ref pl, .ref en, .int (nI d), .int dp])), (ki, .inl (cI, 10, .inl fk)), (pl, .inl (cI, 10, .inl fl)), (en, .inl (cI, 10, .inl fz))] (pI0 (fun r w => w = [(s, .inr (2, [.ref e0, .ref e1, .ref e2, .ref ki, .ref pl, .ref en, .int (nI d), .int dp])), (ki, .inl (cI, 10, .inl fk)), (pl, .inl (cI, 10, .inl fl)), (en, .inl (cI, 10, .inl fz))] ∧ (r = (if hasP (sS d fk fl fz) b = true then 1 else 0)) ∧ (r = 0 ∨ r = 1))) := by
  refine Tr.intro (by decide +kernel) nx_ok (Nat.le_of_ble_eq_true rfl) ?_
  intro p_ e_ s_ m_ args_ below_ meth_ c_ A_ ls hx hb hml hown hts hr hlk hnm hZ hP hD hS hl
  have hl : lv_has ls 2 [(0, .ref s), (1, .int b)] := hl
  refine lv_aload_n hx hb d_St_has_0 rfl (lv_at hl 0 rfl) ?_
  refine va_get (D := D) (ci := 2) (v := .int (nI d)) (C := R_St) (T := F_St) (N := 8) hx hb hts i_St hown hZ.1 hP 0 rfl rfl 6 (by decide) (hts _ fl_St_38) (fun _ h9 => h9) rfl d_St_has_1 ?_
  refine lv_if_le (tgt := 38) hx hb d_St_has_4 (by decide) (fun c_4 => ?_) (fun c_4 => ?_)
  · have n_4 : (d) ≤ (0) := (nI_leI (a := d) (b := 0) (by omega) (by omega)).mp c_4
    refine lv_iconst (v := 0) hx hb d_St_has_38 (by decide) ?_
    exact t_zret hx hb hr hlk (by first | decide | exact nar01 (by assumption)) d_St_has_39 (hP.subm (ws' := [(s, .inr (2, [.ref e0, .ref e1, .ref e2, .ref ki, .ref pl, .ref en, .int (nI d), .int dp])), (ki, .inl (cI, 10, .inl fk)), (pl, .inl (cI, 10, .inl fl)), (en, .inl (cI, 10, .inl fz))]) [0, 1, 2, 3] rfl) (hD.sub (ws' := [(s, .inr (2, [.ref e0, .ref e1, .ref e2, .ref ki, .ref pl, .ref en, .int (nI d), .int dp])), (ki, .inl (cI, 10, .inl fk)), (pl, .inl (cI, 10, .inl fl)), (en, .inl (cI, 10, .inl fz))]) [0, 1, 2, 3] rfl rfl) hS ⟨_, rfl, rfl, rfl, rfl, (has_0 (by omega)), (by first | decide | assumption)⟩
  · have n_4 : ¬ (d) ≤ (0) := fun z => c_4 ((nI_leI (a := d) (b := 0) (by omega) (by omega)).mpr z)
    refine lv_aload_n hx hb d_St_has_7 rfl (lv_at hl 0 rfl) ?_
    refine va_get (D := D) (ci := 2) (v := .ref en) (C := R_St) (T := F_St) (N := 8) hx hb hts i_St hown hZ.1 hP 0 rfl rfl 5 (by decide) (hts _ fl_St_31) (fun _ h9 => h9) rfl d_St_has_8 ?_
    refine lv_aload_n hx hb d_St_has_11 rfl (lv_at hl 0 rfl) ?_
    refine va_get (D := D) (ci := 2) (v := .int (nI d)) (C := R_St) (T := F_St) (N := 8) hx hb hts i_St hown hZ.1 hP 0 rfl rfl 6 (by decide) (hts _ fl_St_38) (fun _ h9 => h9) rfl d_St_has_12 ?_
    refine lv_iconst (v := 1) hx hb d_St_has_15 (by decide) ?_
    refine lv_isub hx hb d_St_has_16 ?_
    refine lv_tv (y := nI (d - 1)) (pk_sub (a := d) (b := 1) (by omega)) ?_
    refine va_iald hx hb hZ.1 hP 3 1 rfl rfl (vp_in_nI (by omega) (by omega)) d_St_has_17 ?_
    refine lv_tv (y := fz (d - 1)) (by rw [nI_clamp (by omega)]) ?_
    refine lv_aload_n hx hb d_St_has_18 rfl (lv_at hl 0 rfl) ?_
    refine va_get (D := D) (ci := 2) (v := .ref pl) (C := R_St) (T := F_St) (N := 8) hx hb hts i_St hown hZ.1 hP 0 rfl rfl 4 (by decide) (hts _ fl_St_28) (fun _ h9 => h9) rfl d_St_has_19 ?_
    refine lv_aload_n hx hb d_St_has_22 rfl (lv_at hl 0 rfl) ?_
    refine va_get (D := D) (ci := 2) (v := .int (nI d)) (C := R_St) (T := F_St) (N := 8) hx hb hts i_St hown hZ.1 hP 0 rfl rfl 6 (by decide) (hts _ fl_St_38) (fun _ h9 => h9) rfl d_St_has_23 ?_
    refine lv_iconst (v := 1) hx hb d_St_has_26 (by decide) ?_
    refine lv_isub hx hb d_St_has_27 ?_
    refine lv_tv (y := nI (d - 1)) (pk_sub (a := d) (b := 1) (by omega)) ?_
    refine va_iald hx hb hZ.1 hP 2 1 rfl rfl (vp_in_nI (by omega) (by omega)) d_St_has_28 ?_
    refine lv_tv (y := fl (d - 1)) (by rw [nI_clamp (by omega)]) ?_
    refine lv_isub hx hb d_St_has_29 ?_
    refine lv_iload_n hx hb d_St_has_30 rfl (lv_at hl 1 rfl) ?_
    refine lv_icmp_lt (tgt := 38) hx hb d_St_has_31 (by decide) (fun c_31 => ?_) (fun c_31 => ?_)
    · refine lv_iconst (v := 0) hx hb d_St_has_38 (by decide) ?_
      exact t_zret hx hb hr hlk (by first | decide | exact nar01 (by assumption)) d_St_has_39 (hP.subm (ws' := [(s, .inr (2, [.ref e0, .ref e1, .ref e2, .ref ki, .ref pl, .ref en, .int (nI d), .int dp])), (ki, .inl (cI, 10, .inl fk)), (pl, .inl (cI, 10, .inl fl)), (en, .inl (cI, 10, .inl fz))]) [0, 1, 2, 3] rfl) (hD.sub (ws' := [(s, .inr (2, [.ref e0, .ref e1, .ref e2, .ref ki, .ref pl, .ref en, .int (nI d), .int dp])), (ki, .inl (cI, 10, .inl fk)), (pl, .inl (cI, 10, .inl fl)), (en, .inl (cI, 10, .inl fz))]) [0, 1, 2, 3] rfl rfl) hS ⟨_, rfl, rfl, rfl, rfl, (has_no (by omega) c_31), (by first | decide | assumption)⟩
    · refine lv_iconst (v := 1) hx hb d_St_has_34 (by decide) ?_
      refine lv_goto (tgt := 39) hx hb d_St_has_35 (by decide) ?_
      exact t_zret hx hb hr hlk (by first | decide | exact nar01 (by assumption)) d_St_has_39 (hP.subm (ws' := [(s, .inr (2, [.ref e0, .ref e1, .ref e2, .ref ki, .ref pl, .ref en, .int (nI d), .int dp])), (ki, .inl (cI, 10, .inl fk)), (pl, .inl (cI, 10, .inl fl)), (en, .inl (cI, 10, .inl fz))]) [0, 1, 2, 3] rfl) (hD.sub (ws' := [(s, .inr (2, [.ref e0, .ref e1, .ref e2, .ref ki, .ref pl, .ref en, .int (nI d), .int dp])), (ki, .inl (cI, 10, .inl fk)), (pl, .inl (cI, 10, .inl fl)), (en, .inl (cI, 10, .inl fz))]) [0, 1, 2, 3] rfl rfl) hS ⟨_, rfl, rfl, rfl, rfl, (has_ok (by omega) c_31), (by first | decide | assumption)⟩
set_option maxHeartbeats 1000000 in
set_option maxRecDepth 100000 in
theorem c_St_next (l : Launch) (D : va_G) (cB cI cJ : ClassId) (s ki pl en e0 h0 a0 m0 l0 c0 e1 h1 a1 m1 l1 c1 e2 h2 a2 m2 l2 c2 : Nat) (f0 : Nat → Int32) (f1 : Nat → Int32) (f2 : Nat → Int32) (d : Nat) (dp : Int32) (fk : Nat → Int32) (fl : Nat → Int32) (fz : Nat → Int32)  (hiSy : d ≤ 10) (hhSy : (l0 ≤ c0 ∧ c0 ≤ 16384) ∧ (l1 ≤ c1 ∧ c1 ≤ 16384) ∧ (l2 ≤ c2 ∧ c2 ≤ 16384)) : Tr l D classes (TY cB cI cJ) gd_tbl nx_tbl y_St_next b_St_next 2 (some .int) ({ frames := 2, cells := 0, slots := 0, locals := 42 }) [.ref s] [(s, .inr (2, [.ref e0, .ref e1, .ref e2, .ref ki, .ref pl, .ref en, .int (nI d), .int dp])), (ki, .inl (cI, 10, .inl fk)), (pl, .inl (cI, 10, .inl fl)), (en, .inl (cI, 10, .inl fz)), (e0, .inr (1, [.ref h0, .int (nI m0)])), (h0, .inr (0, [.ref a0, .int (nI l0)])), (a0, .inl (cB, c0, .inl f0)), (e1, .inr (1, [.ref h1, .int (nI m1)])), (h1, .inr (0, [.ref a1, .int (nI l1)])), (a1, .inl (cB, c1, .inl f1)), (e2, .inr (1, [.ref h2, .int (nI m2)])), (h2, .inr (0, [.ref a2, .int (nI l2)])), (a2, .inl (cB, c2, .inl f2))] (pI0 (fun r w => ∃ (fl' : Nat → Int32), w = [(s, .inr (2, [.ref e0, .ref e1, .ref e2, .ref ki, .ref pl, .ref en, .int (nI d), .int dp])), (ki, .inl (cI, 10, .inl fk)), (pl, .inl (cI, 10, .inl fl')), (en, .inl (cI, 10, .inl fz)), (e0, .inr (1, [.ref h0, .int (nI m0)])), (h0, .inr (0, [.ref a0, .int (nI l0)])), (a0, .inl (cB, c0, .inl f0)), (e1, .inr (1, [.ref h1, .int (nI m1)])), (h1, .inr (0, [.ref a1, .int (nI l1)])), (a1, .inl (cB, c1, .inl f1)), (e2, .inr (1, [.ref h2, .int (nI m2)])), (h2, .inr (0, [.ref a2, .int (nI l2)])), (a2, .inl (cB, c2, .inl f2))] ∧ (d ≤ 10) ∧ (0 < d → r = curP ((m0, l0, f0), (m1, l1, f1), (m2, l2, f2)) (sS d fk fl fz) ∧ sS d fk fl' fz = passP (sS d fk fl fz) 1))) := by
  refine Tr.intro (by decide +kernel) nx_ok (Nat.le_of_ble_eq_true rfl) ?_
  intro p_ e_ s_ m_ args_ below_ meth_ c_ A_ ls hx hb hml hown hts hr hlk hnm hZ hP hD hS hl
  have hl : lv_has ls 2 [(0, .ref s)] := hl
  refine lv_aload_n hx hb d_St_next_0 rfl (lv_at hl 0 rfl) ?_
  refine va_get (D := D) (ci := 2) (v := .int (nI d)) (C := R_St) (T := F_St) (N := 8) hx hb hts i_St hown hZ.1 hP 0 rfl rfl 6 (by decide) (hts _ fl_St_38) (fun _ h9 => h9) rfl d_St_next_1 ?_
  refine lv_if_ne (tgt := 9) hx hb d_St_next_4 (by decide) (fun c_4 => ?_) (fun c_4 => ?_)
  · have n_4 : ¬ (d) = (0) := fun z => c_4 ((nI_eq (a := d) (b := 0) (by omega) (by omega)).mpr z)
    refine lv_aload_n hx hb d_St_next_9 rfl (lv_at hl 0 rfl) ?_
    refine lv_aload_n hx hb d_St_next_10 rfl (lv_at hl 0 rfl) ?_
    refine va_get (D := D) (ci := 2) (v := .ref ki) (C := R_St) (T := F_St) (N := 8) hx hb hts i_St hown hZ.1 hP 0 rfl rfl 3 (by decide) (hts _ fl_St_24) (fun _ h9 => h9) rfl d_St_next_11 ?_
    refine lv_aload_n hx hb d_St_next_14 rfl (lv_at hl 0 rfl) ?_
    refine va_get (D := D) (ci := 2) (v := .int (nI d)) (C := R_St) (T := F_St) (N := 8) hx hb hts i_St hown hZ.1 hP 0 rfl rfl 6 (by decide) (hts _ fl_St_38) (fun _ h9 => h9) rfl d_St_next_15 ?_
    refine lv_iconst (v := 1) hx hb d_St_next_18 (by decide) ?_
    refine lv_isub hx hb d_St_next_19 ?_
    refine lv_tv (y := nI (d - 1)) (pk_sub (a := d) (b := 1) (by omega)) ?_
    refine va_iald hx hb hZ.1 hP 1 1 rfl rfl (vp_in_nI (by omega) (by omega)) d_St_next_20 ?_
    refine lv_tv (y := fk (d - 1)) (by rw [nI_clamp (by omega)]) ?_
    refine roV (As := [.int (fk (d - 1))]) (rest := []) ⟨hx, hb, hml, hown, hts⟩ gd_good (c_St_shelf l D cB cI cJ s e0 e1 e2 ki pl en d dp (fk (d - 1))) cal_St_shelf ml_St_45 ⟨Nat.le_of_ble_eq_true rfl, Nat.le_of_ble_eq_true rfl⟩ hZ hP hD (isC := [0]) ⟨rfl, rfl⟩ 0 (ci := 2) rfl rfl rfl rfl hl.1 rfl (Nat.le_of_ble_eq_true rfl) d_St_next_21 ⟨Nat.le_of_ble_eq_true rfl, Nat.le_of_ble_eq_true rfl⟩ (fun v hv => ?_)
    subst hv
    by_cases hk1 : fk (d - 1) = 1
    · refine lv_ta (selK_1 hk1) ?_
      refine lv_aload_n hx hb d_St_next_24 rfl (lv_at hl 0 rfl) ?_
      refine va_get (D := D) (ci := 2) (v := .ref pl) (C := R_St) (T := F_St) (N := 8) hx hb hts i_St hown hZ.1 hP 0 rfl rfl 4 (by decide) (hts _ fl_St_28) (fun _ h9 => h9) rfl d_St_next_25 ?_
      refine lv_aload_n hx hb d_St_next_28 rfl (lv_at hl 0 rfl) ?_
      refine va_get (D := D) (ci := 2) (v := .int (nI d)) (C := R_St) (T := F_St) (N := 8) hx hb hts i_St hown hZ.1 hP 0 rfl rfl 6 (by decide) (hts _ fl_St_38) (fun _ h9 => h9) rfl d_St_next_29 ?_
      refine lv_iconst (v := 1) hx hb d_St_next_32 (by decide) ?_
      refine lv_isub hx hb d_St_next_33 ?_
      refine lv_tv (y := nI (d - 1)) (pk_sub (a := d) (b := 1) (by omega)) ?_
      refine va_iald hx hb hZ.1 hP 2 1 rfl rfl (vp_in_nI (by omega) (by omega)) d_St_next_34 ?_
      refine lv_tv (y := fl (d - 1)) (by rw [nI_clamp (by omega)]) ?_
      refine roV (As := [.int (fl (d - 1))]) (rest := []) ⟨hx, hb, hml, hown, hts⟩ gd_good (c_Sh_at l D cB cI cJ e1 h1 a1 m1 l1 c1 f1 (fl (d - 1)) (by omega)) cal_Sh_at ml_St_62 ⟨Nat.le_of_ble_eq_true rfl, Nat.le_of_ble_eq_true rfl⟩ hZ hP hD (isC := [7, 8, 9]) ⟨rfl, rfl⟩ 7 (ci := 1) rfl rfl rfl rfl hl.1 rfl (Nat.le_of_ble_eq_true rfl) d_St_next_35 ⟨Nat.le_of_ble_eq_true rfl, Nat.le_of_ble_eq_true rfl⟩ (fun v hv => ?_)
      subst hv
      refine lv_istore_n (lv' := [(1, .int (atB l1 f1 (fl (d - 1)))), (0, .ref s)]) hx hb d_St_next_38 rfl hl (by decide) rfl (fun ls hl => ?_)
      refine lv_aload_n hx hb d_St_next_39 rfl (lv_at hl 1 rfl) ?_
      refine va_get (D := D) (ci := 2) (v := .ref pl) (C := R_St) (T := F_St) (N := 8) hx hb hts i_St hown hZ.1 hP 0 rfl rfl 4 (by decide) (hts _ fl_St_28) (fun _ h9 => h9) rfl d_St_next_40 ?_
      refine lv_aload_n hx hb d_St_next_43 rfl (lv_at hl 1 rfl) ?_
      refine va_get (D := D) (ci := 2) (v := .int (nI d)) (C := R_St) (T := F_St) (N := 8) hx hb hts i_St hown hZ.1 hP 0 rfl rfl 6 (by decide) (hts _ fl_St_38) (fun _ h9 => h9) rfl d_St_next_44 ?_
      refine lv_iconst (v := 1) hx hb d_St_next_47 (by decide) ?_
      refine lv_isub hx hb d_St_next_48 ?_
      refine lv_tv (y := nI (d - 1)) (pk_sub (a := d) (b := 1) (by omega)) ?_
      refine lv_dup2_11 hx hb d_St_next_49 rfl rfl ?_
      refine va_iald hx hb hZ.1 hP 2 1 rfl rfl (vp_in_nI (by omega) (by omega)) d_St_next_50 ?_
      refine lv_tv (y := fl (d - 1)) (by rw [nI_clamp (by omega)]) ?_
      refine lv_iconst (v := 1) hx hb d_St_next_51 (by decide) ?_
      refine lv_iadd hx hb d_St_next_52 ?_
      refine va_iast hx hb hZ.1 hP hD hS 2 1 rfl rfl (vp_in_nI (by omega) (by omega)) d_St_next_53 (fun H locs hP hD hS => ?_)
      rw [show ((nI (d - 1)).toNatClampNeg) = d - 1 from nI_clamp (by omega)] at hP hD
      have hP : va_P D classes [(s, .inr (2, [.ref e0, .ref e1, .ref e2, .ref ki, .ref pl, .ref en, .int (nI d), .int dp])), (ki, .inl (cI, 10, .inl fk)), (pl, .inl (cI, 10, .inl (upd fl (d - 1) ((fl (d - 1)) + 1)))), (en, .inl (cI, 10, .inl fz)), (e0, .inr (1, [.ref h0, .int (nI m0)])), (h0, .inr (0, [.ref a0, .int (nI l0)])), (a0, .inl (cB, c0, .inl f0)), (e1, .inr (1, [.ref h1, .int (nI m1)])), (h1, .inr (0, [.ref a1, .int (nI l1)])), (a1, .inl (cB, c1, .inl f1)), (e2, .inr (1, [.ref h2, .int (nI m2)])), (h2, .inr (0, [.ref a2, .int (nI l2)])), (a2, .inl (cB, c2, .inl f2))] H := hP
      have hD : va_D A_ [(s, .inr (2, [.ref e0, .ref e1, .ref e2, .ref ki, .ref pl, .ref en, .int (nI d), .int dp])), (ki, .inl (cI, 10, .inl fk)), (pl, .inl (cI, 10, .inl (upd fl (d - 1) ((fl (d - 1)) + 1)))), (en, .inl (cI, 10, .inl fz)), (e0, .inr (1, [.ref h0, .int (nI m0)])), (h0, .inr (0, [.ref a0, .int (nI l0)])), (a0, .inl (cB, c0, .inl f0)), (e1, .inr (1, [.ref h1, .int (nI m1)])), (h1, .inr (0, [.ref a1, .int (nI l1)])), (a1, .inl (cB, c1, .inl f1)), (e2, .inr (1, [.ref h2, .int (nI m2)])), (h2, .inr (0, [.ref a2, .int (nI l2)])), (a2, .inl (cB, c2, .inl f2))] := hD
      refine lv_iload_n hx hb d_St_next_54 rfl (lv_at hl 0 rfl) ?_
      exact t_iret hx hb hr hlk d_St_next_55 (hP.subm (ws' := [(s, .inr (2, [.ref e0, .ref e1, .ref e2, .ref ki, .ref pl, .ref en, .int (nI d), .int dp])), (ki, .inl (cI, 10, .inl fk)), (pl, .inl (cI, 10, .inl (upd fl (d - 1) ((fl (d - 1)) + 1)))), (en, .inl (cI, 10, .inl fz)), (e0, .inr (1, [.ref h0, .int (nI m0)])), (h0, .inr (0, [.ref a0, .int (nI l0)])), (a0, .inl (cB, c0, .inl f0)), (e1, .inr (1, [.ref h1, .int (nI m1)])), (h1, .inr (0, [.ref a1, .int (nI l1)])), (a1, .inl (cB, c1, .inl f1)), (e2, .inr (1, [.ref h2, .int (nI m2)])), (h2, .inr (0, [.ref a2, .int (nI l2)])), (a2, .inl (cB, c2, .inl f2))]) [0, 1, 2, 3, 4, 5, 6, 7, 8, 9, 10, 11, 12] rfl) (hD.sub (ws' := [(s, .inr (2, [.ref e0, .ref e1, .ref e2, .ref ki, .ref pl, .ref en, .int (nI d), .int dp])), (ki, .inl (cI, 10, .inl fk)), (pl, .inl (cI, 10, .inl (upd fl (d - 1) ((fl (d - 1)) + 1)))), (en, .inl (cI, 10, .inl fz)), (e0, .inr (1, [.ref h0, .int (nI m0)])), (h0, .inr (0, [.ref a0, .int (nI l0)])), (a0, .inl (cB, c0, .inl f0)), (e1, .inr (1, [.ref h1, .int (nI m1)])), (h1, .inr (0, [.ref a1, .int (nI l1)])), (a1, .inl (cB, c1, .inl f1)), (e2, .inr (1, [.ref h2, .int (nI m2)])), (h2, .inr (0, [.ref a2, .int (nI l2)])), (a2, .inl (cB, c2, .inl f2))]) [0, 1, 2, 3, 4, 5, 6, 7, 8, 9, 10, 11, 12] rfl rfl) hS ⟨_, rfl, rfl, rfl, _, rfl, (by omega), (fun _ => next_ok (S := (m1, l1, f1)) (by omega) (sel_1 hk1))⟩
    by_cases hk2 : fk (d - 1) = 2
    · refine lv_ta (selK_2 hk1 hk2) ?_
      refine lv_aload_n hx hb d_St_next_24 rfl (lv_at hl 0 rfl) ?_
      refine va_get (D := D) (ci := 2) (v := .ref pl) (C := R_St) (T := F_St) (N := 8) hx hb hts i_St hown hZ.1 hP 0 rfl rfl 4 (by decide) (hts _ fl_St_28) (fun _ h9 => h9) rfl d_St_next_25 ?_
      refine lv_aload_n hx hb d_St_next_28 rfl (lv_at hl 0 rfl) ?_
      refine va_get (D := D) (ci := 2) (v := .int (nI d)) (C := R_St) (T := F_St) (N := 8) hx hb hts i_St hown hZ.1 hP 0 rfl rfl 6 (by decide) (hts _ fl_St_38) (fun _ h9 => h9) rfl d_St_next_29 ?_
      refine lv_iconst (v := 1) hx hb d_St_next_32 (by decide) ?_
      refine lv_isub hx hb d_St_next_33 ?_
      refine lv_tv (y := nI (d - 1)) (pk_sub (a := d) (b := 1) (by omega)) ?_
      refine va_iald hx hb hZ.1 hP 2 1 rfl rfl (vp_in_nI (by omega) (by omega)) d_St_next_34 ?_
      refine lv_tv (y := fl (d - 1)) (by rw [nI_clamp (by omega)]) ?_
      refine roV (As := [.int (fl (d - 1))]) (rest := []) ⟨hx, hb, hml, hown, hts⟩ gd_good (c_Sh_at l D cB cI cJ e2 h2 a2 m2 l2 c2 f2 (fl (d - 1)) (by omega)) cal_Sh_at ml_St_62 ⟨Nat.le_of_ble_eq_true rfl, Nat.le_of_ble_eq_true rfl⟩ hZ hP hD (isC := [10, 11, 12]) ⟨rfl, rfl⟩ 10 (ci := 1) rfl rfl rfl rfl hl.1 rfl (Nat.le_of_ble_eq_true rfl) d_St_next_35 ⟨Nat.le_of_ble_eq_true rfl, Nat.le_of_ble_eq_true rfl⟩ (fun v hv => ?_)
      subst hv
      refine lv_istore_n (lv' := [(1, .int (atB l2 f2 (fl (d - 1)))), (0, .ref s)]) hx hb d_St_next_38 rfl hl (by decide) rfl (fun ls hl => ?_)
      refine lv_aload_n hx hb d_St_next_39 rfl (lv_at hl 1 rfl) ?_
      refine va_get (D := D) (ci := 2) (v := .ref pl) (C := R_St) (T := F_St) (N := 8) hx hb hts i_St hown hZ.1 hP 0 rfl rfl 4 (by decide) (hts _ fl_St_28) (fun _ h9 => h9) rfl d_St_next_40 ?_
      refine lv_aload_n hx hb d_St_next_43 rfl (lv_at hl 1 rfl) ?_
      refine va_get (D := D) (ci := 2) (v := .int (nI d)) (C := R_St) (T := F_St) (N := 8) hx hb hts i_St hown hZ.1 hP 0 rfl rfl 6 (by decide) (hts _ fl_St_38) (fun _ h9 => h9) rfl d_St_next_44 ?_
      refine lv_iconst (v := 1) hx hb d_St_next_47 (by decide) ?_
      refine lv_isub hx hb d_St_next_48 ?_
      refine lv_tv (y := nI (d - 1)) (pk_sub (a := d) (b := 1) (by omega)) ?_
      refine lv_dup2_11 hx hb d_St_next_49 rfl rfl ?_
      refine va_iald hx hb hZ.1 hP 2 1 rfl rfl (vp_in_nI (by omega) (by omega)) d_St_next_50 ?_
      refine lv_tv (y := fl (d - 1)) (by rw [nI_clamp (by omega)]) ?_
      refine lv_iconst (v := 1) hx hb d_St_next_51 (by decide) ?_
      refine lv_iadd hx hb d_St_next_52 ?_
      refine va_iast hx hb hZ.1 hP hD hS 2 1 rfl rfl (vp_in_nI (by omega) (by omega)) d_St_next_53 (fun H locs hP hD hS => ?_)
      rw [show ((nI (d - 1)).toNatClampNeg) = d - 1 from nI_clamp (by omega)] at hP hD
      have hP : va_P D classes [(s, .inr (2, [.ref e0, .ref e1, .ref e2, .ref ki, .ref pl, .ref en, .int (nI d), .int dp])), (ki, .inl (cI, 10, .inl fk)), (pl, .inl (cI, 10, .inl (upd fl (d - 1) ((fl (d - 1)) + 1)))), (en, .inl (cI, 10, .inl fz)), (e0, .inr (1, [.ref h0, .int (nI m0)])), (h0, .inr (0, [.ref a0, .int (nI l0)])), (a0, .inl (cB, c0, .inl f0)), (e1, .inr (1, [.ref h1, .int (nI m1)])), (h1, .inr (0, [.ref a1, .int (nI l1)])), (a1, .inl (cB, c1, .inl f1)), (e2, .inr (1, [.ref h2, .int (nI m2)])), (h2, .inr (0, [.ref a2, .int (nI l2)])), (a2, .inl (cB, c2, .inl f2))] H := hP
      have hD : va_D A_ [(s, .inr (2, [.ref e0, .ref e1, .ref e2, .ref ki, .ref pl, .ref en, .int (nI d), .int dp])), (ki, .inl (cI, 10, .inl fk)), (pl, .inl (cI, 10, .inl (upd fl (d - 1) ((fl (d - 1)) + 1)))), (en, .inl (cI, 10, .inl fz)), (e0, .inr (1, [.ref h0, .int (nI m0)])), (h0, .inr (0, [.ref a0, .int (nI l0)])), (a0, .inl (cB, c0, .inl f0)), (e1, .inr (1, [.ref h1, .int (nI m1)])), (h1, .inr (0, [.ref a1, .int (nI l1)])), (a1, .inl (cB, c1, .inl f1)), (e2, .inr (1, [.ref h2, .int (nI m2)])), (h2, .inr (0, [.ref a2, .int (nI l2)])), (a2, .inl (cB, c2, .inl f2))] := hD
      refine lv_iload_n hx hb d_St_next_54 rfl (lv_at hl 0 rfl) ?_
      exact t_iret hx hb hr hlk d_St_next_55 (hP.subm (ws' := [(s, .inr (2, [.ref e0, .ref e1, .ref e2, .ref ki, .ref pl, .ref en, .int (nI d), .int dp])), (ki, .inl (cI, 10, .inl fk)), (pl, .inl (cI, 10, .inl (upd fl (d - 1) ((fl (d - 1)) + 1)))), (en, .inl (cI, 10, .inl fz)), (e0, .inr (1, [.ref h0, .int (nI m0)])), (h0, .inr (0, [.ref a0, .int (nI l0)])), (a0, .inl (cB, c0, .inl f0)), (e1, .inr (1, [.ref h1, .int (nI m1)])), (h1, .inr (0, [.ref a1, .int (nI l1)])), (a1, .inl (cB, c1, .inl f1)), (e2, .inr (1, [.ref h2, .int (nI m2)])), (h2, .inr (0, [.ref a2, .int (nI l2)])), (a2, .inl (cB, c2, .inl f2))]) [0, 1, 2, 3, 4, 5, 6, 7, 8, 9, 10, 11, 12] rfl) (hD.sub (ws' := [(s, .inr (2, [.ref e0, .ref e1, .ref e2, .ref ki, .ref pl, .ref en, .int (nI d), .int dp])), (ki, .inl (cI, 10, .inl fk)), (pl, .inl (cI, 10, .inl (upd fl (d - 1) ((fl (d - 1)) + 1)))), (en, .inl (cI, 10, .inl fz)), (e0, .inr (1, [.ref h0, .int (nI m0)])), (h0, .inr (0, [.ref a0, .int (nI l0)])), (a0, .inl (cB, c0, .inl f0)), (e1, .inr (1, [.ref h1, .int (nI m1)])), (h1, .inr (0, [.ref a1, .int (nI l1)])), (a1, .inl (cB, c1, .inl f1)), (e2, .inr (1, [.ref h2, .int (nI m2)])), (h2, .inr (0, [.ref a2, .int (nI l2)])), (a2, .inl (cB, c2, .inl f2))]) [0, 1, 2, 3, 4, 5, 6, 7, 8, 9, 10, 11, 12] rfl rfl) hS ⟨_, rfl, rfl, rfl, _, rfl, (by omega), (fun _ => next_ok (S := (m2, l2, f2)) (by omega) (sel_2 hk1 hk2))⟩
    refine lv_ta (selK_0 hk1 hk2) ?_
    refine lv_aload_n hx hb d_St_next_24 rfl (lv_at hl 0 rfl) ?_
    refine va_get (D := D) (ci := 2) (v := .ref pl) (C := R_St) (T := F_St) (N := 8) hx hb hts i_St hown hZ.1 hP 0 rfl rfl 4 (by decide) (hts _ fl_St_28) (fun _ h9 => h9) rfl d_St_next_25 ?_
    refine lv_aload_n hx hb d_St_next_28 rfl (lv_at hl 0 rfl) ?_
    refine va_get (D := D) (ci := 2) (v := .int (nI d)) (C := R_St) (T := F_St) (N := 8) hx hb hts i_St hown hZ.1 hP 0 rfl rfl 6 (by decide) (hts _ fl_St_38) (fun _ h9 => h9) rfl d_St_next_29 ?_
    refine lv_iconst (v := 1) hx hb d_St_next_32 (by decide) ?_
    refine lv_isub hx hb d_St_next_33 ?_
    refine lv_tv (y := nI (d - 1)) (pk_sub (a := d) (b := 1) (by omega)) ?_
    refine va_iald hx hb hZ.1 hP 2 1 rfl rfl (vp_in_nI (by omega) (by omega)) d_St_next_34 ?_
    refine lv_tv (y := fl (d - 1)) (by rw [nI_clamp (by omega)]) ?_
    refine roV (As := [.int (fl (d - 1))]) (rest := []) ⟨hx, hb, hml, hown, hts⟩ gd_good (c_Sh_at l D cB cI cJ e0 h0 a0 m0 l0 c0 f0 (fl (d - 1)) (by omega)) cal_Sh_at ml_St_62 ⟨Nat.le_of_ble_eq_true rfl, Nat.le_of_ble_eq_true rfl⟩ hZ hP hD (isC := [4, 5, 6]) ⟨rfl, rfl⟩ 4 (ci := 1) rfl rfl rfl rfl hl.1 rfl (Nat.le_of_ble_eq_true rfl) d_St_next_35 ⟨Nat.le_of_ble_eq_true rfl, Nat.le_of_ble_eq_true rfl⟩ (fun v hv => ?_)
    subst hv
    refine lv_istore_n (lv' := [(1, .int (atB l0 f0 (fl (d - 1)))), (0, .ref s)]) hx hb d_St_next_38 rfl hl (by decide) rfl (fun ls hl => ?_)
    refine lv_aload_n hx hb d_St_next_39 rfl (lv_at hl 1 rfl) ?_
    refine va_get (D := D) (ci := 2) (v := .ref pl) (C := R_St) (T := F_St) (N := 8) hx hb hts i_St hown hZ.1 hP 0 rfl rfl 4 (by decide) (hts _ fl_St_28) (fun _ h9 => h9) rfl d_St_next_40 ?_
    refine lv_aload_n hx hb d_St_next_43 rfl (lv_at hl 1 rfl) ?_
    refine va_get (D := D) (ci := 2) (v := .int (nI d)) (C := R_St) (T := F_St) (N := 8) hx hb hts i_St hown hZ.1 hP 0 rfl rfl 6 (by decide) (hts _ fl_St_38) (fun _ h9 => h9) rfl d_St_next_44 ?_
    refine lv_iconst (v := 1) hx hb d_St_next_47 (by decide) ?_
    refine lv_isub hx hb d_St_next_48 ?_
    refine lv_tv (y := nI (d - 1)) (pk_sub (a := d) (b := 1) (by omega)) ?_
    refine lv_dup2_11 hx hb d_St_next_49 rfl rfl ?_
    refine va_iald hx hb hZ.1 hP 2 1 rfl rfl (vp_in_nI (by omega) (by omega)) d_St_next_50 ?_
    refine lv_tv (y := fl (d - 1)) (by rw [nI_clamp (by omega)]) ?_
    refine lv_iconst (v := 1) hx hb d_St_next_51 (by decide) ?_
    refine lv_iadd hx hb d_St_next_52 ?_
    refine va_iast hx hb hZ.1 hP hD hS 2 1 rfl rfl (vp_in_nI (by omega) (by omega)) d_St_next_53 (fun H locs hP hD hS => ?_)
    rw [show ((nI (d - 1)).toNatClampNeg) = d - 1 from nI_clamp (by omega)] at hP hD
    have hP : va_P D classes [(s, .inr (2, [.ref e0, .ref e1, .ref e2, .ref ki, .ref pl, .ref en, .int (nI d), .int dp])), (ki, .inl (cI, 10, .inl fk)), (pl, .inl (cI, 10, .inl (upd fl (d - 1) ((fl (d - 1)) + 1)))), (en, .inl (cI, 10, .inl fz)), (e0, .inr (1, [.ref h0, .int (nI m0)])), (h0, .inr (0, [.ref a0, .int (nI l0)])), (a0, .inl (cB, c0, .inl f0)), (e1, .inr (1, [.ref h1, .int (nI m1)])), (h1, .inr (0, [.ref a1, .int (nI l1)])), (a1, .inl (cB, c1, .inl f1)), (e2, .inr (1, [.ref h2, .int (nI m2)])), (h2, .inr (0, [.ref a2, .int (nI l2)])), (a2, .inl (cB, c2, .inl f2))] H := hP
    have hD : va_D A_ [(s, .inr (2, [.ref e0, .ref e1, .ref e2, .ref ki, .ref pl, .ref en, .int (nI d), .int dp])), (ki, .inl (cI, 10, .inl fk)), (pl, .inl (cI, 10, .inl (upd fl (d - 1) ((fl (d - 1)) + 1)))), (en, .inl (cI, 10, .inl fz)), (e0, .inr (1, [.ref h0, .int (nI m0)])), (h0, .inr (0, [.ref a0, .int (nI l0)])), (a0, .inl (cB, c0, .inl f0)), (e1, .inr (1, [.ref h1, .int (nI m1)])), (h1, .inr (0, [.ref a1, .int (nI l1)])), (a1, .inl (cB, c1, .inl f1)), (e2, .inr (1, [.ref h2, .int (nI m2)])), (h2, .inr (0, [.ref a2, .int (nI l2)])), (a2, .inl (cB, c2, .inl f2))] := hD
    refine lv_iload_n hx hb d_St_next_54 rfl (lv_at hl 0 rfl) ?_
    exact t_iret hx hb hr hlk d_St_next_55 (hP.subm (ws' := [(s, .inr (2, [.ref e0, .ref e1, .ref e2, .ref ki, .ref pl, .ref en, .int (nI d), .int dp])), (ki, .inl (cI, 10, .inl fk)), (pl, .inl (cI, 10, .inl (upd fl (d - 1) ((fl (d - 1)) + 1)))), (en, .inl (cI, 10, .inl fz)), (e0, .inr (1, [.ref h0, .int (nI m0)])), (h0, .inr (0, [.ref a0, .int (nI l0)])), (a0, .inl (cB, c0, .inl f0)), (e1, .inr (1, [.ref h1, .int (nI m1)])), (h1, .inr (0, [.ref a1, .int (nI l1)])), (a1, .inl (cB, c1, .inl f1)), (e2, .inr (1, [.ref h2, .int (nI m2)])), (h2, .inr (0, [.ref a2, .int (nI l2)])), (a2, .inl (cB, c2, .inl f2))]) [0, 1, 2, 3, 4, 5, 6, 7, 8, 9, 10, 11, 12] rfl) (hD.sub (ws' := [(s, .inr (2, [.ref e0, .ref e1, .ref e2, .ref ki, .ref pl, .ref en, .int (nI d), .int dp])), (ki, .inl (cI, 10, .inl fk)), (pl, .inl (cI, 10, .inl (upd fl (d - 1) ((fl (d - 1)) + 1)))), (en, .inl (cI, 10, .inl fz)), (e0, .inr (1, [.ref h0, .int (nI m0)])), (h0, .inr (0, [.ref a0, .int (nI l0)])), (a0, .inl (cB, c0, .inl f0)), (e1, .inr (1, [.ref h1, .int (nI m1)])), (h1, .inr (0, [.ref a1, .int (nI l1)])), (a1, .inl (cB, c1, .inl f1)), (e2, .inr (1, [.ref h2, .int (nI m2)])), (h2, .inr (0, [.ref a2, .int (nI l2)])), (a2, .inl (cB, c2, .inl f2))]) [0, 1, 2, 3, 4, 5, 6, 7, 8, 9, 10, 11, 12] rfl rfl) hS ⟨_, rfl, rfl, rfl, _, rfl, (by omega), (fun _ => next_ok (S := (m0, l0, f0)) (by omega) (sel_0 hk1 hk2))⟩
  · have n_4 : (d) = (0) := (nI_eq (a := d) (b := 0) (by omega) (by omega)).mp c_4
    refine lv_iconst (v := 0) hx hb d_St_next_7 (by decide) ?_
    exact t_iret hx hb hr hlk d_St_next_8 (hP.subm (ws' := [(s, .inr (2, [.ref e0, .ref e1, .ref e2, .ref ki, .ref pl, .ref en, .int (nI d), .int dp])), (ki, .inl (cI, 10, .inl fk)), (pl, .inl (cI, 10, .inl fl)), (en, .inl (cI, 10, .inl fz)), (e0, .inr (1, [.ref h0, .int (nI m0)])), (h0, .inr (0, [.ref a0, .int (nI l0)])), (a0, .inl (cB, c0, .inl f0)), (e1, .inr (1, [.ref h1, .int (nI m1)])), (h1, .inr (0, [.ref a1, .int (nI l1)])), (a1, .inl (cB, c1, .inl f1)), (e2, .inr (1, [.ref h2, .int (nI m2)])), (h2, .inr (0, [.ref a2, .int (nI l2)])), (a2, .inl (cB, c2, .inl f2))]) [0, 1, 2, 3, 4, 5, 6, 7, 8, 9, 10, 11, 12] rfl) (hD.sub (ws' := [(s, .inr (2, [.ref e0, .ref e1, .ref e2, .ref ki, .ref pl, .ref en, .int (nI d), .int dp])), (ki, .inl (cI, 10, .inl fk)), (pl, .inl (cI, 10, .inl fl)), (en, .inl (cI, 10, .inl fz)), (e0, .inr (1, [.ref h0, .int (nI m0)])), (h0, .inr (0, [.ref a0, .int (nI l0)])), (a0, .inl (cB, c0, .inl f0)), (e1, .inr (1, [.ref h1, .int (nI m1)])), (h1, .inr (0, [.ref a1, .int (nI l1)])), (a1, .inl (cB, c1, .inl f1)), (e2, .inr (1, [.ref h2, .int (nI m2)])), (h2, .inr (0, [.ref a2, .int (nI l2)])), (a2, .inl (cB, c2, .inl f2))]) [0, 1, 2, 3, 4, 5, 6, 7, 8, 9, 10, 11, 12] rfl rfl) hS ⟨_, rfl, rfl, rfl, _, rfl, (by omega), (fun z => absurd n_4 (by omega))⟩
set_option maxHeartbeats 1000000 in
set_option maxRecDepth 100000 in
theorem c_St_pass (l : Launch) (D : va_G) (cB cI cJ : ClassId) (s e0 e1 e2 ki pl en : Nat) (d : Nat) (dp : Int32) (fk : Nat → Int32) (fl : Nat → Int32) (fz : Nat → Int32) (b : Int32) (hiSx : d ≤ 10) : Tr l D classes (TY cB cI cJ) gd_tbl nx_tbl y_St_pass b_St_pass 2 none ({ frames := 0, cells := 0, slots := 0, locals := 0 }) [.ref s, .int b] [(s, .inr (2, [.ref e0, .ref e1, .ref e2, .ref ki, .ref pl, .ref en, .int (nI d), .int dp])), (ki, .inl (cI, 10, .inl fk)), (pl, .inl (cI, 10, .inl fl)), (en, .inl (cI, 10, .inl fz))] (pV0 (fun w => ∃ (fl' : Nat → Int32), w = [(s, .inr (2, [.ref e0, .ref e1, .ref e2, .ref ki, .ref pl, .ref en, .int (nI d), .int dp])), (ki, .inl (cI, 10, .inl fk)), (pl, .inl (cI, 10, .inl fl')), (en, .inl (cI, 10, .inl fz))] ∧ (d ≤ 10) ∧ (0 < d → sS d fk fl' fz = passP (sS d fk fl fz) b))) := by
  refine Tr.intro (by decide +kernel) nx_ok (Nat.le_of_ble_eq_true rfl) ?_
  intro p_ e_ s_ m_ args_ below_ meth_ c_ A_ ls hx hb hml hown hts hr hlk hnm hZ hP hD hS hl
  have hl : lv_has ls 2 [(0, .ref s), (1, .int b)] := hl
  refine lv_aload_n hx hb d_St_pass_0 rfl (lv_at hl 0 rfl) ?_
  refine va_get (D := D) (ci := 2) (v := .int (nI d)) (C := R_St) (T := F_St) (N := 8) hx hb hts i_St hown hZ.1 hP 0 rfl rfl 6 (by decide) (hts _ fl_St_38) (fun _ h9 => h9) rfl d_St_pass_1 ?_
  refine lv_if_le (tgt := 22) hx hb d_St_pass_4 (by decide) (fun c_4 => ?_) (fun c_4 => ?_)
  · have n_4 : (d) ≤ (0) := (nI_leI (a := d) (b := 0) (by omega) (by omega)).mp c_4
    exact t_vret hx hb hr hlk d_St_pass_22 (hP.subm (ws' := [(s, .inr (2, [.ref e0, .ref e1, .ref e2, .ref ki, .ref pl, .ref en, .int (nI d), .int dp])), (ki, .inl (cI, 10, .inl fk)), (pl, .inl (cI, 10, .inl fl)), (en, .inl (cI, 10, .inl fz))]) [0, 1, 2, 3] rfl) (hD.sub (ws' := [(s, .inr (2, [.ref e0, .ref e1, .ref e2, .ref ki, .ref pl, .ref en, .int (nI d), .int dp])), (ki, .inl (cI, 10, .inl fk)), (pl, .inl (cI, 10, .inl fl)), (en, .inl (cI, 10, .inl fz))]) [0, 1, 2, 3] rfl rfl) hS ⟨rfl, rfl, rfl, _, rfl, (by omega), (fun z => absurd n_4 (by omega))⟩
  · have n_4 : ¬ (d) ≤ (0) := fun z => c_4 ((nI_leI (a := d) (b := 0) (by omega) (by omega)).mpr z)
    refine lv_aload_n hx hb d_St_pass_7 rfl (lv_at hl 0 rfl) ?_
    refine va_get (D := D) (ci := 2) (v := .ref pl) (C := R_St) (T := F_St) (N := 8) hx hb hts i_St hown hZ.1 hP 0 rfl rfl 4 (by decide) (hts _ fl_St_28) (fun _ h9 => h9) rfl d_St_pass_8 ?_
    refine lv_aload_n hx hb d_St_pass_11 rfl (lv_at hl 0 rfl) ?_
    refine va_get (D := D) (ci := 2) (v := .int (nI d)) (C := R_St) (T := F_St) (N := 8) hx hb hts i_St hown hZ.1 hP 0 rfl rfl 6 (by decide) (hts _ fl_St_38) (fun _ h9 => h9) rfl d_St_pass_12 ?_
    refine lv_iconst (v := 1) hx hb d_St_pass_15 (by decide) ?_
    refine lv_isub hx hb d_St_pass_16 ?_
    refine lv_tv (y := nI (d - 1)) (pk_sub (a := d) (b := 1) (by omega)) ?_
    refine lv_dup2_11 hx hb d_St_pass_17 rfl rfl ?_
    refine va_iald hx hb hZ.1 hP 2 1 rfl rfl (vp_in_nI (by omega) (by omega)) d_St_pass_18 ?_
    refine lv_tv (y := fl (d - 1)) (by rw [nI_clamp (by omega)]) ?_
    refine lv_iload_n hx hb d_St_pass_19 rfl (lv_at hl 1 rfl) ?_
    refine lv_iadd hx hb d_St_pass_20 ?_
    refine va_iast hx hb hZ.1 hP hD hS 2 1 rfl rfl (vp_in_nI (by omega) (by omega)) d_St_pass_21 (fun H locs hP hD hS => ?_)
    rw [show ((nI (d - 1)).toNatClampNeg) = d - 1 from nI_clamp (by omega)] at hP hD
    have hP : va_P D classes [(s, .inr (2, [.ref e0, .ref e1, .ref e2, .ref ki, .ref pl, .ref en, .int (nI d), .int dp])), (ki, .inl (cI, 10, .inl fk)), (pl, .inl (cI, 10, .inl (upd fl (d - 1) ((fl (d - 1)) + b)))), (en, .inl (cI, 10, .inl fz))] H := hP
    have hD : va_D A_ [(s, .inr (2, [.ref e0, .ref e1, .ref e2, .ref ki, .ref pl, .ref en, .int (nI d), .int dp])), (ki, .inl (cI, 10, .inl fk)), (pl, .inl (cI, 10, .inl (upd fl (d - 1) ((fl (d - 1)) + b)))), (en, .inl (cI, 10, .inl fz))] := hD
    exact t_vret hx hb hr hlk d_St_pass_22 (hP.subm (ws' := [(s, .inr (2, [.ref e0, .ref e1, .ref e2, .ref ki, .ref pl, .ref en, .int (nI d), .int dp])), (ki, .inl (cI, 10, .inl fk)), (pl, .inl (cI, 10, .inl (upd fl (d - 1) ((fl (d - 1)) + b)))), (en, .inl (cI, 10, .inl fz))]) [0, 1, 2, 3] rfl) (hD.sub (ws' := [(s, .inr (2, [.ref e0, .ref e1, .ref e2, .ref ki, .ref pl, .ref en, .int (nI d), .int dp])), (ki, .inl (cI, 10, .inl fk)), (pl, .inl (cI, 10, .inl (upd fl (d - 1) ((fl (d - 1)) + b)))), (en, .inl (cI, 10, .inl fz))]) [0, 1, 2, 3] rfl rfl) hS ⟨rfl, rfl, rfl, _, rfl, (by omega), (fun _ => pass_ok (by omega))⟩
