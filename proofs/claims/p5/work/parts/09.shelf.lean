abbrev b_By_replace : ByteArray := prog_2_method_6_code
abbrev y_By_replace : MethodName := ⟨"CharOutlines$Bytes", "replace", "(II)I"⟩
set_option maxRecDepth 100000 in
theorem cal_By_replace : CalV gd_tbl "CharOutlines$Bytes" y_By_replace b_By_replace 4 (some .int) 2 := ⟨⟨List.mem_filter.mpr ⟨List.mem_of_getElem? (i := 385) rfl, rfl⟩, List.mem_filter.mpr ⟨List.mem_of_getElem? (i := 61) rfl, rfl⟩, ⟨by decide, by decide⟩, by decide +kernel⟩, List.mem_filter.mpr ⟨List.mem_of_getElem? (i := 383) rfl, rfl⟩, List.mem_filter.mpr ⟨List.mem_of_getElem? (i := 384) rfl, rfl⟩⟩
theorem d_By_replace_0 : decode b_By_replace 0 = .ok (.aload_n 0, 1) := by decide +kernel
theorem d_By_replace_1 : decode b_By_replace 1 = .ok (.iload_n 1, 1) := by decide +kernel
theorem d_By_replace_2 : decode b_By_replace 2 = .ok (.invokevirtual 21, 3) := by decide +kernel
theorem d_By_replace_5 : decode b_By_replace 5 = .ok (.istore_n 3, 1) := by decide +kernel
theorem d_By_replace_6 : decode b_By_replace 6 = .ok (.iload_n 1, 1) := by decide +kernel
theorem d_By_replace_7 : decode b_By_replace 7 = .ok (.ifCond .lt 19, 3) := by decide +kernel
theorem d_By_replace_10 : decode b_By_replace 10 = .ok (.iload_n 1, 1) := by decide +kernel
theorem d_By_replace_11 : decode b_By_replace 11 = .ok (.aload_n 0, 1) := by decide +kernel
theorem d_By_replace_12 : decode b_By_replace 12 = .ok (.getfield 15, 3) := by decide +kernel
theorem d_By_replace_15 : decode b_By_replace 15 = .ok (.if_icmp .ge 11, 3) := by decide +kernel
theorem d_By_replace_18 : decode b_By_replace 18 = .ok (.aload_n 0, 1) := by decide +kernel
theorem d_By_replace_19 : decode b_By_replace 19 = .ok (.getfield 11, 3) := by decide +kernel
theorem d_By_replace_22 : decode b_By_replace 22 = .ok (.iload_n 1, 1) := by decide +kernel
theorem d_By_replace_23 : decode b_By_replace 23 = .ok (.iload_n 2, 1) := by decide +kernel
theorem d_By_replace_24 : decode b_By_replace 24 = .ok (.i2b, 1) := by decide +kernel
theorem d_By_replace_25 : decode b_By_replace 25 = .ok (.bastore, 1) := by decide +kernel
theorem d_By_replace_26 : decode b_By_replace 26 = .ok (.iload_n 3, 1) := by decide +kernel
theorem d_By_replace_27 : decode b_By_replace 27 = .ok (.ireturn, 1) := by decide +kernel
abbrev b_By_shorten : ByteArray := prog_2_method_7_code
abbrev y_By_shorten : MethodName := ⟨"CharOutlines$Bytes", "shorten", "(I)I"⟩
set_option maxRecDepth 100000 in
theorem cal_By_shorten : CalV gd_tbl "CharOutlines$Bytes" y_By_shorten b_By_shorten 3 (some .int) 1 := ⟨⟨List.mem_filter.mpr ⟨List.mem_of_getElem? (i := 401) rfl, rfl⟩, List.mem_filter.mpr ⟨List.mem_of_getElem? (i := 61) rfl, rfl⟩, ⟨by decide, by decide⟩, by decide +kernel⟩, List.mem_filter.mpr ⟨List.mem_of_getElem? (i := 399) rfl, rfl⟩, List.mem_filter.mpr ⟨List.mem_of_getElem? (i := 400) rfl, rfl⟩⟩
theorem d_By_shorten_0 : decode b_By_shorten 0 = .ok (.aload_n 0, 1) := by decide +kernel
theorem d_By_shorten_1 : decode b_By_shorten 1 = .ok (.getfield 15, 3) := by decide +kernel
theorem d_By_shorten_4 : decode b_By_shorten 4 = .ok (.istore_n 2, 1) := by decide +kernel
theorem d_By_shorten_5 : decode b_By_shorten 5 = .ok (.iload_n 1, 1) := by decide +kernel
theorem d_By_shorten_6 : decode b_By_shorten 6 = .ok (.ifCond .lt 16, 3) := by decide +kernel
theorem d_By_shorten_9 : decode b_By_shorten 9 = .ok (.iload_n 1, 1) := by decide +kernel
theorem d_By_shorten_10 : decode b_By_shorten 10 = .ok (.aload_n 0, 1) := by decide +kernel
theorem d_By_shorten_11 : decode b_By_shorten 11 = .ok (.getfield 15, 3) := by decide +kernel
theorem d_By_shorten_14 : decode b_By_shorten 14 = .ok (.if_icmp .ge 8, 3) := by decide +kernel
theorem d_By_shorten_17 : decode b_By_shorten 17 = .ok (.aload_n 0, 1) := by decide +kernel
theorem d_By_shorten_18 : decode b_By_shorten 18 = .ok (.iload_n 1, 1) := by decide +kernel
theorem d_By_shorten_19 : decode b_By_shorten 19 = .ok (.putfield 15, 3) := by decide +kernel
theorem d_By_shorten_22 : decode b_By_shorten 22 = .ok (.iload_n 2, 1) := by decide +kernel
theorem d_By_shorten_23 : decode b_By_shorten 23 = .ok (.aload_n 0, 1) := by decide +kernel
theorem d_By_shorten_24 : decode b_By_shorten 24 = .ok (.getfield 15, 3) := by decide +kernel
theorem d_By_shorten_27 : decode b_By_shorten 27 = .ok (.isub, 1) := by decide +kernel
theorem d_By_shorten_28 : decode b_By_shorten 28 = .ok (.ireturn, 1) := by decide +kernel
abbrev b_Sh_at : ByteArray := prog_8_method_4_code
abbrev y_Sh_at : MethodName := ⟨"CharOutlines$Shelf", "at", "(I)I"⟩
set_option maxRecDepth 100000 in
theorem cal_Sh_at : CalV gd_tbl "CharOutlines$Shelf" y_Sh_at b_Sh_at 2 (some .int) 1 := ⟨⟨List.mem_filter.mpr ⟨List.mem_of_getElem? (i := 508) rfl, rfl⟩, List.mem_filter.mpr ⟨List.mem_of_getElem? (i := 64) rfl, rfl⟩, ⟨by decide, by decide⟩, by decide +kernel⟩, List.mem_filter.mpr ⟨List.mem_of_getElem? (i := 506) rfl, rfl⟩, List.mem_filter.mpr ⟨List.mem_of_getElem? (i := 507) rfl, rfl⟩⟩
theorem d_Sh_at_0 : decode b_Sh_at 0 = .ok (.aload_n 0, 1) := by decide +kernel
theorem d_Sh_at_1 : decode b_Sh_at 1 = .ok (.getfield 12, 3) := by decide +kernel
theorem d_Sh_at_4 : decode b_Sh_at 4 = .ok (.iload_n 1, 1) := by decide +kernel
theorem d_Sh_at_5 : decode b_Sh_at 5 = .ok (.invokevirtual 22, 3) := by decide +kernel
theorem d_Sh_at_8 : decode b_Sh_at 8 = .ok (.ireturn, 1) := by decide +kernel
abbrev b_Sh_start : ByteArray := prog_8_method_6_code
abbrev y_Sh_start : MethodName := ⟨"CharOutlines$Shelf", "start", "(I)I"⟩
set_option maxRecDepth 100000 in
theorem cal_Sh_start : CalV gd_tbl "CharOutlines$Shelf" y_Sh_start b_Sh_start 3 (some .int) 1 := ⟨⟨List.mem_filter.mpr ⟨List.mem_of_getElem? (i := 476) rfl, rfl⟩, List.mem_filter.mpr ⟨List.mem_of_getElem? (i := 64) rfl, rfl⟩, ⟨by decide, by decide⟩, by decide +kernel⟩, List.mem_filter.mpr ⟨List.mem_of_getElem? (i := 474) rfl, rfl⟩, List.mem_filter.mpr ⟨List.mem_of_getElem? (i := 475) rfl, rfl⟩⟩
theorem d_Sh_start_0 : decode b_Sh_start 0 = .ok (.aload_n 0, 1) := by decide +kernel
theorem d_Sh_start_1 : decode b_Sh_start 1 = .ok (.getfield 12, 3) := by decide +kernel
theorem d_Sh_start_4 : decode b_Sh_start 4 = .ok (.iconst 2, 1) := by decide +kernel
theorem d_Sh_start_5 : decode b_Sh_start 5 = .ok (.invokevirtual 22, 3) := by decide +kernel
theorem d_Sh_start_8 : decode b_Sh_start 8 = .ok (.istore_n 2, 1) := by decide +kernel
theorem d_Sh_start_9 : decode b_Sh_start 9 = .ok (.iconst 3, 1) := by decide +kernel
theorem d_Sh_start_10 : decode b_Sh_start 10 = .ok (.aload_n 0, 1) := by decide +kernel
theorem d_Sh_start_11 : decode b_Sh_start 11 = .ok (.getfield 18, 3) := by decide +kernel
theorem d_Sh_start_14 : decode b_Sh_start 14 = .ok (.iconst 1, 1) := by decide +kernel
theorem d_Sh_start_15 : decode b_Sh_start 15 = .ok (.iadd, 1) := by decide +kernel
theorem d_Sh_start_16 : decode b_Sh_start 16 = .ok (.iload_n 2, 1) := by decide +kernel
theorem d_Sh_start_17 : decode b_Sh_start 17 = .ok (.imul, 1) := by decide +kernel
theorem d_Sh_start_18 : decode b_Sh_start 18 = .ok (.iadd, 1) := by decide +kernel
theorem d_Sh_start_19 : decode b_Sh_start 19 = .ok (.aload_n 0, 1) := by decide +kernel
theorem d_Sh_start_20 : decode b_Sh_start 20 = .ok (.getfield 12, 3) := by decide +kernel
theorem d_Sh_start_23 : decode b_Sh_start 23 = .ok (.iconst 3, 1) := by decide +kernel
theorem d_Sh_start_24 : decode b_Sh_start 24 = .ok (.iload_n 1, 1) := by decide +kernel
theorem d_Sh_start_25 : decode b_Sh_start 25 = .ok (.iload_n 2, 1) := by decide +kernel
theorem d_Sh_start_26 : decode b_Sh_start 26 = .ok (.imul, 1) := by decide +kernel
theorem d_Sh_start_27 : decode b_Sh_start 27 = .ok (.iadd, 1) := by decide +kernel
theorem d_Sh_start_28 : decode b_Sh_start 28 = .ok (.iload_n 2, 1) := by decide +kernel
theorem d_Sh_start_29 : decode b_Sh_start 29 = .ok (.invokevirtual 34, 3) := by decide +kernel
theorem d_Sh_start_32 : decode b_Sh_start 32 = .ok (.l2i, 1) := by decide +kernel
theorem d_Sh_start_33 : decode b_Sh_start 33 = .ok (.iadd, 1) := by decide +kernel
theorem d_Sh_start_34 : decode b_Sh_start 34 = .ok (.iconst 1, 1) := by decide +kernel
theorem d_Sh_start_35 : decode b_Sh_start 35 = .ok (.isub, 1) := by decide +kernel
theorem d_Sh_start_36 : decode b_Sh_start 36 = .ok (.ireturn, 1) := by decide +kernel
abbrev b_Sh_strings : ByteArray := prog_8_method_2_code
abbrev y_Sh_strings : MethodName := ⟨"CharOutlines$Shelf", "strings", "()I"⟩
set_option maxRecDepth 100000 in
theorem cal_Sh_strings : CalV gd_tbl "CharOutlines$Shelf" y_Sh_strings b_Sh_strings 1 (some .int) 0 := ⟨⟨List.mem_filter.mpr ⟨List.mem_of_getElem? (i := 643) rfl, rfl⟩, List.mem_filter.mpr ⟨List.mem_of_getElem? (i := 64) rfl, rfl⟩, ⟨by decide, by decide⟩, by decide +kernel⟩, List.mem_filter.mpr ⟨List.mem_of_getElem? (i := 641) rfl, rfl⟩, List.mem_filter.mpr ⟨List.mem_of_getElem? (i := 642) rfl, rfl⟩⟩
theorem d_Sh_strings_0 : decode b_Sh_strings 0 = .ok (.aload_n 0, 1) := by decide +kernel
theorem d_Sh_strings_1 : decode b_Sh_strings 1 = .ok (.getfield 18, 3) := by decide +kernel
theorem d_Sh_strings_4 : decode b_Sh_strings 4 = .ok (.ireturn, 1) := by decide +kernel
abbrev b_Sh_has : ByteArray := prog_8_method_3_code
abbrev y_Sh_has : MethodName := ⟨"CharOutlines$Shelf", "has", "(I)Z"⟩
set_option maxRecDepth 100000 in
theorem cal_Sh_has : CalV gd_tbl "CharOutlines$Shelf" y_Sh_has b_Sh_has 2 (some .boolean) 1 := ⟨⟨List.mem_filter.mpr ⟨List.mem_of_getElem? (i := 453) rfl, rfl⟩, List.mem_filter.mpr ⟨List.mem_of_getElem? (i := 64) rfl, rfl⟩, ⟨by decide, by decide⟩, by decide +kernel⟩, List.mem_filter.mpr ⟨List.mem_of_getElem? (i := 451) rfl, rfl⟩, List.mem_filter.mpr ⟨List.mem_of_getElem? (i := 452) rfl, rfl⟩⟩
theorem d_Sh_has_0 : decode b_Sh_has 0 = .ok (.iload_n 1, 1) := by decide +kernel
theorem d_Sh_has_1 : decode b_Sh_has 1 = .ok (.ifCond .lt 15, 3) := by decide +kernel
theorem d_Sh_has_4 : decode b_Sh_has 4 = .ok (.iload_n 1, 1) := by decide +kernel
theorem d_Sh_has_5 : decode b_Sh_has 5 = .ok (.aload_n 0, 1) := by decide +kernel
theorem d_Sh_has_6 : decode b_Sh_has 6 = .ok (.getfield 18, 3) := by decide +kernel
theorem d_Sh_has_9 : decode b_Sh_has 9 = .ok (.if_icmp .ge 7, 3) := by decide +kernel
theorem d_Sh_has_12 : decode b_Sh_has 12 = .ok (.iconst 1, 1) := by decide +kernel
theorem d_Sh_has_13 : decode b_Sh_has 13 = .ok (.goto 4, 3) := by decide +kernel
theorem d_Sh_has_16 : decode b_Sh_has 16 = .ok (.iconst 0, 1) := by decide +kernel
theorem d_Sh_has_17 : decode b_Sh_has 17 = .ok (.ireturn, 1) := by decide +kernel
abbrev b_Sh_areOffsetsRight : ByteArray := prog_8_method_8_code
abbrev y_Sh_areOffsetsRight : MethodName := ⟨"CharOutlines$Shelf", "areOffsetsRight", "(LCharOutlines$Bytes;I)Z"⟩
set_option maxRecDepth 100000 in
theorem cal_Sh_areOffsetsRight : CalS gd_tbl y_Sh_areOffsetsRight b_Sh_areOffsetsRight 9 (some .boolean) 2 := ⟨⟨List.mem_filter.mpr ⟨List.mem_of_getElem? (i := 436) rfl, rfl⟩, List.mem_filter.mpr ⟨List.mem_of_getElem? (i := 64) rfl, rfl⟩, ⟨by decide, by decide⟩, by decide +kernel⟩, List.mem_filter.mpr ⟨List.mem_of_getElem? (i := 435) rfl, rfl⟩⟩
theorem d_Sh_areOffsetsRight_0 : decode b_Sh_areOffsetsRight 0 = .ok (.aload_n 0, 1) := by decide +kernel
theorem d_Sh_areOffsetsRight_1 : decode b_Sh_areOffsetsRight 1 = .ok (.iconst 2, 1) := by decide +kernel
theorem d_Sh_areOffsetsRight_2 : decode b_Sh_areOffsetsRight 2 = .ok (.invokevirtual 22, 3) := by decide +kernel
theorem d_Sh_areOffsetsRight_5 : decode b_Sh_areOffsetsRight 5 = .ok (.istore_n 2, 1) := by decide +kernel
theorem d_Sh_areOffsetsRight_6 : decode b_Sh_areOffsetsRight 6 = .ok (.iconst 3, 1) := by decide +kernel
theorem d_Sh_areOffsetsRight_7 : decode b_Sh_areOffsetsRight 7 = .ok (.iload_n 1, 1) := by decide +kernel
theorem d_Sh_areOffsetsRight_8 : decode b_Sh_areOffsetsRight 8 = .ok (.iconst 1, 1) := by decide +kernel
theorem d_Sh_areOffsetsRight_9 : decode b_Sh_areOffsetsRight 9 = .ok (.iadd, 1) := by decide +kernel
theorem d_Sh_areOffsetsRight_10 : decode b_Sh_areOffsetsRight 10 = .ok (.iload_n 2, 1) := by decide +kernel
theorem d_Sh_areOffsetsRight_11 : decode b_Sh_areOffsetsRight 11 = .ok (.imul, 1) := by decide +kernel
theorem d_Sh_areOffsetsRight_12 : decode b_Sh_areOffsetsRight 12 = .ok (.iadd, 1) := by decide +kernel
theorem d_Sh_areOffsetsRight_13 : decode b_Sh_areOffsetsRight 13 = .ok (.istore_n 3, 1) := by decide +kernel
theorem d_Sh_areOffsetsRight_14 : decode b_Sh_areOffsetsRight 14 = .ok (.iload_n 2, 1) := by decide +kernel
theorem d_Sh_areOffsetsRight_15 : decode b_Sh_areOffsetsRight 15 = .ok (.iconst 1, 1) := by decide +kernel
theorem d_Sh_areOffsetsRight_16 : decode b_Sh_areOffsetsRight 16 = .ok (.if_icmp .lt 16, 3) := by decide +kernel
theorem d_Sh_areOffsetsRight_19 : decode b_Sh_areOffsetsRight 19 = .ok (.iload_n 2, 1) := by decide +kernel
theorem d_Sh_areOffsetsRight_20 : decode b_Sh_areOffsetsRight 20 = .ok (.iconst 4, 1) := by decide +kernel
theorem d_Sh_areOffsetsRight_21 : decode b_Sh_areOffsetsRight 21 = .ok (.if_icmp .gt 11, 3) := by decide +kernel
theorem d_Sh_areOffsetsRight_24 : decode b_Sh_areOffsetsRight 24 = .ok (.iload_n 3, 1) := by decide +kernel
theorem d_Sh_areOffsetsRight_25 : decode b_Sh_areOffsetsRight 25 = .ok (.aload_n 0, 1) := by decide +kernel
theorem d_Sh_areOffsetsRight_26 : decode b_Sh_areOffsetsRight 26 = .ok (.invokevirtual 38, 3) := by decide +kernel
theorem d_Sh_areOffsetsRight_29 : decode b_Sh_areOffsetsRight 29 = .ok (.if_icmp .le 5, 3) := by decide +kernel
theorem d_Sh_areOffsetsRight_32 : decode b_Sh_areOffsetsRight 32 = .ok (.iconst 0, 1) := by decide +kernel
theorem d_Sh_areOffsetsRight_33 : decode b_Sh_areOffsetsRight 33 = .ok (.ireturn, 1) := by decide +kernel
theorem d_Sh_areOffsetsRight_34 : decode b_Sh_areOffsetsRight 34 = .ok (.aload_n 0, 1) := by decide +kernel
theorem d_Sh_areOffsetsRight_35 : decode b_Sh_areOffsetsRight 35 = .ok (.iconst 3, 1) := by decide +kernel
theorem d_Sh_areOffsetsRight_36 : decode b_Sh_areOffsetsRight 36 = .ok (.iload_n 2, 1) := by decide +kernel
theorem d_Sh_areOffsetsRight_37 : decode b_Sh_areOffsetsRight 37 = .ok (.invokevirtual 34, 3) := by decide +kernel
theorem d_Sh_areOffsetsRight_40 : decode b_Sh_areOffsetsRight 40 = .ok (.lconst 1, 1) := by decide +kernel
theorem d_Sh_areOffsetsRight_41 : decode b_Sh_areOffsetsRight 41 = .ok (.lcmp, 1) := by decide +kernel
theorem d_Sh_areOffsetsRight_42 : decode b_Sh_areOffsetsRight 42 = .ok (.ifCond .eq 5, 3) := by decide +kernel
theorem d_Sh_areOffsetsRight_45 : decode b_Sh_areOffsetsRight 45 = .ok (.iconst 0, 1) := by decide +kernel
theorem d_Sh_areOffsetsRight_46 : decode b_Sh_areOffsetsRight 46 = .ok (.ireturn, 1) := by decide +kernel
theorem d_Sh_areOffsetsRight_47 : decode b_Sh_areOffsetsRight 47 = .ok (.lconst 1, 1) := by decide +kernel
theorem d_Sh_areOffsetsRight_48 : decode b_Sh_areOffsetsRight 48 = .ok (.lstore 4, 2) := by decide +kernel
theorem d_Sh_areOffsetsRight_50 : decode b_Sh_areOffsetsRight 50 = .ok (.iconst 1, 1) := by decide +kernel
theorem d_Sh_areOffsetsRight_51 : decode b_Sh_areOffsetsRight 51 = .ok (.istore 6, 2) := by decide +kernel
theorem d_Sh_areOffsetsRight_53 : decode b_Sh_areOffsetsRight 53 = .ok (.iload 6, 2) := by decide +kernel
theorem d_Sh_areOffsetsRight_55 : decode b_Sh_areOffsetsRight 55 = .ok (.iload_n 1, 1) := by decide +kernel
theorem d_Sh_areOffsetsRight_56 : decode b_Sh_areOffsetsRight 56 = .ok (.if_icmp .gt 36, 3) := by decide +kernel
theorem d_Sh_areOffsetsRight_59 : decode b_Sh_areOffsetsRight 59 = .ok (.aload_n 0, 1) := by decide +kernel
theorem d_Sh_areOffsetsRight_60 : decode b_Sh_areOffsetsRight 60 = .ok (.iconst 3, 1) := by decide +kernel
theorem d_Sh_areOffsetsRight_61 : decode b_Sh_areOffsetsRight 61 = .ok (.iload 6, 2) := by decide +kernel
theorem d_Sh_areOffsetsRight_63 : decode b_Sh_areOffsetsRight 63 = .ok (.iload_n 2, 1) := by decide +kernel
theorem d_Sh_areOffsetsRight_64 : decode b_Sh_areOffsetsRight 64 = .ok (.imul, 1) := by decide +kernel
theorem d_Sh_areOffsetsRight_65 : decode b_Sh_areOffsetsRight 65 = .ok (.iadd, 1) := by decide +kernel
theorem d_Sh_areOffsetsRight_66 : decode b_Sh_areOffsetsRight 66 = .ok (.iload_n 2, 1) := by decide +kernel
theorem d_Sh_areOffsetsRight_67 : decode b_Sh_areOffsetsRight 67 = .ok (.invokevirtual 34, 3) := by decide +kernel
theorem d_Sh_areOffsetsRight_70 : decode b_Sh_areOffsetsRight 70 = .ok (.lstore 7, 2) := by decide +kernel
theorem d_Sh_areOffsetsRight_72 : decode b_Sh_areOffsetsRight 72 = .ok (.lload 7, 2) := by decide +kernel
theorem d_Sh_areOffsetsRight_74 : decode b_Sh_areOffsetsRight 74 = .ok (.lload 4, 2) := by decide +kernel
theorem d_Sh_areOffsetsRight_76 : decode b_Sh_areOffsetsRight 76 = .ok (.lcmp, 1) := by decide +kernel
theorem d_Sh_areOffsetsRight_77 : decode b_Sh_areOffsetsRight 77 = .ok (.ifCond .ge 5, 3) := by decide +kernel
theorem d_Sh_areOffsetsRight_80 : decode b_Sh_areOffsetsRight 80 = .ok (.iconst 0, 1) := by decide +kernel
theorem d_Sh_areOffsetsRight_81 : decode b_Sh_areOffsetsRight 81 = .ok (.ireturn, 1) := by decide +kernel
theorem d_Sh_areOffsetsRight_82 : decode b_Sh_areOffsetsRight 82 = .ok (.lload 7, 2) := by decide +kernel
theorem d_Sh_areOffsetsRight_84 : decode b_Sh_areOffsetsRight 84 = .ok (.lstore 4, 2) := by decide +kernel
theorem d_Sh_areOffsetsRight_86 : decode b_Sh_areOffsetsRight 86 = .ok (.iinc 6 1, 3) := by decide +kernel
theorem d_Sh_areOffsetsRight_89 : decode b_Sh_areOffsetsRight 89 = .ok (.goto (-36), 3) := by decide +kernel
theorem d_Sh_areOffsetsRight_92 : decode b_Sh_areOffsetsRight 92 = .ok (.iload_n 3, 1) := by decide +kernel
theorem d_Sh_areOffsetsRight_93 : decode b_Sh_areOffsetsRight 93 = .ok (.i2l, 1) := by decide +kernel
theorem d_Sh_areOffsetsRight_94 : decode b_Sh_areOffsetsRight 94 = .ok (.lload 4, 2) := by decide +kernel
theorem d_Sh_areOffsetsRight_96 : decode b_Sh_areOffsetsRight 96 = .ok (.ladd, 1) := by decide +kernel
theorem d_Sh_areOffsetsRight_97 : decode b_Sh_areOffsetsRight 97 = .ok (.lconst 1, 1) := by decide +kernel
theorem d_Sh_areOffsetsRight_98 : decode b_Sh_areOffsetsRight 98 = .ok (.lsub, 1) := by decide +kernel
theorem d_Sh_areOffsetsRight_99 : decode b_Sh_areOffsetsRight 99 = .ok (.aload_n 0, 1) := by decide +kernel
theorem d_Sh_areOffsetsRight_100 : decode b_Sh_areOffsetsRight 100 = .ok (.invokevirtual 38, 3) := by decide +kernel
theorem d_Sh_areOffsetsRight_103 : decode b_Sh_areOffsetsRight 103 = .ok (.i2l, 1) := by decide +kernel
theorem d_Sh_areOffsetsRight_104 : decode b_Sh_areOffsetsRight 104 = .ok (.lcmp, 1) := by decide +kernel
theorem d_Sh_areOffsetsRight_105 : decode b_Sh_areOffsetsRight 105 = .ok (.ifCond .gt 7, 3) := by decide +kernel
theorem d_Sh_areOffsetsRight_108 : decode b_Sh_areOffsetsRight 108 = .ok (.iconst 1, 1) := by decide +kernel
theorem d_Sh_areOffsetsRight_109 : decode b_Sh_areOffsetsRight 109 = .ok (.goto 4, 3) := by decide +kernel
theorem d_Sh_areOffsetsRight_112 : decode b_Sh_areOffsetsRight 112 = .ok (.iconst 0, 1) := by decide +kernel
theorem d_Sh_areOffsetsRight_113 : decode b_Sh_areOffsetsRight 113 = .ok (.ireturn, 1) := by decide +kernel
abbrev b_Sh_stringsIn : ByteArray := prog_8_method_7_code
abbrev y_Sh_stringsIn : MethodName := ⟨"CharOutlines$Shelf", "stringsIn", "(LCharOutlines$Bytes;)I"⟩
set_option maxRecDepth 100000 in
theorem cal_Sh_stringsIn : CalS gd_tbl y_Sh_stringsIn b_Sh_stringsIn 2 (some .int) 1 := ⟨⟨List.mem_filter.mpr ⟨List.mem_of_getElem? (i := 427) rfl, rfl⟩, List.mem_filter.mpr ⟨List.mem_of_getElem? (i := 64) rfl, rfl⟩, ⟨by decide, by decide⟩, by decide +kernel⟩, List.mem_filter.mpr ⟨List.mem_of_getElem? (i := 426) rfl, rfl⟩⟩
theorem d_Sh_stringsIn_0 : decode b_Sh_stringsIn 0 = .ok (.aload_n 0, 1) := by decide +kernel
theorem d_Sh_stringsIn_1 : decode b_Sh_stringsIn 1 = .ok (.invokevirtual 38, 3) := by decide +kernel
theorem d_Sh_stringsIn_4 : decode b_Sh_stringsIn 4 = .ok (.iconst 2, 1) := by decide +kernel
theorem d_Sh_stringsIn_5 : decode b_Sh_stringsIn 5 = .ok (.if_icmp .ge 6, 3) := by decide +kernel
theorem d_Sh_stringsIn_8 : decode b_Sh_stringsIn 8 = .ok (.bipush (-2), 2) := by decide +kernel
theorem d_Sh_stringsIn_10 : decode b_Sh_stringsIn 10 = .ok (.ireturn, 1) := by decide +kernel
theorem d_Sh_stringsIn_11 : decode b_Sh_stringsIn 11 = .ok (.aload_n 0, 1) := by decide +kernel
theorem d_Sh_stringsIn_12 : decode b_Sh_stringsIn 12 = .ok (.iconst 0, 1) := by decide +kernel
theorem d_Sh_stringsIn_13 : decode b_Sh_stringsIn 13 = .ok (.iconst 2, 1) := by decide +kernel
theorem d_Sh_stringsIn_14 : decode b_Sh_stringsIn 14 = .ok (.invokevirtual 34, 3) := by decide +kernel
theorem d_Sh_stringsIn_17 : decode b_Sh_stringsIn 17 = .ok (.l2i, 1) := by decide +kernel
theorem d_Sh_stringsIn_18 : decode b_Sh_stringsIn 18 = .ok (.istore_n 1, 1) := by decide +kernel
theorem d_Sh_stringsIn_19 : decode b_Sh_stringsIn 19 = .ok (.iload_n 1, 1) := by decide +kernel
theorem d_Sh_stringsIn_20 : decode b_Sh_stringsIn 20 = .ok (.ifCond .ne 5, 3) := by decide +kernel
theorem d_Sh_stringsIn_23 : decode b_Sh_stringsIn 23 = .ok (.iconst 0, 1) := by decide +kernel
theorem d_Sh_stringsIn_24 : decode b_Sh_stringsIn 24 = .ok (.ireturn, 1) := by decide +kernel
theorem d_Sh_stringsIn_25 : decode b_Sh_stringsIn 25 = .ok (.iload_n 1, 1) := by decide +kernel
theorem d_Sh_stringsIn_26 : decode b_Sh_stringsIn 26 = .ok (.sipush 2000, 3) := by decide +kernel
theorem d_Sh_stringsIn_29 : decode b_Sh_stringsIn 29 = .ok (.if_icmp .gt 15, 3) := by decide +kernel
theorem d_Sh_stringsIn_32 : decode b_Sh_stringsIn 32 = .ok (.aload_n 0, 1) := by decide +kernel
theorem d_Sh_stringsIn_33 : decode b_Sh_stringsIn 33 = .ok (.iload_n 1, 1) := by decide +kernel
theorem d_Sh_stringsIn_34 : decode b_Sh_stringsIn 34 = .ok (.invokestatic 42, 3) := by decide +kernel
theorem d_Sh_stringsIn_37 : decode b_Sh_stringsIn 37 = .ok (.ifCond .eq 7, 3) := by decide +kernel
theorem d_Sh_stringsIn_40 : decode b_Sh_stringsIn 40 = .ok (.iload_n 1, 1) := by decide +kernel
theorem d_Sh_stringsIn_41 : decode b_Sh_stringsIn 41 = .ok (.goto 5, 3) := by decide +kernel
theorem d_Sh_stringsIn_44 : decode b_Sh_stringsIn 44 = .ok (.bipush (-2), 2) := by decide +kernel
theorem d_Sh_stringsIn_46 : decode b_Sh_stringsIn 46 = .ok (.ireturn, 1) := by decide +kernel
abbrev b_Sh_fill : ByteArray := prog_8_method_5_code
abbrev y_Sh_fill : MethodName := ⟨"CharOutlines$Shelf", "fill", "(LCharOutlines$Bytes;)I"⟩
set_option maxRecDepth 100000 in
theorem cal_Sh_fill : CalV gd_tbl "CharOutlines$Shelf" y_Sh_fill b_Sh_fill 3 (some .int) 1 := ⟨⟨List.mem_filter.mpr ⟨List.mem_of_getElem? (i := 424) rfl, rfl⟩, List.mem_filter.mpr ⟨List.mem_of_getElem? (i := 64) rfl, rfl⟩, ⟨by decide, by decide⟩, by decide +kernel⟩, List.mem_filter.mpr ⟨List.mem_of_getElem? (i := 422) rfl, rfl⟩, List.mem_filter.mpr ⟨List.mem_of_getElem? (i := 423) rfl, rfl⟩⟩
theorem d_Sh_fill_0 : decode b_Sh_fill 0 = .ok (.aload_n 1, 1) := by decide +kernel
theorem d_Sh_fill_1 : decode b_Sh_fill 1 = .ok (.invokestatic 26, 3) := by decide +kernel
theorem d_Sh_fill_4 : decode b_Sh_fill 4 = .ok (.istore_n 2, 1) := by decide +kernel
theorem d_Sh_fill_5 : decode b_Sh_fill 5 = .ok (.iload_n 2, 1) := by decide +kernel
theorem d_Sh_fill_6 : decode b_Sh_fill 6 = .ok (.bipush (-2), 2) := by decide +kernel
theorem d_Sh_fill_8 : decode b_Sh_fill 8 = .ok (.if_icmp .eq 16, 3) := by decide +kernel
theorem d_Sh_fill_11 : decode b_Sh_fill 11 = .ok (.aload_n 0, 1) := by decide +kernel
theorem d_Sh_fill_12 : decode b_Sh_fill 12 = .ok (.getfield 12, 3) := by decide +kernel
theorem d_Sh_fill_15 : decode b_Sh_fill 15 = .ok (.aload_n 1, 1) := by decide +kernel
theorem d_Sh_fill_16 : decode b_Sh_fill 16 = .ok (.invokevirtual 30, 3) := by decide +kernel
theorem d_Sh_fill_19 : decode b_Sh_fill 19 = .ok (.aload_n 0, 1) := by decide +kernel
theorem d_Sh_fill_20 : decode b_Sh_fill 20 = .ok (.iload_n 2, 1) := by decide +kernel
theorem d_Sh_fill_21 : decode b_Sh_fill 21 = .ok (.putfield 18, 3) := by decide +kernel
theorem d_Sh_fill_24 : decode b_Sh_fill 24 = .ok (.iload_n 2, 1) := by decide +kernel
theorem d_Sh_fill_25 : decode b_Sh_fill 25 = .ok (.ireturn, 1) := by decide +kernel
set_option maxRecDepth 100000 in
theorem fl_Sh_18 : (Jvm.Cond.fieldLink "CharOutlines$Shelf" (18 : Nat) "CharOutlines$Shelf" "strings" "I") ∈ gd_tbl := List.mem_filter.mpr ⟨List.mem_of_getElem? (i := 121) rfl, rfl⟩
set_option maxRecDepth 100000 in
theorem ml_Sh_22 : (Jvm.Cond.methodLink "CharOutlines$Shelf" (22 : Nat) ({ cls := "CharOutlines$Bytes", name := "at", desc := "(I)I" } : Jvm.MethodName)) ∈ gd_tbl := List.mem_filter.mpr ⟨List.mem_of_getElem? (i := 437) rfl, rfl⟩
set_option maxRecDepth 100000 in
theorem ml_Sh_26 : (Jvm.Cond.methodLink "CharOutlines$Shelf" (26 : Nat) ({ cls := "CharOutlines$Shelf", name := "stringsIn", desc := "(LCharOutlines$Bytes;)I" } : Jvm.MethodName)) ∈ gd_tbl := List.mem_filter.mpr ⟨List.mem_of_getElem? (i := 425) rfl, rfl⟩
set_option maxRecDepth 100000 in
theorem ml_Sh_30 : (Jvm.Cond.methodLink "CharOutlines$Shelf" (30 : Nat) ({ cls := "CharOutlines$Bytes", name := "copy", desc := "(LCharOutlines$Bytes;)V" } : Jvm.MethodName)) ∈ gd_tbl := List.mem_filter.mpr ⟨List.mem_of_getElem? (i := 438) rfl, rfl⟩
set_option maxRecDepth 100000 in
theorem ml_Sh_34 : (Jvm.Cond.methodLink "CharOutlines$Shelf" (34 : Nat) ({ cls := "CharOutlines$Bytes", name := "number", desc := "(II)J" } : Jvm.MethodName)) ∈ gd_tbl := List.mem_filter.mpr ⟨List.mem_of_getElem? (i := 429) rfl, rfl⟩
set_option maxRecDepth 100000 in
theorem ml_Sh_38 : (Jvm.Cond.methodLink "CharOutlines$Shelf" (38 : Nat) ({ cls := "CharOutlines$Bytes", name := "length", desc := "()I" } : Jvm.MethodName)) ∈ gd_tbl := List.mem_filter.mpr ⟨List.mem_of_getElem? (i := 428) rfl, rfl⟩
set_option maxRecDepth 100000 in
theorem ml_Sh_42 : (Jvm.Cond.methodLink "CharOutlines$Shelf" (42 : Nat) ({ cls := "CharOutlines$Shelf", name := "areOffsetsRight", desc := "(LCharOutlines$Bytes;I)Z" } : Jvm.MethodName)) ∈ gd_tbl := List.mem_filter.mpr ⟨List.mem_of_getElem? (i := 434) rfl, rfl⟩
set_option maxHeartbeats 1000000 in
set_option maxRecDepth 100000 in
theorem c_By_replace (l : Launch) (D : va_G) (cB cI cJ : ClassId) (h a n cap : Nat) (f : Nat → Int32) (j : Nat) (b : Int32) (hj : j < n) (hn : n ≤ cap ∧ cap ≤ 16384) : Tr l D classes (TY cB cI cJ) gd_tbl nx_tbl y_By_replace b_By_replace 4 (some .int) ({ frames := 1, cells := 0, slots := 0, locals := 21 }) [.ref h, .int (nI j), .int b] [(h, .inr (0, [.ref a, .int (nI n)])), (a, .inl (cB, cap, .inl f))] (pI0 (fun r w => r = atB n f (nI j) ∧ w = [(h, .inr (0, [.ref a, .int (nI n)])), (a, .inl (cB, cap, .inl (upd f j (vp_nar .byte b.toInt8.toInt32))))])) := by
  refine Tr.intro (by decide +kernel) nx_ok (Nat.le_of_ble_eq_true rfl) ?_
  intro p_ e_ s_ m_ args_ below_ meth_ c_ A_ ls hx hb hml hown hts hr hlk hnm hZ hP hD hS hl
  have hl : lv_has ls 4 [(0, .ref h), (1, .int (nI j)), (2, .int b)] := hl
  refine lv_aload_n hx hb d_By_replace_0 rfl (lv_at hl 0 rfl) ?_
  refine lv_iload_n hx hb d_By_replace_1 rfl (lv_at hl 1 rfl) ?_
  refine roV (As := [.int (nI j)]) (rest := []) ⟨hx, hb, hml, hown, hts⟩ gd_good (c_By_at l D cB cI cJ h a n cap f (nI j) hn) cal_By_at ml_By_21 ⟨Nat.le_of_ble_eq_true rfl, Nat.le_of_ble_eq_true rfl⟩ hZ hP hD (isC := [0, 1]) ⟨rfl, rfl⟩ 0 (ci := 0) rfl rfl rfl rfl hl.1 rfl (Nat.le_of_ble_eq_true rfl) d_By_replace_2 ⟨Nat.le_of_ble_eq_true rfl, Nat.le_of_ble_eq_true rfl⟩ (fun v hv => ?_)
  subst hv
  refine lv_istore_n (lv' := [(3, .int (atB n f (nI j))), (0, .ref h), (1, .int (nI j)), (2, .int b)]) hx hb d_By_replace_5 rfl hl (by decide) rfl (fun ls hl => ?_)
  refine lv_iload_n hx hb d_By_replace_6 rfl (lv_at hl 2 rfl) ?_
  refine lv_if_lt (tgt := 26) hx hb d_By_replace_7 (by decide) (fun c_7 => absurd c_7 (nI_pos (by omega))) (fun c_7 => ?_)
  refine lv_iload_n hx hb d_By_replace_10 rfl (lv_at hl 2 rfl) ?_
  refine lv_aload_n hx hb d_By_replace_11 rfl (lv_at hl 1 rfl) ?_
  refine va_get (D := D) (ci := 0) (v := .int (nI n)) (C := R_By) (T := F_By) (N := 2) hx hb hts i_By hown hZ.1 hP 0 rfl rfl 1 (by decide) (hts _ fl_By_15) (fun _ h9 => h9) rfl d_By_replace_12 ?_
  refine lv_icmp_ge (tgt := 26) hx hb d_By_replace_15 (by decide) (fun c_15 => absurd c_15 (nI_ge hj (by omega))) (fun c_15 => ?_)
  refine lv_aload_n hx hb d_By_replace_18 rfl (lv_at hl 1 rfl) ?_
  refine va_get (D := D) (ci := 0) (v := .ref a) (C := R_By) (T := F_By) (N := 2) hx hb hts i_By hown hZ.1 hP 0 rfl rfl 0 (by decide) (hts _ fl_By_11) (fun _ h9 => h9) rfl d_By_replace_19 ?_
  refine lv_iload_n hx hb d_By_replace_22 rfl (lv_at hl 2 rfl) ?_
  refine lv_iload_n hx hb d_By_replace_23 rfl (lv_at hl 3 rfl) ?_
  refine lv_i2b hx hb d_By_replace_24 rfl ?_
  refine va_bast hx hb hZ.1 hP hD hS 1 0 rfl rfl (vp_in_nI (by omega) (by omega)) d_By_replace_25 (fun H locs hP hD hS => ?_)
  rw [show ((nI j).toNatClampNeg) = j from nI_clamp (by omega)] at hP hD
  have hP : va_P D classes [(h, .inr (0, [.ref a, .int (nI n)])), (a, .inl (cB, cap, .inl (upd f j (vp_nar .byte b.toInt8.toInt32))))] H := hP
  have hD : va_D A_ [(h, .inr (0, [.ref a, .int (nI n)])), (a, .inl (cB, cap, .inl (upd f j (vp_nar .byte b.toInt8.toInt32))))] := hD
  refine lv_iload_n hx hb d_By_replace_26 rfl (lv_at hl 0 rfl) ?_
  exact t_iret hx hb hr hlk d_By_replace_27 hP hD hS ⟨_, rfl, rfl, rfl, rfl, rfl⟩
set_option maxHeartbeats 1000000 in
set_option maxRecDepth 100000 in
theorem c_By_shorten (l : Launch) (D : va_G) (cB cI cJ : ClassId) (h a n cap : Nat) (f : Nat → Int32) (j : Nat) (hj : j < 2 ^ 31) (hn : n ≤ cap ∧ cap ≤ 16384) : Tr l D classes (TY cB cI cJ) gd_tbl nx_tbl y_By_shorten b_By_shorten 3 (some .int) ({ frames := 0, cells := 0, slots := 0, locals := 0 }) [.ref h, .int (nI j)] [(h, .inr (0, [.ref a, .int (nI n)])), (a, .inl (cB, cap, .inl f))] (pI0 (fun r w => ∃ n' : Nat, n' = min j n ∧ r = nI (n - n') ∧ w = [(h, .inr (0, [.ref a, .int (nI n')])), (a, .inl (cB, cap, .inl f))])) := by
  refine Tr.intro (by decide +kernel) nx_ok (Nat.le_of_ble_eq_true rfl) ?_
  intro p_ e_ s_ m_ args_ below_ meth_ c_ A_ ls hx hb hml hown hts hr hlk hnm hZ hP hD hS hl
  have hl : lv_has ls 3 [(0, .ref h), (1, .int (nI j))] := hl
  refine lv_aload_n hx hb d_By_shorten_0 rfl (lv_at hl 0 rfl) ?_
  refine va_get (D := D) (ci := 0) (v := .int (nI n)) (C := R_By) (T := F_By) (N := 2) hx hb hts i_By hown hZ.1 hP 0 rfl rfl 1 (by decide) (hts _ fl_By_15) (fun _ h9 => h9) rfl d_By_shorten_1 ?_
  refine lv_istore_n (lv' := [(2, .int (nI n)), (0, .ref h), (1, .int (nI j))]) hx hb d_By_shorten_4 rfl hl (by decide) rfl (fun ls hl => ?_)
  refine lv_iload_n hx hb d_By_shorten_5 rfl (lv_at hl 2 rfl) ?_
  refine lv_if_lt (tgt := 22) hx hb d_By_shorten_6 (by decide) (fun c_6 => absurd c_6 (nI_pos hj)) (fun c_6 => ?_)
  refine lv_iload_n hx hb d_By_shorten_9 rfl (lv_at hl 2 rfl) ?_
  refine lv_aload_n hx hb d_By_shorten_10 rfl (lv_at hl 1 rfl) ?_
  refine va_get (D := D) (ci := 0) (v := .int (nI n)) (C := R_By) (T := F_By) (N := 2) hx hb hts i_By hown hZ.1 hP 0 rfl rfl 1 (by decide) (hts _ fl_By_15) (fun _ h9 => h9) rfl d_By_shorten_11 ?_
  refine lv_icmp_ge (tgt := 22) hx hb d_By_shorten_14 (by decide) (fun c_14 => ?_) (fun c_14 => ?_)
  · refine lv_iload_n hx hb d_By_shorten_22 rfl (lv_at hl 0 rfl) ?_
    refine lv_aload_n hx hb d_By_shorten_23 rfl (lv_at hl 1 rfl) ?_
    refine va_get (D := D) (ci := 0) (v := .int (nI n)) (C := R_By) (T := F_By) (N := 2) hx hb hts i_By hown hZ.1 hP 0 rfl rfl 1 (by decide) (hts _ fl_By_15) (fun _ h9 => h9) rfl d_By_shorten_24 ?_
    refine lv_isub hx hb d_By_shorten_27 ?_
    exact t_iret hx hb hr hlk d_By_shorten_28 hP hD hS ⟨_, rfl, rfl, rfl, n, by have := (nI_leI (by omega) hj).mp c_14; omega, by rw [pk_sub (Nat.le_refl n)], rfl⟩
  · refine lv_aload_n hx hb d_By_shorten_17 rfl (lv_at hl 1 rfl) ?_
    refine lv_iload_n hx hb d_By_shorten_18 rfl (lv_at hl 2 rfl) ?_
    refine va_put (D := D) (ci := 0) (v := .int (nI j)) (ty := .int) (C := R_By) (T := F_By) (N := 2) hx hb hts i_By t_By t_By_ok n_By hown hZ.1 hP hD hS 0 rfl rfl 1 (by decide) (hts _ fl_By_15) (fun _ h9 => h9) rfl (by decide +kernel) rfl rfl (Nat.le_of_ble_eq_true rfl) d_By_shorten_19 (fun H locs hP hD hS => ?_)
    have hP : va_P D classes [(h, .inr (0, [.ref a, .int (nI j)])), (a, .inl (cB, cap, .inl f))] H := hP
    have hD : va_D A_ [(h, .inr (0, [.ref a, .int (nI j)])), (a, .inl (cB, cap, .inl f))] := hD
    refine lv_iload_n hx hb d_By_shorten_22 rfl (lv_at hl 0 rfl) ?_
    refine lv_aload_n hx hb d_By_shorten_23 rfl (lv_at hl 1 rfl) ?_
    refine va_get (D := D) (ci := 0) (v := .int (nI j)) (C := R_By) (T := F_By) (N := 2) hx hb hts i_By hown hZ.1 hP 0 rfl rfl 1 (by decide) (hts _ fl_By_15) (fun _ h9 => h9) rfl d_By_shorten_24 ?_
    refine lv_isub hx hb d_By_shorten_27 ?_
    exact t_iret hx hb hr hlk d_By_shorten_28 hP hD hS ⟨_, rfl, rfl, rfl, j, lt_min (fun q => c_14 (nI_le q hj)), pk_sub (lt_le (fun q => c_14 (nI_le q hj))), rfl⟩
set_option maxHeartbeats 1000000 in
set_option maxRecDepth 100000 in
theorem c_Sh_at (l : Launch) (D : va_G) (cB cI cJ : ClassId) (e h a m n cap : Nat) (f : Nat → Int32) (i : Int32) (hn : n ≤ cap ∧ cap ≤ 16384) : Ro l D classes (TY cB cI cJ) gd_tbl nx_tbl y_Sh_at b_Sh_at 2 (some .int) ({ frames := 1, cells := 0, slots := 0, locals := 21 }) [.ref e, .int i] [(e, .inr (1, [.ref h, .int (nI m)])), (h, .inr (0, [.ref a, .int (nI n)])), (a, .inl (cB, cap, .inl f))] (fun v => v = .int (atB n f i)) := by
  refine Ro.intro (by decide +kernel) nx_ok (Nat.le_of_ble_eq_true rfl) ?_
  intro p_ e_ s_ m_ args_ below_ meth_ c_ A_ ls hx hb hml hown hts hr hlk hnm hZ hP hD hl
  have hl : lv_has ls 2 [(0, .ref e), (1, .int i)] := hl
  refine lv_aload_n hx hb d_Sh_at_0 rfl (lv_at hl 0 rfl) ?_
  refine va_get (D := D) (ci := 1) (v := .ref h) (C := R_Sh) (T := F_Sh) (N := 2) hx hb hts i_Sh hown hZ.1 hP 0 rfl rfl 0 (by decide) (hts _ fl_Sh_12) (fun _ h9 => h9) rfl d_Sh_at_1 ?_
  refine lv_iload_n hx hb d_Sh_at_4 rfl (lv_at hl 1 rfl) ?_
  refine roV (As := [.int i]) (rest := []) ⟨hx, hb, hml, hown, hts⟩ gd_good (c_By_at l D cB cI cJ h a n cap f i hn) cal_By_at ml_Sh_22 ⟨Nat.le_of_ble_eq_true rfl, Nat.le_of_ble_eq_true rfl⟩ hZ hP hD (isC := [1, 2]) ⟨rfl, rfl⟩ 1 (ci := 0) rfl rfl rfl rfl hl.1 rfl (Nat.le_of_ble_eq_true rfl) d_Sh_at_5 ⟨Nat.le_of_ble_eq_true rfl, Nat.le_of_ble_eq_true rfl⟩ (fun v hv => ?_)
  subst hv
  exact r_iret hx hb hr hlk d_Sh_at_8 rfl
set_option maxHeartbeats 1000000 in
set_option maxRecDepth 100000 in
theorem c_Sh_start (l : Launch) (D : va_G) (cB cI cJ : ClassId) (e h a m n cap : Nat) (f : Nat → Int32) (k : Int32) (hn : n ≤ cap ∧ cap ≤ 16384) : Ro l D classes (TY cB cI cJ) gd_tbl nx_tbl y_Sh_start b_Sh_start 3 (some .int) ({ frames := 2, cells := 0, slots := 0, locals := 46 }) [.ref e, .int k] [(e, .inr (1, [.ref h, .int (nI m)])), (h, .inr (0, [.ref a, .int (nI n)])), (a, .inl (cB, cap, .inl f))] (fun v => v = .int (startX m n f k)) := by
  refine Ro.intro (by decide +kernel) nx_ok (Nat.le_of_ble_eq_true rfl) ?_
  intro p_ e_ s_ m_ args_ below_ meth_ c_ A_ ls hx hb hml hown hts hr hlk hnm hZ hP hD hl
  have hl : lv_has ls 3 [(0, .ref e), (1, .int k)] := hl
  have hw := bt_le n f 2
  refine lv_aload_n hx hb d_Sh_start_0 rfl (lv_at hl 0 rfl) ?_
  refine va_get (D := D) (ci := 1) (v := .ref h) (C := R_Sh) (T := F_Sh) (N := 2) hx hb hts i_Sh hown hZ.1 hP 0 rfl rfl 0 (by decide) (hts _ fl_Sh_12) (fun _ h9 => h9) rfl d_Sh_start_1 ?_
  refine lv_iconst (v := 2) hx hb d_Sh_start_4 (by decide) ?_
  refine roV (As := [.int 2]) (rest := []) ⟨hx, hb, hml, hown, hts⟩ gd_good (c_By_at l D cB cI cJ h a n cap f 2 hn) cal_By_at ml_Sh_22 ⟨Nat.le_of_ble_eq_true rfl, Nat.le_of_ble_eq_true rfl⟩ hZ hP hD (isC := [1, 2]) ⟨rfl, rfl⟩ 1 (ci := 0) rfl rfl rfl rfl hl.1 rfl (Nat.le_of_ble_eq_true rfl) d_Sh_start_5 ⟨Nat.le_of_ble_eq_true rfl, Nat.le_of_ble_eq_true rfl⟩ (fun v hv => ?_)
  subst hv
  refine lv_tv (y := nI (bt n f 2)) (atB_N (j := 2) f (by omega) (by omega)) ?_
  refine lv_istore_n (lv' := [(2, .int (nI (bt n f 2))), (0, .ref e), (1, .int k)]) hx hb d_Sh_start_8 rfl hl (by decide) rfl (fun ls hl => ?_)
  refine lv_iconst (v := 3) hx hb d_Sh_start_9 (by decide) ?_
  refine lv_aload_n hx hb d_Sh_start_10 rfl (lv_at hl 1 rfl) ?_
  refine va_get (D := D) (ci := 1) (v := .int (nI m)) (C := R_Sh) (T := F_Sh) (N := 2) hx hb hts i_Sh hown hZ.1 hP 0 rfl rfl 1 (by decide) (hts _ fl_Sh_18) (fun _ h9 => h9) rfl d_Sh_start_11 ?_
  refine lv_iconst (v := 1) hx hb d_Sh_start_14 (by decide) ?_
  refine lv_iadd hx hb d_Sh_start_15 ?_
  refine lv_iload_n hx hb d_Sh_start_16 rfl (lv_at hl 0 rfl) ?_
  refine lv_imul hx hb d_Sh_start_17 ?_
  refine lv_iadd hx hb d_Sh_start_18 ?_
  refine lv_aload_n hx hb d_Sh_start_19 rfl (lv_at hl 1 rfl) ?_
  refine va_get (D := D) (ci := 1) (v := .ref h) (C := R_Sh) (T := F_Sh) (N := 2) hx hb hts i_Sh hown hZ.1 hP 0 rfl rfl 0 (by decide) (hts _ fl_Sh_12) (fun _ h9 => h9) rfl d_Sh_start_20 ?_
  refine lv_iconst (v := 3) hx hb d_Sh_start_23 (by decide) ?_
  refine lv_iload_n hx hb d_Sh_start_24 rfl (lv_at hl 2 rfl) ?_
  refine lv_iload_n hx hb d_Sh_start_25 rfl (lv_at hl 0 rfl) ?_
  refine lv_imul hx hb d_Sh_start_26 ?_
  refine lv_iadd hx hb d_Sh_start_27 ?_
  refine lv_iload_n hx hb d_Sh_start_28 rfl (lv_at hl 0 rfl) ?_
  refine roV (As := [.int (3 + (k * (nI (bt n f 2)))), .int (nI (bt n f 2))]) (rest := [.int (3 + (((nI m) + 1) * (nI (bt n f 2))))]) ⟨hx, hb, hml, hown, hts⟩ gd_good (c_By_number l D cB cI cJ h a n cap f (3 + (k * (nI (bt n f 2)))) (bt n f 2) hn (by omega)) cal_By_number ml_Sh_34 ⟨Nat.le_of_ble_eq_true rfl, Nat.le_of_ble_eq_true rfl⟩ hZ hP hD (isC := [1, 2]) ⟨rfl, rfl⟩ 1 (ci := 0) rfl rfl rfl rfl hl.1 rfl (Nat.le_of_ble_eq_true rfl) d_Sh_start_29 ⟨Nat.le_of_ble_eq_true rfl, Nat.le_of_ble_eq_true rfl⟩ (fun v hv => ?_)
  subst hv
  refine lv_l2i hx hb d_Sh_start_32 rfl ?_
  refine lv_iadd hx hb d_Sh_start_33 ?_
  refine lv_iconst (v := 1) hx hb d_Sh_start_34 (by decide) ?_
  refine lv_isub hx hb d_Sh_start_35 ?_
  exact r_iret hx hb hr hlk d_Sh_start_36 rfl
set_option maxHeartbeats 1000000 in
set_option maxRecDepth 100000 in
theorem c_Sh_strings (l : Launch) (D : va_G) (cB cI cJ : ClassId) (e h m : Nat) : Ro l D classes (TY cB cI cJ) gd_tbl nx_tbl y_Sh_strings b_Sh_strings 1 (some .int) ({ frames := 0, cells := 0, slots := 0, locals := 0 }) [.ref e] [(e, .inr (1, [.ref h, .int (nI m)]))] (fun v => v = .int (nI m)) := by
  refine Ro.intro (by decide +kernel) nx_ok (Nat.le_of_ble_eq_true rfl) ?_
  intro p_ e_ s_ m_ args_ below_ meth_ c_ A_ ls hx hb hml hown hts hr hlk hnm hZ hP hD hl
  have hl : lv_has ls 1 [(0, .ref e)] := hl
  refine lv_aload_n hx hb d_Sh_strings_0 rfl (lv_at hl 0 rfl) ?_
  refine va_get (D := D) (ci := 1) (v := .int (nI m)) (C := R_Sh) (T := F_Sh) (N := 2) hx hb hts i_Sh hown hZ.1 hP 0 rfl rfl 1 (by decide) (hts _ fl_Sh_18) (fun _ h9 => h9) rfl d_Sh_strings_1 ?_
  exact r_iret hx hb hr hlk d_Sh_strings_4 rfl
set_option maxHeartbeats 1000000 in
set_option maxRecDepth 100000 in
theorem c_Sh_has (l : Launch) (D : va_G) (cB cI cJ : ClassId) (e h m : Nat) (k : Int32) : Ro l D classes (TY cB cI cJ) gd_tbl nx_tbl y_Sh_has b_Sh_has 2 (some .boolean) ({ frames := 0, cells := 0, slots := 0, locals := 0 }) [.ref e, .int k] [(e, .inr (1, [.ref h, .int (nI m)]))] (fun v => v = .int (hasS m k)) := by
  refine Ro.intro (by decide +kernel) nx_ok (Nat.le_of_ble_eq_true rfl) ?_
  intro p_ e_ s_ m_ args_ below_ meth_ c_ A_ ls hx hb hml hown hts hr hlk hnm hZ hP hD hl
  have hl : lv_has ls 2 [(0, .ref e), (1, .int k)] := hl
  refine lv_iload_n hx hb d_Sh_has_0 rfl (lv_at hl 1 rfl) ?_
  refine lv_if_lt (tgt := 16) hx hb d_Sh_has_1 (by decide) (fun c_1 => ?_) (fun c_1 => ?_)
  · refine lv_iconst (v := 0) hx hb d_Sh_has_16 (by decide) ?_
    exact r_zret hx hb hr hlk (by decide) d_Sh_has_17 (by simp [hasS, c_1])
  · refine lv_iload_n hx hb d_Sh_has_4 rfl (lv_at hl 1 rfl) ?_
    refine lv_aload_n hx hb d_Sh_has_5 rfl (lv_at hl 0 rfl) ?_
    refine va_get (D := D) (ci := 1) (v := .int (nI m)) (C := R_Sh) (T := F_Sh) (N := 2) hx hb hts i_Sh hown hZ.1 hP 0 rfl rfl 1 (by decide) (hts _ fl_Sh_18) (fun _ h9 => h9) rfl d_Sh_has_6 ?_
    refine lv_icmp_ge (tgt := 16) hx hb d_Sh_has_9 (by decide) (fun c_9 => ?_) (fun c_9 => ?_)
    · refine lv_iconst (v := 0) hx hb d_Sh_has_16 (by decide) ?_
      exact r_zret hx hb hr hlk (by decide) d_Sh_has_17 (by simp [hasS, c_1, c_9])
    · refine lv_iconst (v := 1) hx hb d_Sh_has_12 (by decide) ?_
      refine lv_goto (tgt := 17) hx hb d_Sh_has_13 (by decide) ?_
      exact r_zret hx hb hr hlk (by decide) d_Sh_has_17 (by simp [hasS, c_1, c_9])
set_option maxHeartbeats 1000000 in
set_option maxRecDepth 100000 in
theorem c_Sh_areOffsetsRight (l : Launch) (D : va_G) (cB cI cJ : ClassId) (h a n cap : Nat) (f : Nat → Int32) (m : Nat) (hm : m ≤ 65535) (hn : n ≤ cap ∧ cap ≤ 16384) : Ro l D classes (TY cB cI cJ) gd_tbl nx_tbl y_Sh_areOffsetsRight b_Sh_areOffsetsRight 9 (some .boolean) ({ frames := 2, cells := 0, slots := 0, locals := 46 }) [.ref h, .int (nI m)] [(h, .inr (0, [.ref a, .int (nI n)])), (a, .inl (cB, cap, .inl f))] (fun v => v = .int (tF (offR m n (bt n f)))) := by
  refine Ro.intro (by decide +kernel) nx_ok (Nat.le_of_ble_eq_true rfl) ?_
  intro p_ e_ s_ m_ args_ below_ meth_ c_ A_ ls hx hb hml hown hts hr hlk hnm hZ hP hD hl
  have hl : lv_has ls 9 [(0, .ref h), (1, .int (nI m))] := hl
  have hw := bt_le n f 2
  have hd : (m + 1) * bt n f 2 ≤ 65536 * 255 := Nat.mul_le_mul (by omega) hw
  refine lv_aload_n hx hb d_Sh_areOffsetsRight_0 rfl (lv_at hl 0 rfl) ?_
  refine lv_iconst (v := 2) hx hb d_Sh_areOffsetsRight_1 (by decide) ?_
  refine roV (As := [.int 2]) (rest := []) ⟨hx, hb, hml, hown, hts⟩ gd_good (c_By_at l D cB cI cJ h a n cap f 2 hn) cal_By_at ml_Sh_22 ⟨Nat.le_of_ble_eq_true rfl, Nat.le_of_ble_eq_true rfl⟩ hZ hP hD (isC := [0, 1]) ⟨rfl, rfl⟩ 0 (ci := 0) rfl rfl rfl rfl hl.1 rfl (Nat.le_of_ble_eq_true rfl) d_Sh_areOffsetsRight_2 ⟨Nat.le_of_ble_eq_true rfl, Nat.le_of_ble_eq_true rfl⟩ (fun v hv => ?_)
  subst hv
  refine lv_tv (y := nI (bt n f 2)) (atB_N (j := 2) f (by omega) (by omega)) ?_
  refine lv_istore_n (lv' := [(2, .int (nI (bt n f 2))), (0, .ref h), (1, .int (nI m))]) hx hb d_Sh_areOffsetsRight_5 rfl hl (by decide) rfl (fun ls hl => ?_)
  refine lv_iconst (v := 3) hx hb d_Sh_areOffsetsRight_6 (by decide) ?_
  refine lv_iload_n hx hb d_Sh_areOffsetsRight_7 rfl (lv_at hl 2 rfl) ?_
  refine lv_iconst (v := 1) hx hb d_Sh_areOffsetsRight_8 (by decide) ?_
  refine lv_iadd hx hb d_Sh_areOffsetsRight_9 ?_
  refine lv_tv (y := nI (m + 1)) (nI_add m 1) ?_
  refine lv_iload_n hx hb d_Sh_areOffsetsRight_10 rfl (lv_at hl 0 rfl) ?_
  refine lv_imul hx hb d_Sh_areOffsetsRight_11 ?_
  refine lv_tv (y := nI ((m + 1) * (bt n f 2))) (pk_mul (m + 1) (bt n f 2)) ?_
  refine lv_iadd hx hb d_Sh_areOffsetsRight_12 ?_
  refine lv_tv (y := nI (3 + ((m + 1) * (bt n f 2)))) (nI_add 3 ((m + 1) * (bt n f 2))) ?_
  refine lv_istore_n (lv' := [(3, .int (nI (3 + ((m + 1) * (bt n f 2))))), (2, .int (nI (bt n f 2))), (0, .ref h), (1, .int (nI m))]) hx hb d_Sh_areOffsetsRight_13 rfl hl (by decide) rfl (fun ls hl => ?_)
  refine lv_iload_n hx hb d_Sh_areOffsetsRight_14 rfl (lv_at hl 1 rfl) ?_
  refine lv_iconst (v := 1) hx hb d_Sh_areOffsetsRight_15 (by decide) ?_
  refine lv_icmp_lt (tgt := 32) hx hb d_Sh_areOffsetsRight_16 (by decide) (fun c_16 => ?_) (fun c_16 => ?_)
  · have n_16 : (bt n f 2) < (1) := (nI_ltI (a := bt n f 2) (b := 1) (by omega) (by omega)).mp c_16
    refine lv_iconst (v := 0) hx hb d_Sh_areOffsetsRight_32 (by decide) ?_
    exact r_zret hx hb hr hlk (by decide) d_Sh_areOffsetsRight_33 (by rw [tF_f]; intro z; have := z.1; omega)
  · have n_16 : ¬ (bt n f 2) < (1) := fun z => c_16 ((nI_ltI (a := bt n f 2) (b := 1) (by omega) (by omega)).mpr z)
    refine lv_iload_n hx hb d_Sh_areOffsetsRight_19 rfl (lv_at hl 1 rfl) ?_
    refine lv_iconst (v := 4) hx hb d_Sh_areOffsetsRight_20 (by decide) ?_
    refine lv_icmp_gt (tgt := 32) hx hb d_Sh_areOffsetsRight_21 (by decide) (fun c_21 => ?_) (fun c_21 => ?_)
    · have n_21 : (4) < (bt n f 2) := (nI_ltI (a := 4) (b := bt n f 2) (by omega) (by omega)).mp c_21
      refine lv_iconst (v := 0) hx hb d_Sh_areOffsetsRight_32 (by decide) ?_
      exact r_zret hx hb hr hlk (by decide) d_Sh_areOffsetsRight_33 (by rw [tF_f]; intro z; have := z.2.1; omega)
    · have n_21 : ¬ (4) < (bt n f 2) := fun z => c_21 ((nI_ltI (a := 4) (b := bt n f 2) (by omega) (by omega)).mpr z)
      refine lv_iload_n hx hb d_Sh_areOffsetsRight_24 rfl (lv_at hl 0 rfl) ?_
      refine lv_aload_n hx hb d_Sh_areOffsetsRight_25 rfl (lv_at hl 2 rfl) ?_
      refine roV (As := []) (rest := [.int (nI (3 + ((m + 1) * (bt n f 2))))]) ⟨hx, hb, hml, hown, hts⟩ gd_good (c_By_length l D cB cI cJ h a n cap f) cal_By_length ml_Sh_38 ⟨Nat.le_of_ble_eq_true rfl, Nat.le_of_ble_eq_true rfl⟩ hZ hP hD (isC := [0, 1]) ⟨rfl, rfl⟩ 0 (ci := 0) rfl rfl rfl rfl hl.1 rfl (Nat.le_of_ble_eq_true rfl) d_Sh_areOffsetsRight_26 ⟨Nat.le_of_ble_eq_true rfl, Nat.le_of_ble_eq_true rfl⟩ (fun v hv => ?_)
      subst hv
      refine lv_icmp_le (tgt := 34) hx hb d_Sh_areOffsetsRight_29 (by decide) (fun c_29 => ?_) (fun c_29 => ?_)
      · have n_29 : (3 + ((m + 1) * (bt n f 2))) ≤ (n) := (nI_leI (a := 3 + ((m + 1) * (bt n f 2))) (b := n) (by omega) (by omega)).mp c_29
        refine lv_aload_n hx hb d_Sh_areOffsetsRight_34 rfl (lv_at hl 2 rfl) ?_
        refine lv_iconst (v := 3) hx hb d_Sh_areOffsetsRight_35 (by decide) ?_
        refine lv_iload_n hx hb d_Sh_areOffsetsRight_36 rfl (lv_at hl 1 rfl) ?_
        refine roV (As := [.int 3, .int (nI (bt n f 2))]) (rest := []) ⟨hx, hb, hml, hown, hts⟩ gd_good (c_By_number l D cB cI cJ h a n cap f 3 (bt n f 2) hn (by omega)) cal_By_number ml_Sh_34 ⟨Nat.le_of_ble_eq_true rfl, Nat.le_of_ble_eq_true rfl⟩ hZ hP hD (isC := [0, 1]) ⟨rfl, rfl⟩ 0 (ci := 0) rfl rfl rfl rfl hl.1 rfl (Nat.le_of_ble_eq_true rfl) d_Sh_areOffsetsRight_37 ⟨Nat.le_of_ble_eq_true rfl, Nat.le_of_ble_eq_true rfl⟩ (fun v hv => ?_)
        subst hv
        refine lv_tvl (y := lN (oS (bt n f) 0)) (by rw [oS_0]; exact numX_N (i := 3) f (by omega) _ (by omega)) ?_
        refine lv_lconst (v := 1) hx hb d_Sh_areOffsetsRight_40 (by decide) ?_
        refine W.lcmp hx hb d_Sh_areOffsetsRight_41 ?_
        refine lv_if_eq (tgt := 47) hx hb d_Sh_areOffsetsRight_42 (by decide) (fun c_42 => ?_) (fun c_42 => ?_)
        · have h42 : oS (bt n f) 0 = 1 := (pk_lEQ (by have := oS_lt n f 0 (by omega); omega) (by omega)).mp (lcmp_eq.mp c_42)
          refine lv_lconst (v := 1) hx hb d_Sh_areOffsetsRight_47 (by decide) ?_
          refine lv_tvl (y := lN (oS (bt n f) 0)) (by rw [h42]; rfl) ?_
          refine lv_lstore (lv' := [(4, .long (lN (oS (bt n f) 0))), (3, .int (nI (3 + ((m + 1) * (bt n f 2))))), (2, .int (nI (bt n f 2))), (0, .ref h), (1, .int (nI m))]) hx hb d_Sh_areOffsetsRight_48 hl (by decide) rfl (fun ls hl => ?_)
          refine lv_iconst (v := 1) hx hb d_Sh_areOffsetsRight_50 (by decide) ?_
          refine lv_istore (lv' := [(6, .int 1), (4, .long (lN (oS (bt n f) 0))), (3, .int (nI (3 + ((m + 1) * (bt n f 2))))), (2, .int (nI (bt n f 2))), (0, .ref h), (1, .int (nI m))]) hx hb d_Sh_areOffsetsRight_51 hl (by decide) rfl (fun ls hl => ?_)
          have lp_53 : ∀ (fu : Nat) (t : Nat) (ls : Array Slot), (t ≤ m ∧ ∀ j, j < t → oS (bt n f) j ≤ oS (bt n f) (j + 1)) → (m + 1 - t) < fu → lv_has ls 9 [(0, .ref h), (1, .int (nI m)), (2, .int (nI (bt n f 2))), (3, .int (nI (3 + ((m + 1) * (bt n f 2))))), (4, .long (lN (oS (bt n f) t))), (6, .int (nI (t + 1)))] → W p_ l e_ ({ frames := 2, cells := 0, slots := 0, locals := 46 }) s_ m_ args_ below_ meth_ c_ s_.heap [] 0 0 (MQR below_ (fun v => v = .int (tF (offR m n (bt n f)))) s_) (F0 m_ 53 ls []) := by
            intro fu
            induction fu with
            | zero => intro t ls hinv hfu; exact absurd hfu (Nat.not_lt_zero _)
            | succ fu ih_53 =>
              intro t ls hinv hfu hl
              obtain ⟨htm, ht⟩ := hinv
              have hd2 : (t + 1) * bt n f 2 ≤ 65537 * 255 := Nat.mul_le_mul (by omega) hw
              refine lv_iload hx hb d_Sh_areOffsetsRight_53 (lv_at hl 5 rfl) ?_
              refine lv_iload_n hx hb d_Sh_areOffsetsRight_55 rfl (lv_at hl 1 rfl) ?_
              refine lv_icmp_gt (tgt := 92) hx hb d_Sh_areOffsetsRight_56 (by decide) (fun c_56 => ?_) (fun c_56 => ?_)
              · have n_56 : (m) < (t + 1) := (nI_ltI (a := m) (b := t + 1) (by omega) (by omega)).mp c_56
                refine lv_iload_n hx hb d_Sh_areOffsetsRight_92 rfl (lv_at hl 3 rfl) ?_
                refine lv_i2l hx hb d_Sh_areOffsetsRight_93 rfl ?_
                refine lv_tvl (y := lN (3 + (m + 1) * bt n f 2)) (nI_l (by omega)) ?_
                refine lv_lload hx hb d_Sh_areOffsetsRight_94 (lv_at hl 4 rfl) ?_
                refine lv_ladd hx hb d_Sh_areOffsetsRight_96 ?_
                refine lv_tvl (y := lN (3 + (m + 1) * bt n f 2 + oS (bt n f) t)) (lN_add _ _) ?_
                refine lv_lconst (v := 1) hx hb d_Sh_areOffsetsRight_97 (by decide) ?_
                refine lv_lsub hx hb d_Sh_areOffsetsRight_98 ?_
                refine lv_tvl (y := lN (3 + (m + 1) * bt n f 2 + oS (bt n f) t - 1)) (lN_sub (b := 1) (by omega)) ?_
                refine lv_aload_n hx hb d_Sh_areOffsetsRight_99 rfl (lv_at hl 0 rfl) ?_
                refine roV (As := []) (rest := [.long (lN (3 + (m + 1) * bt n f 2 + oS (bt n f) t - 1))]) ⟨hx, hb, hml, hown, hts⟩ gd_good (c_By_length l D cB cI cJ h a n cap f) cal_By_length ml_Sh_38 ⟨Nat.le_of_ble_eq_true rfl, Nat.le_of_ble_eq_true rfl⟩ hZ hP hD (isC := [0, 1]) ⟨rfl, rfl⟩ 0 (ci := 0) rfl rfl rfl rfl hl.1 rfl (Nat.le_of_ble_eq_true rfl) d_Sh_areOffsetsRight_100 ⟨Nat.le_of_ble_eq_true rfl, Nat.le_of_ble_eq_true rfl⟩ (fun v hv => ?_)
                subst hv
                refine lv_i2l hx hb d_Sh_areOffsetsRight_103 rfl ?_
                refine lv_tvl (y := lN n) (nI_l (by omega)) ?_
                refine W.lcmp hx hb d_Sh_areOffsetsRight_104 ?_
                refine lv_if_gt (tgt := 112) hx hb d_Sh_areOffsetsRight_105 (by decide) (fun c_105 => ?_) (fun c_105 => ?_)
                · refine lv_iconst (v := 0) hx hb d_Sh_areOffsetsRight_112 (by decide) ?_
                  exact r_zret hx hb hr hlk (by decide) d_Sh_areOffsetsRight_113 (by
                                      rw [tF_f]
                                      intro z
                                      have hz := (pk_lLT (by omega) (by have := oS_lt n f t (by omega); omega)).mp (lcmp_gt.mp c_105)
                                      have et : t = m := by omega
                                      subst et
                                      have := z.2.2.2.2.2
                                      omega)
                · refine lv_iconst (v := 1) hx hb d_Sh_areOffsetsRight_108 (by decide) ?_
                  refine lv_goto (tgt := 113) hx hb d_Sh_areOffsetsRight_109 (by decide) ?_
                  exact r_zret hx hb hr hlk (by decide) d_Sh_areOffsetsRight_113 (by
                                      rw [tF_t]
                                      have hz : ¬ n < 3 + (m + 1) * bt n f 2 + oS (bt n f) t - 1 := fun z => c_105 (lcmp_gt.mpr ((pk_lLT (by omega) (by have := oS_lt n f t (by omega); omega)).mpr z))
                                      have et : t = m := by omega
                                      subst et
                                      exact ⟨by omega, by omega, by omega, h42, ht, by omega⟩)
              · have n_56 : ¬ (m) < (t + 1) := fun z => c_56 ((nI_ltI (a := m) (b := t + 1) (by omega) (by omega)).mpr z)
                refine lv_aload_n hx hb d_Sh_areOffsetsRight_59 rfl (lv_at hl 0 rfl) ?_
                refine lv_iconst (v := 3) hx hb d_Sh_areOffsetsRight_60 (by decide) ?_
                refine lv_iload hx hb d_Sh_areOffsetsRight_61 (lv_at hl 5 rfl) ?_
                refine lv_iload_n hx hb d_Sh_areOffsetsRight_63 rfl (lv_at hl 2 rfl) ?_
                refine lv_imul hx hb d_Sh_areOffsetsRight_64 ?_
                refine lv_tv (y := nI ((t + 1) * (bt n f 2))) (pk_mul (t + 1) (bt n f 2)) ?_
                refine lv_iadd hx hb d_Sh_areOffsetsRight_65 ?_
                refine lv_tv (y := nI (3 + ((t + 1) * (bt n f 2)))) (nI_add 3 ((t + 1) * (bt n f 2))) ?_
                refine lv_iload_n hx hb d_Sh_areOffsetsRight_66 rfl (lv_at hl 2 rfl) ?_
                refine roV (As := [.int (nI (3 + ((t + 1) * (bt n f 2)))), .int (nI (bt n f 2))]) (rest := []) ⟨hx, hb, hml, hown, hts⟩ gd_good (c_By_number l D cB cI cJ h a n cap f (nI (3 + ((t + 1) * (bt n f 2)))) (bt n f 2) hn (by omega)) cal_By_number ml_Sh_34 ⟨Nat.le_of_ble_eq_true rfl, Nat.le_of_ble_eq_true rfl⟩ hZ hP hD (isC := [0, 1]) ⟨rfl, rfl⟩ 0 (ci := 0) rfl rfl rfl rfl hl.1 rfl (Nat.le_of_ble_eq_true rfl) d_Sh_areOffsetsRight_67 ⟨Nat.le_of_ble_eq_true rfl, Nat.le_of_ble_eq_true rfl⟩ (fun v hv => ?_)
                subst hv
                refine lv_tvl (y := lN (oS (bt n f) (t + 1))) (numX_N (i := 3 + (t + 1) * bt n f 2) f (by omega) _ (by omega)) ?_
                refine lv_lstore (lv' := [(7, .long (lN (oS (bt n f) (t + 1)))), (0, .ref h), (1, .int (nI m)), (2, .int (nI (bt n f 2))), (3, .int (nI (3 + ((m + 1) * (bt n f 2))))), (4, .long (lN (oS (bt n f) t))), (6, .int (nI (t + 1)))]) hx hb d_Sh_areOffsetsRight_70 hl (by decide) rfl (fun ls hl => ?_)
                refine lv_lload hx hb d_Sh_areOffsetsRight_72 (lv_at hl 0 rfl) ?_
                refine lv_lload hx hb d_Sh_areOffsetsRight_74 (lv_at hl 5 rfl) ?_
                refine W.lcmp hx hb d_Sh_areOffsetsRight_76 ?_
                refine lv_if_ge (tgt := 82) hx hb d_Sh_areOffsetsRight_77 (by decide) (fun c_77 => ?_) (fun c_77 => ?_)
                · have h77 : oS (bt n f) t ≤ oS (bt n f) (t + 1) := (pk_lLE (by have := oS_lt n f t (by omega); omega) (by have := oS_lt n f (t + 1) (by omega); omega)).mp ((lg_cmp_ge _ _).mp c_77)
                  refine lv_lload hx hb d_Sh_areOffsetsRight_82 (lv_at hl 0 rfl) ?_
                  refine lv_lstore (lv' := [(4, .long (lN (oS (bt n f) (t + 1)))), (7, .long (lN (oS (bt n f) (t + 1)))), (0, .ref h), (1, .int (nI m)), (2, .int (nI (bt n f 2))), (3, .int (nI (3 + ((m + 1) * (bt n f 2))))), (6, .int (nI (t + 1)))]) hx hb d_Sh_areOffsetsRight_84 hl (by decide) rfl (fun ls hl => ?_)
                  refine lv_iinc (v := nI (t + 1 + 1)) (lv' := [(6, .int (nI (t + 1 + 1))), (4, .long (lN (oS (bt n f) (t + 1)))), (7, .long (lN (oS (bt n f) (t + 1)))), (0, .ref h), (1, .int (nI m)), (2, .int (nI (bt n f 2))), (3, .int (nI (3 + ((m + 1) * (bt n f 2)))))]) hx hb d_Sh_areOffsetsRight_86 hl (k := 6) rfl (nI_add (t + 1) 1) (by decide) rfl (fun ls hl => ?_)
                  refine lv_goto (tgt := 53) hx hb d_Sh_areOffsetsRight_89 (by decide) ?_
                  exact ih_53  (t + 1) _ ⟨by omega, lt_s ht h77⟩ (by omega) (lv_sub hl [3, 4, 5, 6, 1, 0] rfl)
                · refine lv_iconst (v := 0) hx hb d_Sh_areOffsetsRight_80 (by decide) ?_
                  exact r_zret hx hb hr hlk (by decide) d_Sh_areOffsetsRight_81 (by rw [tF_f]; intro z; exact c_77 ((lg_cmp_ge _ _).mpr ((pk_lLE (by have := oS_lt n f t (by omega); omega) (by have := oS_lt n f (t + 1) (by omega); omega)).mpr (z.2.2.2.2.1 t (by omega)))))
          exact lp_53 _ 0 _ ⟨by omega, fun j hj => by omega⟩ (Nat.lt_succ_self _) (lv_sub hl [4, 5, 3, 2, 1, 0] rfl)
        · refine lv_iconst (v := 0) hx hb d_Sh_areOffsetsRight_45 (by decide) ?_
          exact r_zret hx hb hr hlk (by decide) d_Sh_areOffsetsRight_46 (by rw [tF_f]; intro z; exact c_42 (lcmp_eq.mpr (by rw [z.2.2.2.1]; rfl)))
      · have n_29 : ¬ (3 + ((m + 1) * (bt n f 2))) ≤ (n) := fun z => c_29 ((nI_leI (a := 3 + ((m + 1) * (bt n f 2))) (b := n) (by omega) (by omega)).mpr z)
        refine lv_iconst (v := 0) hx hb d_Sh_areOffsetsRight_32 (by decide) ?_
        exact r_zret hx hb hr hlk (by decide) d_Sh_areOffsetsRight_33 (by rw [tF_f]; intro z; have := z.2.2.1; omega)
set_option maxHeartbeats 1000000 in
set_option maxRecDepth 100000 in
theorem c_Sh_stringsIn (l : Launch) (D : va_G) (cB cI cJ : ClassId) (h a n cap : Nat) (f : Nat → Int32) (hn : n ≤ cap ∧ cap ≤ 16384) : Ro l D classes (TY cB cI cJ) gd_tbl nx_tbl y_Sh_stringsIn b_Sh_stringsIn 2 (some .int) ({ frames := 3, cells := 0, slots := 0, locals := 74 }) [.ref h] [(h, .inr (0, [.ref a, .int (nI n)])), (a, .inl (cB, cap, .inl f))] (fun v => v = .int (shV n (bt n f))) := by
  refine Ro.intro (by decide +kernel) nx_ok (Nat.le_of_ble_eq_true rfl) ?_
  intro p_ e_ s_ m_ args_ below_ meth_ c_ A_ ls hx hb hml hown hts hr hlk hnm hZ hP hD hl
  have hl : lv_has ls 2 [(0, .ref h)] := hl
  have hms := mS_le (bt_le n f)
  refine lv_aload_n hx hb d_Sh_stringsIn_0 rfl (lv_at hl 0 rfl) ?_
  refine roV (As := []) (rest := []) ⟨hx, hb, hml, hown, hts⟩ gd_good (c_By_length l D cB cI cJ h a n cap f) cal_By_length ml_Sh_38 ⟨Nat.le_of_ble_eq_true rfl, Nat.le_of_ble_eq_true rfl⟩ hZ hP hD (isC := [0, 1]) ⟨rfl, rfl⟩ 0 (ci := 0) rfl rfl rfl rfl hl.1 rfl (Nat.le_of_ble_eq_true rfl) d_Sh_stringsIn_1 ⟨Nat.le_of_ble_eq_true rfl, Nat.le_of_ble_eq_true rfl⟩ (fun v hv => ?_)
  subst hv
  refine lv_iconst (v := 2) hx hb d_Sh_stringsIn_4 (by decide) ?_
  refine lv_icmp_ge (tgt := 11) hx hb d_Sh_stringsIn_5 (by decide) (fun c_5 => ?_) (fun c_5 => ?_)
  · have n_5 : (2) ≤ (n) := (nI_leI (a := 2) (b := n) (by omega) (by omega)).mp c_5
    refine lv_aload_n hx hb d_Sh_stringsIn_11 rfl (lv_at hl 0 rfl) ?_
    refine lv_iconst (v := 0) hx hb d_Sh_stringsIn_12 (by decide) ?_
    refine lv_iconst (v := 2) hx hb d_Sh_stringsIn_13 (by decide) ?_
    refine roV (As := [.int 0, .int 2]) (rest := []) ⟨hx, hb, hml, hown, hts⟩ gd_good (c_By_number l D cB cI cJ h a n cap f 0 2 hn (by omega)) cal_By_number ml_Sh_34 ⟨Nat.le_of_ble_eq_true rfl, Nat.le_of_ble_eq_true rfl⟩ hZ hP hD (isC := [0, 1]) ⟨rfl, rfl⟩ 0 (ci := 0) rfl rfl rfl rfl hl.1 rfl (Nat.le_of_ble_eq_true rfl) d_Sh_stringsIn_14 ⟨Nat.le_of_ble_eq_true rfl, Nat.le_of_ble_eq_true rfl⟩ (fun v hv => ?_)
    subst hv
    refine lv_tvl (y := lN (mS (bt n f))) ((numX_N (i := 0) f (by omega) 2 (by omega)).trans (by rw [nb_2])) ?_
    refine lv_l2i hx hb d_Sh_stringsIn_17 rfl ?_
    refine lv_tv (y := nI (mS (bt n f))) (lN_i _) ?_
    refine lv_istore_n (lv' := [(1, .int (nI (mS (bt n f)))), (0, .ref h)]) hx hb d_Sh_stringsIn_18 rfl hl (by decide) rfl (fun ls hl => ?_)
    refine lv_iload_n hx hb d_Sh_stringsIn_19 rfl (lv_at hl 0 rfl) ?_
    refine lv_if_ne (tgt := 25) hx hb d_Sh_stringsIn_20 (by decide) (fun c_20 => ?_) (fun c_20 => ?_)
    · have n_20 : ¬ (mS (bt n f)) = (0) := fun z => c_20 ((nI_eq (a := mS (bt n f)) (b := 0) (by omega) (by omega)).mpr z)
      refine lv_iload_n hx hb d_Sh_stringsIn_25 rfl (lv_at hl 0 rfl) ?_
      refine lv_sipush (v := 2000) hx hb d_Sh_stringsIn_26 (by decide) ?_
      refine lv_icmp_gt (tgt := 44) hx hb d_Sh_stringsIn_29 (by decide) (fun c_29 => ?_) (fun c_29 => ?_)
      · have n_29 : (2000) < (mS (bt n f)) := (nI_ltI (a := 2000) (b := mS (bt n f)) (by omega) (by omega)).mp c_29
        refine lv_bipush (v := (-2)) hx hb d_Sh_stringsIn_44 (by decide) ?_
        exact r_iret hx hb hr hlk d_Sh_stringsIn_46 (by rw [shV_f (shOk_big (by omega))])
      · have n_29 : ¬ (2000) < (mS (bt n f)) := fun z => c_29 ((nI_ltI (a := 2000) (b := mS (bt n f)) (by omega) (by omega)).mpr z)
        refine lv_aload_n hx hb d_Sh_stringsIn_32 rfl (lv_at hl 1 rfl) ?_
        refine lv_iload_n hx hb d_Sh_stringsIn_33 rfl (lv_at hl 0 rfl) ?_
        refine roS (As := [.ref h, .int (nI (mS (bt n f)))]) (rest := []) ⟨hx, hb, hml, hown, hts⟩ gd_good (c_Sh_areOffsetsRight l D cB cI cJ h a n cap f (mS (bt n f)) (by omega) hn) cal_Sh_areOffsetsRight ml_Sh_42 ⟨Nat.le_of_ble_eq_true rfl, Nat.le_of_ble_eq_true rfl⟩ hZ hP hD (isC := [0, 1]) ⟨rfl, rfl⟩ rfl hl.1 rfl (Nat.le_of_ble_eq_true rfl) d_Sh_stringsIn_34 ⟨Nat.le_of_ble_eq_true rfl, Nat.le_of_ble_eq_true rfl⟩ (fun v hv => ?_)
        subst hv
        refine lv_if_eq (tgt := 44) hx hb d_Sh_stringsIn_37 (by decide) (fun c_37 => ?_) (fun c_37 => ?_)
        · refine lv_bipush (v := (-2)) hx hb d_Sh_stringsIn_44 (by decide) ?_
          exact r_iret hx hb hr hlk d_Sh_stringsIn_46 (by rw [shV_f (fun z => tF_0.mp c_37 ((shOk_off (by omega) n_20 (by omega)).mp z))])
        · refine lv_iload_n hx hb d_Sh_stringsIn_40 rfl (lv_at hl 0 rfl) ?_
          refine lv_goto (tgt := 46) hx hb d_Sh_stringsIn_41 (by decide) ?_
          exact r_iret hx hb hr hlk d_Sh_stringsIn_46 (by rw [shV_t ((shOk_off (by omega) n_20 (by omega)).mpr (Classical.byContradiction (fun z => c_37 (tF_0.mpr z))))])
    · have n_20 : (mS (bt n f)) = (0) := (nI_eq (a := mS (bt n f)) (b := 0) (by omega) (by omega)).mp c_20
      refine lv_iconst (v := 0) hx hb d_Sh_stringsIn_23 (by decide) ?_
      exact r_iret hx hb hr hlk d_Sh_stringsIn_24 (by rw [shV_t ⟨by omega, Or.inl n_20⟩, n_20]; rfl)
  · have n_5 : ¬ (2) ≤ (n) := fun z => c_5 ((nI_leI (a := 2) (b := n) (by omega) (by omega)).mpr z)
    refine lv_bipush (v := (-2)) hx hb d_Sh_stringsIn_8 (by decide) ?_
    exact r_iret hx hb hr hlk d_Sh_stringsIn_10 (by rw [shV_f (shOk_short (by omega))])
set_option maxHeartbeats 1000000 in
set_option maxRecDepth 100000 in
theorem c_Sh_fill (l : Launch) (D : va_G) (cB cI cJ : ClassId) (e h a m n cap : Nat) (f : Nat → Int32) (h2 a2 n2 cap2 : Nat) (f2 : Nat → Int32) (hn : n ≤ cap ∧ cap ≤ 16384) (hc : 64 ≤ cap) (hf : sb_Fit f) (hn2 : n2 ≤ cap2 ∧ cap2 ≤ 16384) (hf2 : sb_Fit f2) : Tr l D classes (TY cB cI cJ) gd_tbl nx_tbl y_Sh_fill b_Sh_fill 3 (some .int) ({ frames := 4, cells := gF cap, slots := gF cap, locals := 95 }) [.ref e, .ref h2] [(e, .inr (1, [.ref h, .int (nI m)])), (h, .inr (0, [.ref a, .int (nI n)])), (a, .inl (cB, cap, .inl f)), (h2, .inr (0, [.ref a2, .int (nI n2)])), (a2, .inl (cB, cap2, .inl f2))] (pI (fun r w k q => (¬ shOk n2 (bt n2 f2) ∧ r = -2 ∧ w = [(e, .inr (1, [.ref h, .int (nI m)])), (h, .inr (0, [.ref a, .int (nI n)])), (a, .inl (cB, cap, .inl f)), (h2, .inr (0, [.ref a2, .int (nI n2)])), (a2, .inl (cB, cap2, .inl f2))] ∧ k = 0 ∧ q = 0) ∨ (shOk n2 (bt n2 f2) ∧ r = nI (mS (bt n2 f2)) ∧ ∃ (a' cap' : Nat) (f' : Nat → Int32), w = [(e, .inr (1, [.ref h, .int (nI (mS (bt n2 f2)))])), (h, .inr (0, [.ref a', .int (nI n2)])), (a', .inl (cB, cap', .inl f')), (h2, .inr (0, [.ref a2, .int (nI n2)])), (a2, .inl (cB, cap2, .inl f2))] ∧ n2 ≤ cap' ∧ cap ≤ cap' ∧ cap' ≤ 16384 ∧ sb_Fit f' ∧ (∀ i, i < n2 → f' i = f2 i) ∧ k ≤ q ∧ q + gF cap' ≤ gF cap))) := by
  refine Tr.intro (by decide +kernel) nx_ok (Nat.le_of_ble_eq_true rfl) ?_
  intro p_ e_ s_ m_ args_ below_ meth_ c_ A_ ls hx hb hml hown hts hr hlk hnm hZ hP hD hS hl
  have hl : lv_has ls 3 [(0, .ref e), (1, .ref h2)] := hl
  refine lv_aload_n hx hb d_Sh_fill_0 rfl (lv_at hl 1 rfl) ?_
  refine roS (As := [.ref h2]) (rest := []) ⟨hx, hb, hml, hown, hts⟩ gd_good (c_Sh_stringsIn l D cB cI cJ h2 a2 n2 cap2 f2 hn2) cal_Sh_stringsIn ml_Sh_26 ⟨Nat.le_of_ble_eq_true rfl, Nat.le_of_ble_eq_true rfl⟩ hZ hP hD (isC := [3, 4]) ⟨rfl, rfl⟩ rfl hl.1 rfl (Nat.le_of_ble_eq_true rfl) d_Sh_fill_1 ⟨by dsimp only; omega, by dsimp only; omega⟩ (fun v hv => ?_)
  subst hv
  refine lv_istore_n (lv' := [(2, .int (shV n2 (bt n2 f2))), (0, .ref e), (1, .ref h2)]) hx hb d_Sh_fill_4 rfl hl (by decide) rfl (fun ls hl => ?_)
  refine lv_iload_n hx hb d_Sh_fill_5 rfl (lv_at hl 0 rfl) ?_
  refine lv_bipush (v := (-2)) hx hb d_Sh_fill_6 (by decide) ?_
  refine lv_icmp_eq (tgt := 24) hx hb d_Sh_fill_8 (by decide) (fun c_8 => ?_) (fun c_8 => ?_)
  · refine lv_iload_n hx hb d_Sh_fill_24 rfl (lv_at hl 0 rfl) ?_
    exact t_iret hx hb hr hlk d_Sh_fill_25 (hP.subm (ws' := [(e, .inr (1, [.ref h, .int (nI m)])), (h, .inr (0, [.ref a, .int (nI n)])), (a, .inl (cB, cap, .inl f)), (h2, .inr (0, [.ref a2, .int (nI n2)])), (a2, .inl (cB, cap2, .inl f2))]) [0, 1, 2, 3, 4] rfl) (hD.sub (ws' := [(e, .inr (1, [.ref h, .int (nI m)])), (h, .inr (0, [.ref a, .int (nI n)])), (a, .inl (cB, cap, .inl f)), (h2, .inr (0, [.ref a2, .int (nI n2)])), (a2, .inl (cB, cap2, .inl f2))]) [0, 1, 2, 3, 4] rfl rfl) hS ⟨_, rfl, Or.inl ⟨(shV_m2 (bt_le _ _)).mp c_8, c_8, rfl, rfl, rfl⟩⟩
  · have hsh : shOk n2 (bt n2 f2) := Classical.byContradiction (fun z => c_8 ((shV_m2 (bt_le _ _)).mpr z))
    refine lv_aload_n hx hb d_Sh_fill_11 rfl (lv_at hl 1 rfl) ?_
    refine va_get (D := D) (ci := 1) (v := .ref h) (C := R_Sh) (T := F_Sh) (N := 2) hx hb hts i_Sh hown hZ.1 hP 0 rfl rfl 0 (by decide) (hts _ fl_Sh_12) (fun _ h9 => h9) rfl d_Sh_fill_12 ?_
    refine lv_aload_n hx hb d_Sh_fill_15 rfl (lv_at hl 2 rfl) ?_
    have hC : Cut [(e, .inr (1, [.ref h, .int (nI m)])), (h, .inr (0, [.ref a, .int (nI n)])), (a, .inl (cB, cap, .inl f)), (h2, .inr (0, [.ref a2, .int (nI n2)])), (a2, .inl (cB, cap2, .inl f2))] [(h, .inr (0, [.ref a, .int (nI n)])), (a, .inl (cB, cap, .inl f)), (h2, .inr (0, [.ref a2, .int (nI n2)])), (a2, .inl (cB, cap2, .inl f2))] [(e, .inr (1, [.ref h, .int (nI m)]))] [1, 2, 3, 4] [0] := ⟨rfl, rfl, rfl, rfl, by decide⟩
    refine goV (trV (As := [.ref h2]) (rest := []) ⟨hx, hb, hml, hown, hts⟩ gd_good (c_By_copy l D cB cI cJ h a n cap f h2 a2 n2 cap2 f2 hn hc hf hn2 hf2) cal_By_copy ml_Sh_30 ⟨Nat.le_of_ble_eq_true rfl, Nat.le_of_ble_eq_true rfl⟩ hZ hP hD hC 1 (ci := 0) rfl rfl rfl rfl hl.1 rfl (Nat.le_of_ble_eq_true rfl) d_Sh_fill_16 ⟨by dsimp only; omega, by dsimp only; omega⟩) hZ hP hD hS hC (fun w1 kk_16 qq_16 H locs hq hP hD hS => ?_)
    obtain ⟨a'16, cap'16, f'16, rfl, ha1_16, ha2_16, ha3_16, ha4_16, ha5_16, ha6_16, ha7_16⟩ := hq
    have hP : va_P D classes [(e, .inr (1, [.ref h, .int (nI m)])), (h, .inr (0, [.ref a'16, .int (nI n2)])), (a'16, .inl (cB, cap'16, .inl f'16)), (h2, .inr (0, [.ref a2, .int (nI n2)])), (a2, .inl (cB, cap2, .inl f2))] H := hP
    have hD : va_D A_ [(e, .inr (1, [.ref h, .int (nI m)])), (h, .inr (0, [.ref a'16, .int (nI n2)])), (a'16, .inl (cB, cap'16, .inl f'16)), (h2, .inr (0, [.ref a2, .int (nI n2)])), (a2, .inl (cB, cap2, .inl f2))] := hD
    refine lv_aload_n hx hb d_Sh_fill_19 rfl (lv_at hl 1 rfl) ?_
    refine lv_iload_n hx hb d_Sh_fill_20 rfl (lv_at hl 0 rfl) ?_
    refine lv_tv (y := nI (mS (bt n2 f2))) (shV_t hsh) ?_
    refine va_put (D := D) (ci := 1) (v := .int (nI (mS (bt n2 f2)))) (ty := .int) (C := R_Sh) (T := F_Sh) (N := 2) hx hb hts i_Sh t_Sh t_Sh_ok n_Sh hown hZ.1 hP hD hS 0 rfl rfl 1 (by decide) (hts _ fl_Sh_18) (fun _ h9 => h9) rfl (by decide +kernel) rfl rfl (Nat.le_of_ble_eq_true rfl) d_Sh_fill_21 (fun H locs hP hD hS => ?_)
    have hP : va_P D classes [(e, .inr (1, [.ref h, .int (nI (mS (bt n2 f2)))])), (h, .inr (0, [.ref a'16, .int (nI n2)])), (a'16, .inl (cB, cap'16, .inl f'16)), (h2, .inr (0, [.ref a2, .int (nI n2)])), (a2, .inl (cB, cap2, .inl f2))] H := hP
    have hD : va_D A_ [(e, .inr (1, [.ref h, .int (nI (mS (bt n2 f2)))])), (h, .inr (0, [.ref a'16, .int (nI n2)])), (a'16, .inl (cB, cap'16, .inl f'16)), (h2, .inr (0, [.ref a2, .int (nI n2)])), (a2, .inl (cB, cap2, .inl f2))] := hD
    refine lv_iload_n hx hb d_Sh_fill_24 rfl (lv_at hl 0 rfl) ?_
    refine lv_tv (y := nI (mS (bt n2 f2))) (shV_t hsh) ?_
    exact t_iret hx hb hr hlk d_Sh_fill_25 (hP.subm (ws' := [(e, .inr (1, [.ref h, .int (nI (mS (bt n2 f2)))])), (h, .inr (0, [.ref a'16, .int (nI n2)])), (a'16, .inl (cB, cap'16, .inl f'16)), (h2, .inr (0, [.ref a2, .int (nI n2)])), (a2, .inl (cB, cap2, .inl f2))]) [0, 1, 2, 3, 4] rfl) (hD.sub (ws' := [(e, .inr (1, [.ref h, .int (nI (mS (bt n2 f2)))])), (h, .inr (0, [.ref a'16, .int (nI n2)])), (a'16, .inl (cB, cap'16, .inl f'16)), (h2, .inr (0, [.ref a2, .int (nI n2)])), (a2, .inl (cB, cap2, .inl f2))]) [0, 1, 2, 3, 4] rfl rfl) hS ⟨_, rfl, Or.inr ⟨hsh, rfl, _, _, _, rfl, ha1_16, ha2_16, ha3_16, ha4_16, ha5_16, by omega, by omega⟩⟩
