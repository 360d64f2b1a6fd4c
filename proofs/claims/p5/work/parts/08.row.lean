abbrev b_Math_min : ByteArray := prog_17_method_69_code
abbrev y_Math_min : MethodName := ⟨"java/lang/Math", "min", "(II)I"⟩
set_option maxRecDepth 100000 in
theorem cal_Math_min : CalS gd_tbl y_Math_min b_Math_min 2 (some .int) 2 := ⟨⟨List.mem_filter.mpr ⟨List.mem_of_getElem? (i := 260) rfl, rfl⟩, List.mem_filter.mpr ⟨List.mem_of_getElem? (i := 69) rfl, rfl⟩, ⟨by decide, by decide⟩, by decide +kernel⟩, List.mem_filter.mpr ⟨List.mem_of_getElem? (i := 259) rfl, rfl⟩⟩
theorem d_Math_min_0 : decode b_Math_min 0 = .ok (.iload_n 0, 1) := by decide +kernel
theorem d_Math_min_1 : decode b_Math_min 1 = .ok (.iload_n 1, 1) := by decide +kernel
theorem d_Math_min_2 : decode b_Math_min 2 = .ok (.if_icmp .gt 7, 3) := by decide +kernel
theorem d_Math_min_5 : decode b_Math_min 5 = .ok (.iload_n 0, 1) := by decide +kernel
theorem d_Math_min_6 : decode b_Math_min 6 = .ok (.goto 4, 3) := by decide +kernel
theorem d_Math_min_9 : decode b_Math_min 9 = .ok (.iload_n 1, 1) := by decide +kernel
theorem d_Math_min_10 : decode b_Math_min 10 = .ok (.ireturn, 1) := by decide +kernel
abbrev b_Math_max : ByteArray := prog_17_method_65_code
abbrev y_Math_max : MethodName := ⟨"java/lang/Math", "max", "(II)I"⟩
set_option maxRecDepth 100000 in
theorem cal_Math_max : CalS gd_tbl y_Math_max b_Math_max 2 (some .int) 2 := ⟨⟨List.mem_filter.mpr ⟨List.mem_of_getElem? (i := 257) rfl, rfl⟩, List.mem_filter.mpr ⟨List.mem_of_getElem? (i := 69) rfl, rfl⟩, ⟨by decide, by decide⟩, by decide +kernel⟩, List.mem_filter.mpr ⟨List.mem_of_getElem? (i := 256) rfl, rfl⟩⟩
theorem d_Math_max_0 : decode b_Math_max 0 = .ok (.iload_n 0, 1) := by decide +kernel
theorem d_Math_max_1 : decode b_Math_max 1 = .ok (.iload_n 1, 1) := by decide +kernel
theorem d_Math_max_2 : decode b_Math_max 2 = .ok (.if_icmp .lt 7, 3) := by decide +kernel
theorem d_Math_max_5 : decode b_Math_max 5 = .ok (.iload_n 0, 1) := by decide +kernel
theorem d_Math_max_6 : decode b_Math_max 6 = .ok (.goto 4, 3) := by decide +kernel
theorem d_Math_max_9 : decode b_Math_max 9 = .ok (.iload_n 1, 1) := by decide +kernel
theorem d_Math_max_10 : decode b_Math_max 10 = .ok (.ireturn, 1) := by decide +kernel
abbrev b_Arrs_copyOf : ByteArray := prog_22_method_121_code
abbrev y_Arrs_copyOf : MethodName := ⟨"java/util/Arrays", "copyOf", "([BI)[B"⟩
set_option maxRecDepth 100000 in
theorem cal_Arrs_copyOf : CalS gd_tbl y_Arrs_copyOf b_Arrs_copyOf 3 (some (.array .byte)) 2 := ⟨⟨List.mem_filter.mpr ⟨List.mem_of_getElem? (i := 263) rfl, rfl⟩, List.mem_filter.mpr ⟨List.mem_of_getElem? (i := 70) rfl, rfl⟩, ⟨by decide, by decide⟩, by decide +kernel⟩, List.mem_filter.mpr ⟨List.mem_of_getElem? (i := 262) rfl, rfl⟩⟩
theorem d_Arrs_copyOf_0 : decode b_Arrs_copyOf 0 = .ok (.iload_n 1, 1) := by decide +kernel
theorem d_Arrs_copyOf_1 : decode b_Arrs_copyOf 1 = .ok (.aload_n 0, 1) := by decide +kernel
theorem d_Arrs_copyOf_2 : decode b_Arrs_copyOf 2 = .ok (.arraylength, 1) := by decide +kernel
theorem d_Arrs_copyOf_3 : decode b_Arrs_copyOf 3 = .ok (.if_icmp .ne 11, 3) := by decide +kernel
theorem d_Arrs_copyOf_6 : decode b_Arrs_copyOf 6 = .ok (.aload_n 0, 1) := by decide +kernel
theorem d_Arrs_copyOf_7 : decode b_Arrs_copyOf 7 = .ok (.invokevirtual 310, 3) := by decide +kernel
theorem d_Arrs_copyOf_10 : decode b_Arrs_copyOf 10 = .ok (.checkcast 311, 3) := by decide +kernel
theorem d_Arrs_copyOf_13 : decode b_Arrs_copyOf 13 = .ok (.areturn, 1) := by decide +kernel
theorem d_Arrs_copyOf_14 : decode b_Arrs_copyOf 14 = .ok (.iload_n 1, 1) := by decide +kernel
theorem d_Arrs_copyOf_15 : decode b_Arrs_copyOf 15 = .ok (.newarray .byte, 2) := by decide +kernel
theorem d_Arrs_copyOf_17 : decode b_Arrs_copyOf 17 = .ok (.astore_n 2, 1) := by decide +kernel
theorem d_Arrs_copyOf_18 : decode b_Arrs_copyOf 18 = .ok (.aload_n 0, 1) := by decide +kernel
theorem d_Arrs_copyOf_19 : decode b_Arrs_copyOf 19 = .ok (.iconst 0, 1) := by decide +kernel
theorem d_Arrs_copyOf_20 : decode b_Arrs_copyOf 20 = .ok (.aload_n 2, 1) := by decide +kernel
theorem d_Arrs_copyOf_21 : decode b_Arrs_copyOf 21 = .ok (.iconst 0, 1) := by decide +kernel
theorem d_Arrs_copyOf_22 : decode b_Arrs_copyOf 22 = .ok (.aload_n 0, 1) := by decide +kernel
theorem d_Arrs_copyOf_23 : decode b_Arrs_copyOf 23 = .ok (.arraylength, 1) := by decide +kernel
theorem d_Arrs_copyOf_24 : decode b_Arrs_copyOf 24 = .ok (.iload_n 1, 1) := by decide +kernel
theorem d_Arrs_copyOf_25 : decode b_Arrs_copyOf 25 = .ok (.invokestatic 304, 3) := by decide +kernel
theorem d_Arrs_copyOf_28 : decode b_Arrs_copyOf 28 = .ok (.invokestatic 150, 3) := by decide +kernel
theorem d_Arrs_copyOf_31 : decode b_Arrs_copyOf 31 = .ok (.aload_n 2, 1) := by decide +kernel
theorem d_Arrs_copyOf_32 : decode b_Arrs_copyOf 32 = .ok (.areturn, 1) := by decide +kernel
abbrev b_Arrs_copyOf_III : ByteArray := prog_22_method_123_code
abbrev y_Arrs_copyOf_III : MethodName := ⟨"java/util/Arrays", "copyOf", "([II)[I"⟩
set_option maxRecDepth 100000 in
theorem cal_Arrs_copyOf_III : CalS gd_tbl y_Arrs_copyOf_III b_Arrs_copyOf_III 3 (some (.array .int)) 2 := ⟨⟨List.mem_filter.mpr ⟨List.mem_of_getElem? (i := 546) rfl, rfl⟩, List.mem_filter.mpr ⟨List.mem_of_getElem? (i := 70) rfl, rfl⟩, ⟨by decide, by decide⟩, by decide +kernel⟩, List.mem_filter.mpr ⟨List.mem_of_getElem? (i := 545) rfl, rfl⟩⟩
theorem d_Arrs_copyOf_III_0 : decode b_Arrs_copyOf_III 0 = .ok (.iload_n 1, 1) := by decide +kernel
theorem d_Arrs_copyOf_III_1 : decode b_Arrs_copyOf_III 1 = .ok (.aload_n 0, 1) := by decide +kernel
theorem d_Arrs_copyOf_III_2 : decode b_Arrs_copyOf_III 2 = .ok (.arraylength, 1) := by decide +kernel
theorem d_Arrs_copyOf_III_3 : decode b_Arrs_copyOf_III 3 = .ok (.if_icmp .ne 11, 3) := by decide +kernel
theorem d_Arrs_copyOf_III_6 : decode b_Arrs_copyOf_III 6 = .ok (.aload_n 0, 1) := by decide +kernel
theorem d_Arrs_copyOf_III_7 : decode b_Arrs_copyOf_III 7 = .ok (.invokevirtual 316, 3) := by decide +kernel
theorem d_Arrs_copyOf_III_10 : decode b_Arrs_copyOf_III 10 = .ok (.checkcast 317, 3) := by decide +kernel
theorem d_Arrs_copyOf_III_13 : decode b_Arrs_copyOf_III 13 = .ok (.areturn, 1) := by decide +kernel
theorem d_Arrs_copyOf_III_14 : decode b_Arrs_copyOf_III 14 = .ok (.iload_n 1, 1) := by decide +kernel
theorem d_Arrs_copyOf_III_15 : decode b_Arrs_copyOf_III 15 = .ok (.newarray .int, 2) := by decide +kernel
theorem d_Arrs_copyOf_III_17 : decode b_Arrs_copyOf_III 17 = .ok (.astore_n 2, 1) := by decide +kernel
theorem d_Arrs_copyOf_III_18 : decode b_Arrs_copyOf_III 18 = .ok (.aload_n 0, 1) := by decide +kernel
theorem d_Arrs_copyOf_III_19 : decode b_Arrs_copyOf_III 19 = .ok (.iconst 0, 1) := by decide +kernel
theorem d_Arrs_copyOf_III_20 : decode b_Arrs_copyOf_III 20 = .ok (.aload_n 2, 1) := by decide +kernel
theorem d_Arrs_copyOf_III_21 : decode b_Arrs_copyOf_III 21 = .ok (.iconst 0, 1) := by decide +kernel
theorem d_Arrs_copyOf_III_22 : decode b_Arrs_copyOf_III 22 = .ok (.aload_n 0, 1) := by decide +kernel
theorem d_Arrs_copyOf_III_23 : decode b_Arrs_copyOf_III 23 = .ok (.arraylength, 1) := by decide +kernel
theorem d_Arrs_copyOf_III_24 : decode b_Arrs_copyOf_III 24 = .ok (.iload_n 1, 1) := by decide +kernel
theorem d_Arrs_copyOf_III_25 : decode b_Arrs_copyOf_III 25 = .ok (.invokestatic 304, 3) := by decide +kernel
theorem d_Arrs_copyOf_III_28 : decode b_Arrs_copyOf_III 28 = .ok (.invokestatic 150, 3) := by decide +kernel
theorem d_Arrs_copyOf_III_31 : decode b_Arrs_copyOf_III 31 = .ok (.aload_n 2, 1) := by decide +kernel
theorem d_Arrs_copyOf_III_32 : decode b_Arrs_copyOf_III 32 = .ok (.areturn, 1) := by decide +kernel
abbrev b_By_makeRoom : ByteArray := prog_2_method_9_code
abbrev y_By_makeRoom : MethodName := ⟨"CharOutlines$Bytes", "makeRoom", "(I)V"⟩
set_option maxRecDepth 100000 in
theorem cal_By_makeRoom : CalV gd_tbl "CharOutlines$Bytes" y_By_makeRoom b_By_makeRoom 2 none 1 := ⟨⟨List.mem_filter.mpr ⟨List.mem_of_getElem? (i := 254) rfl, rfl⟩, List.mem_filter.mpr ⟨List.mem_of_getElem? (i := 61) rfl, rfl⟩, ⟨by decide, by decide⟩, by decide +kernel⟩, List.mem_filter.mpr ⟨List.mem_of_getElem? (i := 253) rfl, rfl⟩, List.mem_filter.mpr ⟨List.mem_of_getElem? (i := 0) rfl, rfl⟩⟩
theorem d_By_makeRoom_0 : decode b_By_makeRoom 0 = .ok (.iload_n 1, 1) := by decide +kernel
theorem d_By_makeRoom_1 : decode b_By_makeRoom 1 = .ok (.aload_n 0, 1) := by decide +kernel
theorem d_By_makeRoom_2 : decode b_By_makeRoom 2 = .ok (.getfield 11, 3) := by decide +kernel
theorem d_By_makeRoom_5 : decode b_By_makeRoom 5 = .ok (.arraylength, 1) := by decide +kernel
theorem d_By_makeRoom_6 : decode b_By_makeRoom 6 = .ok (.if_icmp .le 38, 3) := by decide +kernel
theorem d_By_makeRoom_9 : decode b_By_makeRoom 9 = .ok (.iload_n 1, 1) := by decide +kernel
theorem d_By_makeRoom_10 : decode b_By_makeRoom 10 = .ok (.sipush 16384, 3) := by decide +kernel
theorem d_By_makeRoom_13 : decode b_By_makeRoom 13 = .ok (.if_icmp .gt 31, 3) := by decide +kernel
theorem d_By_makeRoom_16 : decode b_By_makeRoom 16 = .ok (.aload_n 0, 1) := by decide +kernel
theorem d_By_makeRoom_17 : decode b_By_makeRoom 17 = .ok (.aload_n 0, 1) := by decide +kernel
theorem d_By_makeRoom_18 : decode b_By_makeRoom 18 = .ok (.getfield 11, 3) := by decide +kernel
theorem d_By_makeRoom_21 : decode b_By_makeRoom 21 = .ok (.sipush 16384, 3) := by decide +kernel
theorem d_By_makeRoom_24 : decode b_By_makeRoom 24 = .ok (.iload_n 1, 1) := by decide +kernel
theorem d_By_makeRoom_25 : decode b_By_makeRoom 25 = .ok (.iconst 2, 1) := by decide +kernel
theorem d_By_makeRoom_26 : decode b_By_makeRoom 26 = .ok (.aload_n 0, 1) := by decide +kernel
theorem d_By_makeRoom_27 : decode b_By_makeRoom 27 = .ok (.getfield 11, 3) := by decide +kernel
theorem d_By_makeRoom_30 : decode b_By_makeRoom 30 = .ok (.arraylength, 1) := by decide +kernel
theorem d_By_makeRoom_31 : decode b_By_makeRoom 31 = .ok (.imul, 1) := by decide +kernel
theorem d_By_makeRoom_32 : decode b_By_makeRoom 32 = .ok (.invokestatic 35, 3) := by decide +kernel
theorem d_By_makeRoom_35 : decode b_By_makeRoom 35 = .ok (.invokestatic 41, 3) := by decide +kernel
theorem d_By_makeRoom_38 : decode b_By_makeRoom 38 = .ok (.invokestatic 44, 3) := by decide +kernel
theorem d_By_makeRoom_41 : decode b_By_makeRoom 41 = .ok (.putfield 11, 3) := by decide +kernel
theorem d_By_makeRoom_44 : decode b_By_makeRoom 44 = .ok (.return_, 1) := by decide +kernel
abbrev b_By_append : ByteArray := prog_2_method_5_code
abbrev y_By_append : MethodName := ⟨"CharOutlines$Bytes", "append", "(I)V"⟩
set_option maxRecDepth 100000 in
theorem cal_By_append : CalV gd_tbl "CharOutlines$Bytes" y_By_append b_By_append 3 none 1 := ⟨⟨List.mem_filter.mpr ⟨List.mem_of_getElem? (i := 250) rfl, rfl⟩, List.mem_filter.mpr ⟨List.mem_of_getElem? (i := 61) rfl, rfl⟩, ⟨by decide, by decide⟩, by decide +kernel⟩, List.mem_filter.mpr ⟨List.mem_of_getElem? (i := 248) rfl, rfl⟩, List.mem_filter.mpr ⟨List.mem_of_getElem? (i := 249) rfl, rfl⟩⟩
theorem d_By_append_0 : decode b_By_append 0 = .ok (.aload_n 0, 1) := by decide +kernel
theorem d_By_append_1 : decode b_By_append 1 = .ok (.getfield 15, 3) := by decide +kernel
theorem d_By_append_4 : decode b_By_append 4 = .ok (.iconst 4, 1) := by decide +kernel
theorem d_By_append_5 : decode b_By_append 5 = .ok (.iadd, 1) := by decide +kernel
theorem d_By_append_6 : decode b_By_append 6 = .ok (.istore_n 2, 1) := by decide +kernel
theorem d_By_append_7 : decode b_By_append 7 = .ok (.aload_n 0, 1) := by decide +kernel
theorem d_By_append_8 : decode b_By_append 8 = .ok (.iload_n 2, 1) := by decide +kernel
theorem d_By_append_9 : decode b_By_append 9 = .ok (.invokevirtual 25, 3) := by decide +kernel
theorem d_By_append_12 : decode b_By_append 12 = .ok (.iload_n 2, 1) := by decide +kernel
theorem d_By_append_13 : decode b_By_append 13 = .ok (.aload_n 0, 1) := by decide +kernel
theorem d_By_append_14 : decode b_By_append 14 = .ok (.getfield 11, 3) := by decide +kernel
theorem d_By_append_17 : decode b_By_append 17 = .ok (.arraylength, 1) := by decide +kernel
theorem d_By_append_18 : decode b_By_append 18 = .ok (.if_icmp .le 4, 3) := by decide +kernel
theorem d_By_append_21 : decode b_By_append 21 = .ok (.return_, 1) := by decide +kernel
theorem d_By_append_22 : decode b_By_append 22 = .ok (.aload_n 0, 1) := by decide +kernel
theorem d_By_append_23 : decode b_By_append 23 = .ok (.getfield 11, 3) := by decide +kernel
theorem d_By_append_26 : decode b_By_append 26 = .ok (.aload_n 0, 1) := by decide +kernel
theorem d_By_append_27 : decode b_By_append 27 = .ok (.getfield 15, 3) := by decide +kernel
theorem d_By_append_30 : decode b_By_append 30 = .ok (.iload_n 1, 1) := by decide +kernel
theorem d_By_append_31 : decode b_By_append 31 = .ok (.bipush 24, 2) := by decide +kernel
theorem d_By_append_33 : decode b_By_append 33 = .ok (.ishr, 1) := by decide +kernel
theorem d_By_append_34 : decode b_By_append 34 = .ok (.i2b, 1) := by decide +kernel
theorem d_By_append_35 : decode b_By_append 35 = .ok (.bastore, 1) := by decide +kernel
theorem d_By_append_36 : decode b_By_append 36 = .ok (.aload_n 0, 1) := by decide +kernel
theorem d_By_append_37 : decode b_By_append 37 = .ok (.getfield 11, 3) := by decide +kernel
theorem d_By_append_40 : decode b_By_append 40 = .ok (.aload_n 0, 1) := by decide +kernel
theorem d_By_append_41 : decode b_By_append 41 = .ok (.getfield 15, 3) := by decide +kernel
theorem d_By_append_44 : decode b_By_append 44 = .ok (.iconst 1, 1) := by decide +kernel
theorem d_By_append_45 : decode b_By_append 45 = .ok (.iadd, 1) := by decide +kernel
theorem d_By_append_46 : decode b_By_append 46 = .ok (.iload_n 1, 1) := by decide +kernel
theorem d_By_append_47 : decode b_By_append 47 = .ok (.bipush 16, 2) := by decide +kernel
theorem d_By_append_49 : decode b_By_append 49 = .ok (.ishr, 1) := by decide +kernel
theorem d_By_append_50 : decode b_By_append 50 = .ok (.i2b, 1) := by decide +kernel
theorem d_By_append_51 : decode b_By_append 51 = .ok (.bastore, 1) := by decide +kernel
theorem d_By_append_52 : decode b_By_append 52 = .ok (.aload_n 0, 1) := by decide +kernel
theorem d_By_append_53 : decode b_By_append 53 = .ok (.getfield 11, 3) := by decide +kernel
theorem d_By_append_56 : decode b_By_append 56 = .ok (.aload_n 0, 1) := by decide +kernel
theorem d_By_append_57 : decode b_By_append 57 = .ok (.getfield 15, 3) := by decide +kernel
theorem d_By_append_60 : decode b_By_append 60 = .ok (.iconst 2, 1) := by decide +kernel
theorem d_By_append_61 : decode b_By_append 61 = .ok (.iadd, 1) := by decide +kernel
theorem d_By_append_62 : decode b_By_append 62 = .ok (.iload_n 1, 1) := by decide +kernel
theorem d_By_append_63 : decode b_By_append 63 = .ok (.bipush 8, 2) := by decide +kernel
theorem d_By_append_65 : decode b_By_append 65 = .ok (.ishr, 1) := by decide +kernel
theorem d_By_append_66 : decode b_By_append 66 = .ok (.i2b, 1) := by decide +kernel
theorem d_By_append_67 : decode b_By_append 67 = .ok (.bastore, 1) := by decide +kernel
theorem d_By_append_68 : decode b_By_append 68 = .ok (.aload_n 0, 1) := by decide +kernel
theorem d_By_append_69 : decode b_By_append 69 = .ok (.getfield 11, 3) := by decide +kernel
theorem d_By_append_72 : decode b_By_append 72 = .ok (.aload_n 0, 1) := by decide +kernel
theorem d_By_append_73 : decode b_By_append 73 = .ok (.getfield 15, 3) := by decide +kernel
theorem d_By_append_76 : decode b_By_append 76 = .ok (.iconst 3, 1) := by decide +kernel
theorem d_By_append_77 : decode b_By_append 77 = .ok (.iadd, 1) := by decide +kernel
theorem d_By_append_78 : decode b_By_append 78 = .ok (.iload_n 1, 1) := by decide +kernel
theorem d_By_append_79 : decode b_By_append 79 = .ok (.i2b, 1) := by decide +kernel
theorem d_By_append_80 : decode b_By_append 80 = .ok (.bastore, 1) := by decide +kernel
theorem d_By_append_81 : decode b_By_append 81 = .ok (.aload_n 0, 1) := by decide +kernel
theorem d_By_append_82 : decode b_By_append 82 = .ok (.iload_n 2, 1) := by decide +kernel
theorem d_By_append_83 : decode b_By_append 83 = .ok (.putfield 15, 3) := by decide +kernel
theorem d_By_append_86 : decode b_By_append 86 = .ok (.return_, 1) := by decide +kernel
abbrev b_By_number : ByteArray := prog_2_method_4_code
abbrev y_By_number : MethodName := ⟨"CharOutlines$Bytes", "number", "(II)J"⟩
set_option maxRecDepth 100000 in
theorem cal_By_number : CalV gd_tbl "CharOutlines$Bytes" y_By_number b_By_number 6 (some .long) 2 := ⟨⟨List.mem_filter.mpr ⟨List.mem_of_getElem? (i := 432) rfl, rfl⟩, List.mem_filter.mpr ⟨List.mem_of_getElem? (i := 61) rfl, rfl⟩, ⟨by decide, by decide⟩, by decide +kernel⟩, List.mem_filter.mpr ⟨List.mem_of_getElem? (i := 430) rfl, rfl⟩, List.mem_filter.mpr ⟨List.mem_of_getElem? (i := 431) rfl, rfl⟩⟩
theorem d_By_number_0 : decode b_By_number 0 = .ok (.lconst 0, 1) := by decide +kernel
theorem d_By_number_1 : decode b_By_number 1 = .ok (.lstore_n 3, 1) := by decide +kernel
theorem d_By_number_2 : decode b_By_number 2 = .ok (.iconst 0, 1) := by decide +kernel
theorem d_By_number_3 : decode b_By_number 3 = .ok (.istore 5, 2) := by decide +kernel
theorem d_By_number_5 : decode b_By_number 5 = .ok (.iload 5, 2) := by decide +kernel
theorem d_By_number_7 : decode b_By_number 7 = .ok (.iload_n 2, 1) := by decide +kernel
theorem d_By_number_8 : decode b_By_number 8 = .ok (.if_icmp .ge 25, 3) := by decide +kernel
theorem d_By_number_11 : decode b_By_number 11 = .ok (.lload_n 3, 1) := by decide +kernel
theorem d_By_number_12 : decode b_By_number 12 = .ok (.ldc2_w 19, 3) := by decide +kernel
theorem d_By_number_15 : decode b_By_number 15 = .ok (.lmul, 1) := by decide +kernel
theorem d_By_number_16 : decode b_By_number 16 = .ok (.aload_n 0, 1) := by decide +kernel
theorem d_By_number_17 : decode b_By_number 17 = .ok (.iload_n 1, 1) := by decide +kernel
theorem d_By_number_18 : decode b_By_number 18 = .ok (.iload 5, 2) := by decide +kernel
theorem d_By_number_20 : decode b_By_number 20 = .ok (.iadd, 1) := by decide +kernel
theorem d_By_number_21 : decode b_By_number 21 = .ok (.invokevirtual 21, 3) := by decide +kernel
theorem d_By_number_24 : decode b_By_number 24 = .ok (.i2l, 1) := by decide +kernel
theorem d_By_number_25 : decode b_By_number 25 = .ok (.ladd, 1) := by decide +kernel
theorem d_By_number_26 : decode b_By_number 26 = .ok (.lstore_n 3, 1) := by decide +kernel
theorem d_By_number_27 : decode b_By_number 27 = .ok (.iinc 5 1, 3) := by decide +kernel
theorem d_By_number_30 : decode b_By_number 30 = .ok (.goto (-25), 3) := by decide +kernel
theorem d_By_number_33 : decode b_By_number 33 = .ok (.lload_n 3, 1) := by decide +kernel
theorem d_By_number_34 : decode b_By_number 34 = .ok (.lreturn, 1) := by decide +kernel
abbrev b_By_copy : ByteArray := prog_2_method_8_code
abbrev y_By_copy : MethodName := ⟨"CharOutlines$Bytes", "copy", "(LCharOutlines$Bytes;)V"⟩
set_option maxRecDepth 100000 in
theorem cal_By_copy : CalV gd_tbl "CharOutlines$Bytes" y_By_copy b_By_copy 2 none 1 := ⟨⟨List.mem_filter.mpr ⟨List.mem_of_getElem? (i := 441) rfl, rfl⟩, List.mem_filter.mpr ⟨List.mem_of_getElem? (i := 61) rfl, rfl⟩, ⟨by decide, by decide⟩, by decide +kernel⟩, List.mem_filter.mpr ⟨List.mem_of_getElem? (i := 439) rfl, rfl⟩, List.mem_filter.mpr ⟨List.mem_of_getElem? (i := 440) rfl, rfl⟩⟩
theorem d_By_copy_0 : decode b_By_copy 0 = .ok (.aload_n 0, 1) := by decide +kernel
theorem d_By_copy_1 : decode b_By_copy 1 = .ok (.aload_n 1, 1) := by decide +kernel
theorem d_By_copy_2 : decode b_By_copy 2 = .ok (.getfield 15, 3) := by decide +kernel
theorem d_By_copy_5 : decode b_By_copy 5 = .ok (.invokevirtual 25, 3) := by decide +kernel
theorem d_By_copy_8 : decode b_By_copy 8 = .ok (.aload_n 1, 1) := by decide +kernel
theorem d_By_copy_9 : decode b_By_copy 9 = .ok (.getfield 15, 3) := by decide +kernel
theorem d_By_copy_12 : decode b_By_copy 12 = .ok (.aload_n 0, 1) := by decide +kernel
theorem d_By_copy_13 : decode b_By_copy 13 = .ok (.getfield 11, 3) := by decide +kernel
theorem d_By_copy_16 : decode b_By_copy 16 = .ok (.arraylength, 1) := by decide +kernel
theorem d_By_copy_17 : decode b_By_copy 17 = .ok (.if_icmp .gt 28, 3) := by decide +kernel
theorem d_By_copy_20 : decode b_By_copy 20 = .ok (.aload_n 1, 1) := by decide +kernel
theorem d_By_copy_21 : decode b_By_copy 21 = .ok (.getfield 11, 3) := by decide +kernel
theorem d_By_copy_24 : decode b_By_copy 24 = .ok (.iconst 0, 1) := by decide +kernel
theorem d_By_copy_25 : decode b_By_copy 25 = .ok (.aload_n 0, 1) := by decide +kernel
theorem d_By_copy_26 : decode b_By_copy 26 = .ok (.getfield 11, 3) := by decide +kernel
theorem d_By_copy_29 : decode b_By_copy 29 = .ok (.iconst 0, 1) := by decide +kernel
theorem d_By_copy_30 : decode b_By_copy 30 = .ok (.aload_n 1, 1) := by decide +kernel
theorem d_By_copy_31 : decode b_By_copy 31 = .ok (.getfield 15, 3) := by decide +kernel
theorem d_By_copy_34 : decode b_By_copy 34 = .ok (.invokestatic 29, 3) := by decide +kernel
theorem d_By_copy_37 : decode b_By_copy 37 = .ok (.aload_n 0, 1) := by decide +kernel
theorem d_By_copy_38 : decode b_By_copy 38 = .ok (.aload_n 1, 1) := by decide +kernel
theorem d_By_copy_39 : decode b_By_copy 39 = .ok (.getfield 15, 3) := by decide +kernel
theorem d_By_copy_42 : decode b_By_copy 42 = .ok (.putfield 15, 3) := by decide +kernel
theorem d_By_copy_45 : decode b_By_copy 45 = .ok (.return_, 1) := by decide +kernel
set_option maxRecDepth 100000 in
theorem kl_By_19 : (Jvm.Cond.constantLong "CharOutlines$Bytes" (19 : Nat) (256 : Int64)) ∈ gd_tbl := List.mem_filter.mpr ⟨List.mem_of_getElem? (i := 433) rfl, rfl⟩
set_option maxRecDepth 100000 in
theorem ml_Arrs_150 : (Jvm.Cond.methodLink "java/util/Arrays" (150 : Nat) ({ cls := "java/lang/System", name := "arraycopy", desc := "(Ljava/lang/Object;ILjava/lang/Object;II)V" } : Jvm.MethodName)) ∈ gd_tbl := List.mem_filter.mpr ⟨List.mem_of_getElem? (i := 272) rfl, rfl⟩
set_option maxRecDepth 100000 in
theorem ml_Arrs_304 : (Jvm.Cond.methodLink "java/util/Arrays" (304 : Nat) ({ cls := "java/lang/Math", name := "min", desc := "(II)I" } : Jvm.MethodName)) ∈ gd_tbl := List.mem_filter.mpr ⟨List.mem_of_getElem? (i := 271) rfl, rfl⟩
set_option maxRecDepth 100000 in
theorem ml_By_21 : (Jvm.Cond.methodLink "CharOutlines$Bytes" (21 : Nat) ({ cls := "CharOutlines$Bytes", name := "at", desc := "(I)I" } : Jvm.MethodName)) ∈ gd_tbl := List.mem_filter.mpr ⟨List.mem_of_getElem? (i := 386) rfl, rfl⟩
set_option maxRecDepth 100000 in
theorem ml_By_25 : (Jvm.Cond.methodLink "CharOutlines$Bytes" (25 : Nat) ({ cls := "CharOutlines$Bytes", name := "makeRoom", desc := "(I)V" } : Jvm.MethodName)) ∈ gd_tbl := List.mem_filter.mpr ⟨List.mem_of_getElem? (i := 251) rfl, rfl⟩
set_option maxRecDepth 100000 in
theorem ml_By_29 : (Jvm.Cond.methodLink "CharOutlines$Bytes" (29 : Nat) ({ cls := "java/lang/System", name := "arraycopy", desc := "(Ljava/lang/Object;ILjava/lang/Object;II)V" } : Jvm.MethodName)) ∈ gd_tbl := List.mem_filter.mpr ⟨List.mem_of_getElem? (i := 442) rfl, rfl⟩
set_option maxRecDepth 100000 in
theorem ml_By_35 : (Jvm.Cond.methodLink "CharOutlines$Bytes" (35 : Nat) ({ cls := "java/lang/Math", name := "max", desc := "(II)I" } : Jvm.MethodName)) ∈ gd_tbl := List.mem_filter.mpr ⟨List.mem_of_getElem? (i := 255) rfl, rfl⟩
set_option maxRecDepth 100000 in
theorem ml_By_41 : (Jvm.Cond.methodLink "CharOutlines$Bytes" (41 : Nat) ({ cls := "java/lang/Math", name := "min", desc := "(II)I" } : Jvm.MethodName)) ∈ gd_tbl := List.mem_filter.mpr ⟨List.mem_of_getElem? (i := 258) rfl, rfl⟩
set_option maxRecDepth 100000 in
theorem ml_By_44 : (Jvm.Cond.methodLink "CharOutlines$Bytes" (44 : Nat) ({ cls := "java/util/Arrays", name := "copyOf", desc := "([BI)[B" } : Jvm.MethodName)) ∈ gd_tbl := List.mem_filter.mpr ⟨List.mem_of_getElem? (i := 261) rfl, rfl⟩
set_option maxRecDepth 100000 in
theorem sy_initialized : (Jvm.Cond.initialized "java/lang/System") ∈ gd_tbl := List.mem_filter.mpr ⟨List.mem_of_getElem? (i := 71) rfl, rfl⟩
set_option maxRecDepth 100000 in
theorem sy_native : (Jvm.Cond.native ({ cls := "java/lang/System", name := "arraycopy", desc := "(Ljava/lang/Object;ILjava/lang/Object;II)V" } : Jvm.MethodName)) ∈ gd_tbl := List.mem_filter.mpr ⟨List.mem_of_getElem? (i := 274) rfl, rfl⟩
set_option maxRecDepth 100000 in
theorem sy_static : (Jvm.Cond.static ({ cls := "java/lang/System", name := "arraycopy", desc := "(Ljava/lang/Object;ILjava/lang/Object;II)V" } : Jvm.MethodName)) ∈ gd_tbl := List.mem_filter.mpr ⟨List.mem_of_getElem? (i := 273) rfl, rfl⟩
set_option maxHeartbeats 1000000 in
set_option maxRecDepth 100000 in
theorem c_Math_min (l : Launch) (D : va_G) (cB cI cJ : ClassId) (x y : Int32) : Ro l D classes (TY cB cI cJ) gd_tbl nx_tbl y_Math_min b_Math_min 2 (some .int) ({ frames := 0, cells := 0, slots := 0, locals := 0 }) [.int x, .int y] [] (fun v => v = .int (iMin x y)) := by
  refine Ro.intro (by decide +kernel) nx_ok (Nat.le_of_ble_eq_true rfl) ?_
  intro p_ e_ s_ m_ args_ below_ meth_ c_ A_ ls hx hb hml hown hts hr hlk hnm hZ hP hD hl
  have hl : lv_has ls 2 [(0, .int x), (1, .int y)] := hl
  refine lv_iload_n hx hb d_Math_min_0 rfl (lv_at hl 0 rfl) ?_
  refine lv_iload_n hx hb d_Math_min_1 rfl (lv_at hl 1 rfl) ?_
  refine lv_icmp_gt (tgt := 9) hx hb d_Math_min_2 (by decide) (fun c_2 => ?_) (fun c_2 => ?_)
  · refine lv_iload_n hx hb d_Math_min_9 rfl (lv_at hl 1 rfl) ?_
    exact r_iret hx hb hr hlk d_Math_min_10 (by unfold iMin; rw [if_neg (Int32.not_le.mpr c_2)])
  · refine lv_iload_n hx hb d_Math_min_5 rfl (lv_at hl 0 rfl) ?_
    refine lv_goto (tgt := 10) hx hb d_Math_min_6 (by decide) ?_
    exact r_iret hx hb hr hlk d_Math_min_10 (by unfold iMin; rw [if_pos (Int32.not_lt.mp c_2)])
set_option maxHeartbeats 1000000 in
set_option maxRecDepth 100000 in
theorem c_Math_max (l : Launch) (D : va_G) (cB cI cJ : ClassId) (x y : Int32) : Ro l D classes (TY cB cI cJ) gd_tbl nx_tbl y_Math_max b_Math_max 2 (some .int) ({ frames := 0, cells := 0, slots := 0, locals := 0 }) [.int x, .int y] [] (fun v => v = .int (iMax x y)) := by
  refine Ro.intro (by decide +kernel) nx_ok (Nat.le_of_ble_eq_true rfl) ?_
  intro p_ e_ s_ m_ args_ below_ meth_ c_ A_ ls hx hb hml hown hts hr hlk hnm hZ hP hD hl
  have hl : lv_has ls 2 [(0, .int x), (1, .int y)] := hl
  refine lv_iload_n hx hb d_Math_max_0 rfl (lv_at hl 0 rfl) ?_
  refine lv_iload_n hx hb d_Math_max_1 rfl (lv_at hl 1 rfl) ?_
  refine lv_icmp_lt (tgt := 9) hx hb d_Math_max_2 (by decide) (fun c_2 => ?_) (fun c_2 => ?_)
  · refine lv_iload_n hx hb d_Math_max_9 rfl (lv_at hl 1 rfl) ?_
    exact r_iret hx hb hr hlk d_Math_max_10 (by unfold iMax; rw [if_neg (Int32.not_le.mpr c_2)])
  · refine lv_iload_n hx hb d_Math_max_5 rfl (lv_at hl 0 rfl) ?_
    refine lv_goto (tgt := 10) hx hb d_Math_max_6 (by decide) ?_
    exact r_iret hx hb hr hlk d_Math_max_10 (by unfold iMax; rw [if_pos (Int32.not_lt.mp c_2)])
set_option maxHeartbeats 1000000 in
set_option maxRecDepth 100000 in
theorem c_copyOfB (l : Launch) (D : va_G) (cB cI cJ : ClassId) (a cap N : Nat) (f : Nat → Int32) (hf : sb_Fit f) (hc : cap < N) (hN : N ≤ 65536) : Tr l D classes (TY cB cI cJ) gd_tbl nx_tbl y_Arrs_copyOf b_Arrs_copyOf 3 (some (.array .byte)) ({ frames := 1, cells := 1, slots := N, locals := 21 }) [.ref a, .int (nI N)] [(a, .inl (cB, cap, .inl f))] (pR (fun r w k n => w = [(a, .inl (cB, cap, .inl f)), (r, .inl (cB, N, .inl (va_cpy f (fun _ => 0) 0 0 cap)))] ∧ k = 1 ∧ n = N)) := by
  refine Tr.intro (by decide +kernel) nx_ok (Nat.le_of_ble_eq_true rfl) ?_
  intro p_ e_ s_ m_ args_ below_ meth_ c_ A_ ls hx hb hml hown hts hr hlk hnm hZ hP hD hS hl
  have hl : lv_has ls 3 [(0, .ref a), (1, .int (nI N))] := hl
  refine lv_iload_n hx hb d_Arrs_copyOf_0 rfl (lv_at hl 1 rfl) ?_
  refine lv_aload_n hx hb d_Arrs_copyOf_1 rfl (lv_at hl 0 rfl) ?_
  refine va_alen (v := nI cap) hx hb hZ.1 hP 0 0 rfl rfl rfl d_Arrs_copyOf_2 ?_
  refine lv_icmp_ne (tgt := 14) hx hb d_Arrs_copyOf_3 (by decide) (fun c_3 => ?_) (fun c_3 => absurd c_3 (fun z => by have := (nI_eq (by omega) (by omega)).mp z; omega))
  refine lv_iload_n hx hb d_Arrs_copyOf_14 rfl (lv_at hl 1 rfl) ?_
  refine t_newa (atype := .byte) (a0 := (N, .inl (fun _ => 0))) (N' := N) hx hb (hts _ ar_B) rfl hZ.1 hP hD hS hZ.2.2.2 0 rfl (fun _ => rfl) (nI_pos (by omega)) (nI_clamp (by omega)) (by show N * 1 ≤ _; omega) (Nat.le_refl _) (by dsimp only; omega) d_Arrs_copyOf_15 (fun q15 H hP hD hS => ?_)
  have hP : va_P D classes [(a, .inl (cB, cap, .inl f)), (q15, .inl (cB, N, .inl (fun _ => 0)))] H := hP
  have hD : va_D A_ [(a, .inl (cB, cap, .inl f)), (q15, .inl (cB, N, .inl (fun _ => 0)))] := hD
  refine lv_astore_n (lv' := [(2, .ref q15), (0, .ref a), (1, .int (nI N))]) hx hb d_Arrs_copyOf_17 rfl hl (by decide) rfl (fun ls hl => ?_)
  refine lv_aload_n hx hb d_Arrs_copyOf_18 rfl (lv_at hl 1 rfl) ?_
  refine lv_iconst (v := 0) hx hb d_Arrs_copyOf_19 (by decide) ?_
  refine lv_aload_n hx hb d_Arrs_copyOf_20 rfl (lv_at hl 0 rfl) ?_
  refine lv_iconst (v := 0) hx hb d_Arrs_copyOf_21 (by decide) ?_
  refine lv_aload_n hx hb d_Arrs_copyOf_22 rfl (lv_at hl 1 rfl) ?_
  refine va_alen (v := nI cap) hx hb hZ.1 hP 0 0 rfl rfl rfl d_Arrs_copyOf_23 ?_
  refine lv_iload_n hx hb d_Arrs_copyOf_24 rfl (lv_at hl 2 rfl) ?_
  refine roS (As := [.int (nI cap), .int (nI N)]) (rest := [.int 0, .ref q15, .int 0, .ref a]) ⟨hx, hb, hml, hown, hts⟩ gd_good (c_Math_min l D cB cI cJ (nI cap) (nI N)) cal_Math_min ml_Arrs_304 ⟨Nat.le_of_ble_eq_true rfl, Nat.le_of_ble_eq_true rfl⟩ hZ hP hD (isC := []) ⟨rfl, rfl⟩ rfl hl.1 rfl (Nat.le_of_ble_eq_true rfl) d_Arrs_copyOf_25 ⟨by dsimp only; omega, by dsimp only; omega⟩ (fun v hv => ?_)
  subst hv
  refine lv_tv (y := nI cap) ((iMin_N (by omega) (by omega)).trans (by rw [Nat.min_eq_left (by omega)])) ?_
  refine va_copyi hx hb (by rw [hml]; exact hl.1.symm) hown (hts _ ml_Arrs_150) (hts _ sy_native) (hts _ sy_static) (hts _ sy_initialized) hZ.1 hP hD hS 0 1 0 0 rfl rfl rfl rfl rfl (by decide) (by decide) (nI_pos (by omega)) (by rw [show (nI cap).toNatClampNeg = cap from nI_clamp (by omega)]; show 0 + cap ≤ _; omega) (by rw [show (nI cap).toNatClampNeg = cap from nI_clamp (by omega)]; show 0 + cap ≤ _; omega) (fun i _ => hf _) (Nat.le_of_ble_eq_true rfl) (Nat.le_of_ble_eq_true rfl) d_Arrs_copyOf_28 (fun H locs hP hD hS => ?_)
  rw [show (nI cap).toNatClampNeg = cap from nI_clamp (by omega)] at hP hD
  have hP : va_P D classes [(a, .inl (cB, cap, .inl f)), (q15, .inl (cB, N, .inl (va_cpy f (fun _ => 0) 0 0 cap)))] H := hP
  have hD : va_D A_ [(a, .inl (cB, cap, .inl f)), (q15, .inl (cB, N, .inl (va_cpy f (fun _ => 0) 0 0 cap)))] := hD
  refine lv_aload_n hx hb d_Arrs_copyOf_31 rfl (lv_at hl 0 rfl) ?_
  exact t_aret hx hb hr (Or.inr ⟨_, rfl⟩) hlk d_Arrs_copyOf_32 (hP.subm (ws' := [(a, .inl (cB, cap, .inl f)), (q15, .inl (cB, N, .inl (va_cpy f (fun _ => 0) 0 0 cap)))]) [0, 1] rfl) (hD.sub (ws' := [(a, .inl (cB, cap, .inl f)), (q15, .inl (cB, N, .inl (va_cpy f (fun _ => 0) 0 0 cap)))]) [0, 1] rfl rfl) hS ⟨_, rfl, rfl, rfl, by omega⟩
set_option maxHeartbeats 1000000 in
set_option maxRecDepth 100000 in
theorem c_copyOfI (l : Launch) (D : va_G) (cB cI cJ : ClassId) (a cap N : Nat) (f : Nat → Int32) (hc : cap < N) (hN : N ≤ 65536) : Tr l D classes (TY cB cI cJ) gd_tbl nx_tbl y_Arrs_copyOf_III b_Arrs_copyOf_III 3 (some (.array .int)) ({ frames := 1, cells := 1, slots := N, locals := 21 }) [.ref a, .int (nI N)] [(a, .inl (cI, cap, .inl f))] (pR (fun r w k n => w = [(a, .inl (cI, cap, .inl f)), (r, .inl (cI, N, .inl (va_cpy f (fun _ => 0) 0 0 cap)))] ∧ k = 1 ∧ n = N)) := by
  refine Tr.intro (by decide +kernel) nx_ok (Nat.le_of_ble_eq_true rfl) ?_
  intro p_ e_ s_ m_ args_ below_ meth_ c_ A_ ls hx hb hml hown hts hr hlk hnm hZ hP hD hS hl
  have hl : lv_has ls 3 [(0, .ref a), (1, .int (nI N))] := hl
  refine lv_iload_n hx hb d_Arrs_copyOf_III_0 rfl (lv_at hl 1 rfl) ?_
  refine lv_aload_n hx hb d_Arrs_copyOf_III_1 rfl (lv_at hl 0 rfl) ?_
  refine va_alen (v := nI cap) hx hb hZ.1 hP 0 1 rfl rfl rfl d_Arrs_copyOf_III_2 ?_
  refine lv_icmp_ne (tgt := 14) hx hb d_Arrs_copyOf_III_3 (by decide) (fun c_3 => ?_) (fun c_3 => absurd c_3 (fun z => by have := (nI_eq (by omega) (by omega)).mp z; omega))
  refine lv_iload_n hx hb d_Arrs_copyOf_III_14 rfl (lv_at hl 1 rfl) ?_
  refine t_newa (atype := .int) (a0 := (N, .inl (fun _ => 0))) (N' := N) hx hb (hts _ ar_I) rfl hZ.1 hP hD hS hZ.2.2.2 1 rfl (fun _ => rfl) (nI_pos (by omega)) (nI_clamp (by omega)) (by show N * 4 ≤ _; omega) (Nat.le_refl _) (by dsimp only; omega) d_Arrs_copyOf_III_15 (fun q15 H hP hD hS => ?_)
  have hP : va_P D classes [(a, .inl (cI, cap, .inl f)), (q15, .inl (cI, N, .inl (fun _ => 0)))] H := hP
  have hD : va_D A_ [(a, .inl (cI, cap, .inl f)), (q15, .inl (cI, N, .inl (fun _ => 0)))] := hD
  refine lv_astore_n (lv' := [(2, .ref q15), (0, .ref a), (1, .int (nI N))]) hx hb d_Arrs_copyOf_III_17 rfl hl (by decide) rfl (fun ls hl => ?_)
  refine lv_aload_n hx hb d_Arrs_copyOf_III_18 rfl (lv_at hl 1 rfl) ?_
  refine lv_iconst (v := 0) hx hb d_Arrs_copyOf_III_19 (by decide) ?_
  refine lv_aload_n hx hb d_Arrs_copyOf_III_20 rfl (lv_at hl 0 rfl) ?_
  refine lv_iconst (v := 0) hx hb d_Arrs_copyOf_III_21 (by decide) ?_
  refine lv_aload_n hx hb d_Arrs_copyOf_III_22 rfl (lv_at hl 1 rfl) ?_
  refine va_alen (v := nI cap) hx hb hZ.1 hP 0 1 rfl rfl rfl d_Arrs_copyOf_III_23 ?_
  refine lv_iload_n hx hb d_Arrs_copyOf_III_24 rfl (lv_at hl 2 rfl) ?_
  refine roS (As := [.int (nI cap), .int (nI N)]) (rest := [.int 0, .ref q15, .int 0, .ref a]) ⟨hx, hb, hml, hown, hts⟩ gd_good (c_Math_min l D cB cI cJ (nI cap) (nI N)) cal_Math_min ml_Arrs_304 ⟨Nat.le_of_ble_eq_true rfl, Nat.le_of_ble_eq_true rfl⟩ hZ hP hD (isC := []) ⟨rfl, rfl⟩ rfl hl.1 rfl (Nat.le_of_ble_eq_true rfl) d_Arrs_copyOf_III_25 ⟨by dsimp only; omega, by dsimp only; omega⟩ (fun v hv => ?_)
  subst hv
  refine lv_tv (y := nI cap) ((iMin_N (by omega) (by omega)).trans (by rw [Nat.min_eq_left (by omega)])) ?_
  refine va_copyi hx hb (by rw [hml]; exact hl.1.symm) hown (hts _ ml_Arrs_150) (hts _ sy_native) (hts _ sy_static) (hts _ sy_initialized) hZ.1 hP hD hS 0 1 1 1 rfl rfl rfl rfl rfl (by decide) (by decide) (nI_pos (by omega)) (by rw [show (nI cap).toNatClampNeg = cap from nI_clamp (by omega)]; show 0 + cap ≤ _; omega) (by rw [show (nI cap).toNatClampNeg = cap from nI_clamp (by omega)]; show 0 + cap ≤ _; omega) (fun i _ => rfl) (Nat.le_of_ble_eq_true rfl) (Nat.le_of_ble_eq_true rfl) d_Arrs_copyOf_III_28 (fun H locs hP hD hS => ?_)
  rw [show (nI cap).toNatClampNeg = cap from nI_clamp (by omega)] at hP hD
  have hP : va_P D classes [(a, .inl (cI, cap, .inl f)), (q15, .inl (cI, N, .inl (va_cpy f (fun _ => 0) 0 0 cap)))] H := hP
  have hD : va_D A_ [(a, .inl (cI, cap, .inl f)), (q15, .inl (cI, N, .inl (va_cpy f (fun _ => 0) 0 0 cap)))] := hD
  refine lv_aload_n hx hb d_Arrs_copyOf_III_31 rfl (lv_at hl 0 rfl) ?_
  exact t_aret hx hb hr (Or.inr ⟨_, rfl⟩) hlk d_Arrs_copyOf_III_32 (hP.subm (ws' := [(a, .inl (cI, cap, .inl f)), (q15, .inl (cI, N, .inl (va_cpy f (fun _ => 0) 0 0 cap)))]) [0, 1] rfl) (hD.sub (ws' := [(a, .inl (cI, cap, .inl f)), (q15, .inl (cI, N, .inl (va_cpy f (fun _ => 0) 0 0 cap)))]) [0, 1] rfl rfl) hS ⟨_, rfl, rfl, rfl, by omega⟩
set_option maxHeartbeats 1000000 in
set_option maxRecDepth 100000 in
theorem c_By_makeRoom (l : Launch) (D : va_G) (cB cI cJ : ClassId) (h a n cap : Nat) (f : Nat → Int32) (j : Nat) (hj : j ≤ 16384) (hn : n ≤ cap ∧ cap ≤ 16384) (hc : 64 ≤ cap) (hf : sb_Fit f) : Tr l D classes (TY cB cI cJ) gd_tbl nx_tbl y_By_makeRoom b_By_makeRoom 2 none ({ frames := 2, cells := gF cap, slots := gF cap, locals := 43 }) [.ref h, .int (nI j)] [(h, .inr (0, [.ref a, .int (nI n)])), (a, .inl (cB, cap, .inl f))] (pV (fun w k q => ∃ (a' cap' : Nat) (f' : Nat → Int32), w = [(h, .inr (0, [.ref a', .int (nI n)])), (a', .inl (cB, cap', .inl f'))] ∧ cap ≤ cap' ∧ cap' ≤ 16384 ∧ j ≤ cap' ∧ sb_Fit f' ∧ (∀ i, i < cap → f' i = f i) ∧ k ≤ q ∧ q + gF cap' ≤ gF cap)) := by
  refine Tr.intro (by decide +kernel) nx_ok (Nat.le_of_ble_eq_true rfl) ?_
  intro p_ e_ s_ m_ args_ below_ meth_ c_ A_ ls hx hb hml hown hts hr hlk hnm hZ hP hD hS hl
  have hl : lv_has ls 2 [(0, .ref h), (1, .int (nI j))] := hl
  refine lv_iload_n hx hb d_By_makeRoom_0 rfl (lv_at hl 1 rfl) ?_
  refine lv_aload_n hx hb d_By_makeRoom_1 rfl (lv_at hl 0 rfl) ?_
  refine va_get (D := D) (ci := 0) (v := .ref a) (C := R_By) (T := F_By) (N := 2) hx hb hts i_By hown hZ.1 hP 0 rfl rfl 0 (by decide) (hts _ fl_By_11) (fun _ h9 => h9) rfl d_By_makeRoom_2 ?_
  refine va_alen (v := nI cap) hx hb hZ.1 hP 1 0 rfl rfl rfl d_By_makeRoom_5 ?_
  refine lv_icmp_le (tgt := 44) hx hb d_By_makeRoom_6 (by decide) (fun c_6 => ?_) (fun c_6 => ?_)
  · have n_6 : (j) ≤ (cap) := (nI_leI (a := j) (b := cap) (by omega) (by omega)).mp c_6
    exact t_vret hx hb hr hlk d_By_makeRoom_44 (hP.subm (ws' := [(h, .inr (0, [.ref a, .int (nI n)])), (a, .inl (cB, cap, .inl f))]) [0, 1] rfl) (hD.sub (ws' := [(h, .inr (0, [.ref a, .int (nI n)])), (a, .inl (cB, cap, .inl f))]) [0, 1] rfl rfl) hS ⟨rfl, a, cap, f, rfl, Nat.le_refl _, by omega, by omega, hf, fun _ _ => rfl, by omega, by omega⟩
  · have n_6 : ¬ (j) ≤ (cap) := fun z => c_6 ((nI_leI (a := j) (b := cap) (by omega) (by omega)).mpr z)
    refine lv_iload_n hx hb d_By_makeRoom_9 rfl (lv_at hl 1 rfl) ?_
    refine lv_sipush (v := 16384) hx hb d_By_makeRoom_10 (by decide) ?_
    refine lv_icmp_gt (tgt := 44) hx hb d_By_makeRoom_13 (by decide) (fun c_13 => absurd c_13 (nI_nlt (b := 16384) (a := 16384) (Nat.le_refl _) (by omega) |> fun _ => fun z => absurd hj (by have := (nI_ltI (a := 16384) (by omega) (by omega)).mp z; omega))) (fun c_13 => ?_)
    refine lv_aload_n hx hb d_By_makeRoom_16 rfl (lv_at hl 0 rfl) ?_
    refine lv_aload_n hx hb d_By_makeRoom_17 rfl (lv_at hl 0 rfl) ?_
    refine va_get (D := D) (ci := 0) (v := .ref a) (C := R_By) (T := F_By) (N := 2) hx hb hts i_By hown hZ.1 hP 0 rfl rfl 0 (by decide) (hts _ fl_By_11) (fun _ h9 => h9) rfl d_By_makeRoom_18 ?_
    refine lv_sipush (v := 16384) hx hb d_By_makeRoom_21 (by decide) ?_
    refine lv_iload_n hx hb d_By_makeRoom_24 rfl (lv_at hl 1 rfl) ?_
    refine lv_iconst (v := 2) hx hb d_By_makeRoom_25 (by decide) ?_
    refine lv_aload_n hx hb d_By_makeRoom_26 rfl (lv_at hl 0 rfl) ?_
    refine va_get (D := D) (ci := 0) (v := .ref a) (C := R_By) (T := F_By) (N := 2) hx hb hts i_By hown hZ.1 hP 0 rfl rfl 0 (by decide) (hts _ fl_By_11) (fun _ h9 => h9) rfl d_By_makeRoom_27 ?_
    refine va_alen (v := nI cap) hx hb hZ.1 hP 1 0 rfl rfl rfl d_By_makeRoom_30 ?_
    refine lv_imul hx hb d_By_makeRoom_31 ?_
    refine lv_tv (y := nI (2 * cap)) (pk_mul 2 cap) ?_
    refine roS (As := [.int (nI j), .int (nI (2 * cap))]) (rest := [.int 16384, .ref a, .ref h]) ⟨hx, hb, hml, hown, hts⟩ gd_good (c_Math_max l D cB cI cJ (nI j) (nI (2 * cap))) cal_Math_max ml_By_35 ⟨Nat.le_of_ble_eq_true rfl, Nat.le_of_ble_eq_true rfl⟩ hZ hP hD (isC := []) ⟨rfl, rfl⟩ rfl hl.1 rfl (Nat.le_of_ble_eq_true rfl) d_By_makeRoom_32 ⟨by have hg := gF_grow (c := cap) (j := j) rfl (by omega); dsimp only; omega, by have hg := gF_grow (c := cap) (j := j) rfl (by omega); dsimp only; omega⟩ (fun v hv => ?_)
    subst hv
    refine lv_tv (y := nI (max j (2 * cap))) (iMax_N (by omega) (by omega)) ?_
    refine roS (As := [.int 16384, .int (nI (max j (2 * cap)))]) (rest := [.ref a, .ref h]) ⟨hx, hb, hml, hown, hts⟩ gd_good (c_Math_min l D cB cI cJ 16384 (nI (max j (2 * cap)))) cal_Math_min ml_By_41 ⟨Nat.le_of_ble_eq_true rfl, Nat.le_of_ble_eq_true rfl⟩ hZ hP hD (isC := []) ⟨rfl, rfl⟩ rfl hl.1 rfl (Nat.le_of_ble_eq_true rfl) d_By_makeRoom_35 ⟨by have hg := gF_grow (c := cap) (j := j) rfl (by omega); dsimp only; omega, by have hg := gF_grow (c := cap) (j := j) rfl (by omega); dsimp only; omega⟩ (fun v hv => ?_)
    subst hv
    refine lv_tv (y := nI (min 16384 (max j (2 * cap)))) (iMin_N (a := 16384) (by omega) (by omega)) ?_
    have hC : Cut [(h, .inr (0, [.ref a, .int (nI n)])), (a, .inl (cB, cap, .inl f))] [(a, .inl (cB, cap, .inl f))] [(h, .inr (0, [.ref a, .int (nI n)]))] [1] [0] := ⟨rfl, rfl, rfl, rfl, by decide⟩
    refine goR (trS (As := [.ref a, .int (nI (min 16384 (max j (2 * cap))))]) (rest := [.ref h]) ⟨hx, hb, hml, hown, hts⟩ gd_good (c_copyOfB l D cB cI cJ a cap (min 16384 (max j (2 * cap))) f hf (by omega) (by omega)) cal_Arrs_copyOf ml_By_44 ⟨Nat.le_of_ble_eq_true rfl, Nat.le_of_ble_eq_true rfl⟩ hZ hP hD hC rfl hl.1 rfl (Nat.le_of_ble_eq_true rfl) d_By_makeRoom_38 ⟨by have hg := gF_grow (c := cap) (j := j) rfl (by omega); dsimp only; omega, by have hg := gF_grow (c := cap) (j := j) rfl (by omega); dsimp only; omega⟩) hZ hP hD hS hC (fun r_38 w1 kk_38 qq_38 H locs hq hP hD hS => ?_)
    obtain ⟨rfl, rfl, rfl⟩ := hq
    have hP : va_P D classes [(h, .inr (0, [.ref a, .int (nI n)])), (a, .inl (cB, cap, .inl f)), (r_38, .inl (cB, (min 16384 (max j (2 * cap))), .inl (va_cpy f (fun _ => 0) 0 0 cap)))] H := hP
    have hD : va_D A_ [(h, .inr (0, [.ref a, .int (nI n)])), (a, .inl (cB, cap, .inl f)), (r_38, .inl (cB, (min 16384 (max j (2 * cap))), .inl (va_cpy f (fun _ => 0) 0 0 cap)))] := hD
    refine va_put (D := D) (ci := 0) (v := .ref r_38) (ty := .array .byte) (C := R_By) (T := F_By) (N := 2) hx hb hts i_By t_By t_By_ok n_By hown hZ.1 hP hD hS 0 rfl rfl 0 (by decide) (hts _ fl_By_11) (fun _ h9 => h9) rfl (by decide +kernel) rfl rfl (Nat.le_of_ble_eq_true rfl) d_By_makeRoom_41 (fun H locs hP hD hS => ?_)
    have hP : va_P D classes [(h, .inr (0, [.ref r_38, .int (nI n)])), (a, .inl (cB, cap, .inl f)), (r_38, .inl (cB, (min 16384 (max j (2 * cap))), .inl (va_cpy f (fun _ => 0) 0 0 cap)))] H := hP
    have hD : va_D A_ [(h, .inr (0, [.ref r_38, .int (nI n)])), (a, .inl (cB, cap, .inl f)), (r_38, .inl (cB, (min 16384 (max j (2 * cap))), .inl (va_cpy f (fun _ => 0) 0 0 cap)))] := hD
    exact t_vret hx hb hr hlk d_By_makeRoom_44 (hP.subm (ws' := [(h, .inr (0, [.ref r_38, .int (nI n)])), (r_38, .inl (cB, (min 16384 (max j (2 * cap))), .inl (va_cpy f (fun _ => 0) 0 0 cap)))]) [0, 2] rfl) (hD.sub (ws' := [(h, .inr (0, [.ref r_38, .int (nI n)])), (r_38, .inl (cB, (min 16384 (max j (2 * cap))), .inl (va_cpy f (fun _ => 0) 0 0 cap)))]) [0, 2] rfl rfl) hS ⟨rfl, _, _, _, rfl, by omega, by omega, by omega, sb_fitC hf sb_fit0, fun i hi => sb_cpy0 hi, by omega, by have hg := gF_grow (c := cap) (j := j) rfl (by omega); omega⟩
set_option maxHeartbeats 1000000 in
set_option maxRecDepth 100000 in
theorem c_By_append (l : Launch) (D : va_G) (cB cI cJ : ClassId) (h a n cap : Nat) (f : Nat → Int32) (x : Int32) (h4 : n + 4 ≤ 16384) (hn : n ≤ cap ∧ cap ≤ 16384) (hc : 64 ≤ cap) (hf : sb_Fit f) : Tr l D classes (TY cB cI cJ) gd_tbl nx_tbl y_By_append b_By_append 3 none ({ frames := 3, cells := gF cap, slots := gF cap, locals := 64 }) [.ref h, .int x] [(h, .inr (0, [.ref a, .int (nI n)])), (a, .inl (cB, cap, .inl f))] (pV (fun w k q => ∃ (a' cap' : Nat) (f' : Nat → Int32), w = [(h, .inr (0, [.ref a', .int (nI (n + 4))])), (a', .inl (cB, cap', .inl (app4 f' n x)))] ∧ n + 4 ≤ cap' ∧ cap ≤ cap' ∧ cap' ≤ 16384 ∧ sb_Fit f' ∧ (∀ i, i < n → f' i = f i) ∧ k ≤ q ∧ q + gF cap' ≤ gF cap)) := by
  refine Tr.intro (by decide +kernel) nx_ok (Nat.le_of_ble_eq_true rfl) ?_
  intro p_ e_ s_ m_ args_ below_ meth_ c_ A_ ls hx hb hml hown hts hr hlk hnm hZ hP hD hS hl
  have hl : lv_has ls 3 [(0, .ref h), (1, .int x)] := hl
  refine lv_aload_n hx hb d_By_append_0 rfl (lv_at hl 0 rfl) ?_
  refine va_get (D := D) (ci := 0) (v := .int (nI n)) (C := R_By) (T := F_By) (N := 2) hx hb hts i_By hown hZ.1 hP 0 rfl rfl 1 (by decide) (hts _ fl_By_15) (fun _ h9 => h9) rfl d_By_append_1 ?_
  refine lv_iconst (v := 4) hx hb d_By_append_4 (by decide) ?_
  refine lv_iadd hx hb d_By_append_5 ?_
  refine lv_tv (y := nI (n + 4)) (nI_add n 4) ?_
  refine lv_istore_n (lv' := [(2, .int (nI (n + 4))), (0, .ref h), (1, .int x)]) hx hb d_By_append_6 rfl hl (by decide) rfl (fun ls hl => ?_)
  refine lv_aload_n hx hb d_By_append_7 rfl (lv_at hl 1 rfl) ?_
  refine lv_iload_n hx hb d_By_append_8 rfl (lv_at hl 0 rfl) ?_
  have hC : Cut [(h, .inr (0, [.ref a, .int (nI n)])), (a, .inl (cB, cap, .inl f))] [(h, .inr (0, [.ref a, .int (nI n)])), (a, .inl (cB, cap, .inl f))] [] [0, 1] [] := ⟨rfl, rfl, rfl, rfl, by decide⟩
  refine goV (trV (As := [.int (nI (n + 4))]) (rest := []) ⟨hx, hb, hml, hown, hts⟩ gd_good (c_By_makeRoom l D cB cI cJ h a n cap f (n + 4) (by omega) hn hc hf) cal_By_makeRoom ml_By_25 ⟨Nat.le_of_ble_eq_true rfl, Nat.le_of_ble_eq_true rfl⟩ hZ hP hD hC 0 (ci := 0) rfl rfl rfl rfl hl.1 rfl (Nat.le_of_ble_eq_true rfl) d_By_append_9 ⟨by dsimp only; omega, by dsimp only; omega⟩) hZ hP hD hS hC (fun w1 kk_9 qq_9 H locs hq hP hD hS => ?_)
  obtain ⟨a'9, cap'9, f'9, rfl, hm1_9, hm2_9, hm3_9, hm4_9, hm5_9, hm6_9, hm7_9⟩ := hq
  have hP : va_P D classes [(h, .inr (0, [.ref a'9, .int (nI n)])), (a'9, .inl (cB, cap'9, .inl f'9))] H := hP
  have hD : va_D A_ [(h, .inr (0, [.ref a'9, .int (nI n)])), (a'9, .inl (cB, cap'9, .inl f'9))] := hD
  refine lv_iload_n hx hb d_By_append_12 rfl (lv_at hl 0 rfl) ?_
  refine lv_aload_n hx hb d_By_append_13 rfl (lv_at hl 1 rfl) ?_
  refine va_get (D := D) (ci := 0) (v := .ref a'9) (C := R_By) (T := F_By) (N := 2) hx hb hts i_By hown hZ.1 hP 0 rfl rfl 0 (by decide) (hts _ fl_By_11) (fun _ h9 => h9) rfl d_By_append_14 ?_
  refine va_alen (v := nI cap'9) hx hb hZ.1 hP 1 0 rfl rfl rfl d_By_append_17 ?_
  refine lv_icmp_le (tgt := 22) hx hb d_By_append_18 (by decide) (fun c_18 => ?_) (fun c_18 => absurd (nI_le (by omega) (by omega)) c_18)
  refine lv_aload_n hx hb d_By_append_22 rfl (lv_at hl 1 rfl) ?_
  refine va_get (D := D) (ci := 0) (v := .ref a'9) (C := R_By) (T := F_By) (N := 2) hx hb hts i_By hown hZ.1 hP 0 rfl rfl 0 (by decide) (hts _ fl_By_11) (fun _ h9 => h9) rfl d_By_append_23 ?_
  refine lv_aload_n hx hb d_By_append_26 rfl (lv_at hl 1 rfl) ?_
  refine va_get (D := D) (ci := 0) (v := .int (nI n)) (C := R_By) (T := F_By) (N := 2) hx hb hts i_By hown hZ.1 hP 0 rfl rfl 1 (by decide) (hts _ fl_By_15) (fun _ h9 => h9) rfl d_By_append_27 ?_
  refine lv_iload_n hx hb d_By_append_30 rfl (lv_at hl 2 rfl) ?_
  refine lv_bipush (v := 24) hx hb d_By_append_31 (by decide) ?_
  refine lv_ishr hx hb d_By_append_33 ?_
  refine lv_i2b hx hb d_By_append_34 rfl ?_
  refine va_bast hx hb hZ.1 hP hD hS 1 0 rfl rfl (vp_in_nI (by omega) (by omega)) d_By_append_35 (fun H locs hP hD hS => ?_)
  rw [show ((nI n).toNatClampNeg) = n from nI_clamp (by omega)] at hP hD
  have hP : va_P D classes [(h, .inr (0, [.ref a'9, .int (nI n)])), (a'9, .inl (cB, cap'9, .inl (upd f'9 n (vp_nar .byte ((x >>> (24 &&& 31)).toInt8.toInt32)))))] H := hP
  have hD : va_D A_ [(h, .inr (0, [.ref a'9, .int (nI n)])), (a'9, .inl (cB, cap'9, .inl (upd f'9 n (vp_nar .byte ((x >>> (24 &&& 31)).toInt8.toInt32)))))] := hD
  refine lv_aload_n hx hb d_By_append_36 rfl (lv_at hl 1 rfl) ?_
  refine va_get (D := D) (ci := 0) (v := .ref a'9) (C := R_By) (T := F_By) (N := 2) hx hb hts i_By hown hZ.1 hP 0 rfl rfl 0 (by decide) (hts _ fl_By_11) (fun _ h9 => h9) rfl d_By_append_37 ?_
  refine lv_aload_n hx hb d_By_append_40 rfl (lv_at hl 1 rfl) ?_
  refine va_get (D := D) (ci := 0) (v := .int (nI n)) (C := R_By) (T := F_By) (N := 2) hx hb hts i_By hown hZ.1 hP 0 rfl rfl 1 (by decide) (hts _ fl_By_15) (fun _ h9 => h9) rfl d_By_append_41 ?_
  refine lv_iconst (v := 1) hx hb d_By_append_44 (by decide) ?_
  refine lv_iadd hx hb d_By_append_45 ?_
  refine lv_tv (y := nI (n + 1)) (nI_add n 1) ?_
  refine lv_iload_n hx hb d_By_append_46 rfl (lv_at hl 2 rfl) ?_
  refine lv_bipush (v := 16) hx hb d_By_append_47 (by decide) ?_
  refine lv_ishr hx hb d_By_append_49 ?_
  refine lv_i2b hx hb d_By_append_50 rfl ?_
  refine va_bast hx hb hZ.1 hP hD hS 1 0 rfl rfl (vp_in_nI (by omega) (by omega)) d_By_append_51 (fun H locs hP hD hS => ?_)
  rw [show ((nI (n + 1)).toNatClampNeg) = n + 1 from nI_clamp (by omega)] at hP hD
  have hP : va_P D classes [(h, .inr (0, [.ref a'9, .int (nI n)])), (a'9, .inl (cB, cap'9, .inl (upd (upd f'9 n (vp_nar .byte ((x >>> (24 &&& 31)).toInt8.toInt32))) (n + 1) (vp_nar .byte ((x >>> (16 &&& 31)).toInt8.toInt32)))))] H := hP
  have hD : va_D A_ [(h, .inr (0, [.ref a'9, .int (nI n)])), (a'9, .inl (cB, cap'9, .inl (upd (upd f'9 n (vp_nar .byte ((x >>> (24 &&& 31)).toInt8.toInt32))) (n + 1) (vp_nar .byte ((x >>> (16 &&& 31)).toInt8.toInt32)))))] := hD
  refine lv_aload_n hx hb d_By_append_52 rfl (lv_at hl 1 rfl) ?_
  refine va_get (D := D) (ci := 0) (v := .ref a'9) (C := R_By) (T := F_By) (N := 2) hx hb hts i_By hown hZ.1 hP 0 rfl rfl 0 (by decide) (hts _ fl_By_11) (fun _ h9 => h9) rfl d_By_append_53 ?_
  refine lv_aload_n hx hb d_By_append_56 rfl (lv_at hl 1 rfl) ?_
  refine va_get (D := D) (ci := 0) (v := .int (nI n)) (C := R_By) (T := F_By) (N := 2) hx hb hts i_By hown hZ.1 hP 0 rfl rfl 1 (by decide) (hts _ fl_By_15) (fun _ h9 => h9) rfl d_By_append_57 ?_
  refine lv_iconst (v := 2) hx hb d_By_append_60 (by decide) ?_
  refine lv_iadd hx hb d_By_append_61 ?_
  refine lv_tv (y := nI (n + 2)) (nI_add n 2) ?_
  refine lv_iload_n hx hb d_By_append_62 rfl (lv_at hl 2 rfl) ?_
  refine lv_bipush (v := 8) hx hb d_By_append_63 (by decide) ?_
  refine lv_ishr hx hb d_By_append_65 ?_
  refine lv_i2b hx hb d_By_append_66 rfl ?_
  refine va_bast hx hb hZ.1 hP hD hS 1 0 rfl rfl (vp_in_nI (by omega) (by omega)) d_By_append_67 (fun H locs hP hD hS => ?_)
  rw [show ((nI (n + 2)).toNatClampNeg) = n + 2 from nI_clamp (by omega)] at hP hD
  have hP : va_P D classes [(h, .inr (0, [.ref a'9, .int (nI n)])), (a'9, .inl (cB, cap'9, .inl (upd (upd (upd f'9 n (vp_nar .byte ((x >>> (24 &&& 31)).toInt8.toInt32))) (n + 1) (vp_nar .byte ((x >>> (16 &&& 31)).toInt8.toInt32))) (n + 2) (vp_nar .byte ((x >>> (8 &&& 31)).toInt8.toInt32)))))] H := hP
  have hD : va_D A_ [(h, .inr (0, [.ref a'9, .int (nI n)])), (a'9, .inl (cB, cap'9, .inl (upd (upd (upd f'9 n (vp_nar .byte ((x >>> (24 &&& 31)).toInt8.toInt32))) (n + 1) (vp_nar .byte ((x >>> (16 &&& 31)).toInt8.toInt32))) (n + 2) (vp_nar .byte ((x >>> (8 &&& 31)).toInt8.toInt32)))))] := hD
  refine lv_aload_n hx hb d_By_append_68 rfl (lv_at hl 1 rfl) ?_
  refine va_get (D := D) (ci := 0) (v := .ref a'9) (C := R_By) (T := F_By) (N := 2) hx hb hts i_By hown hZ.1 hP 0 rfl rfl 0 (by decide) (hts _ fl_By_11) (fun _ h9 => h9) rfl d_By_append_69 ?_
  refine lv_aload_n hx hb d_By_append_72 rfl (lv_at hl 1 rfl) ?_
  refine va_get (D := D) (ci := 0) (v := .int (nI n)) (C := R_By) (T := F_By) (N := 2) hx hb hts i_By hown hZ.1 hP 0 rfl rfl 1 (by decide) (hts _ fl_By_15) (fun _ h9 => h9) rfl d_By_append_73 ?_
  refine lv_iconst (v := 3) hx hb d_By_append_76 (by decide) ?_
  refine lv_iadd hx hb d_By_append_77 ?_
  refine lv_tv (y := nI (n + 3)) (nI_add n 3) ?_
  refine lv_iload_n hx hb d_By_append_78 rfl (lv_at hl 2 rfl) ?_
  refine lv_i2b hx hb d_By_append_79 rfl ?_
  refine va_bast hx hb hZ.1 hP hD hS 1 0 rfl rfl (vp_in_nI (by omega) (by omega)) d_By_append_80 (fun H locs hP hD hS => ?_)
  rw [show ((nI (n + 3)).toNatClampNeg) = n + 3 from nI_clamp (by omega)] at hP hD
  have hP : va_P D classes [(h, .inr (0, [.ref a'9, .int (nI n)])), (a'9, .inl (cB, cap'9, .inl (upd (upd (upd (upd f'9 n (vp_nar .byte ((x >>> (24 &&& 31)).toInt8.toInt32))) (n + 1) (vp_nar .byte ((x >>> (16 &&& 31)).toInt8.toInt32))) (n + 2) (vp_nar .byte ((x >>> (8 &&& 31)).toInt8.toInt32))) (n + 3) (vp_nar .byte x.toInt8.toInt32))))] H := hP
  have hD : va_D A_ [(h, .inr (0, [.ref a'9, .int (nI n)])), (a'9, .inl (cB, cap'9, .inl (upd (upd (upd (upd f'9 n (vp_nar .byte ((x >>> (24 &&& 31)).toInt8.toInt32))) (n + 1) (vp_nar .byte ((x >>> (16 &&& 31)).toInt8.toInt32))) (n + 2) (vp_nar .byte ((x >>> (8 &&& 31)).toInt8.toInt32))) (n + 3) (vp_nar .byte x.toInt8.toInt32))))] := hD
  refine lv_aload_n hx hb d_By_append_81 rfl (lv_at hl 1 rfl) ?_
  refine lv_iload_n hx hb d_By_append_82 rfl (lv_at hl 0 rfl) ?_
  refine va_put (D := D) (ci := 0) (v := .int (nI (n + 4))) (ty := .int) (C := R_By) (T := F_By) (N := 2) hx hb hts i_By t_By t_By_ok n_By hown hZ.1 hP hD hS 0 rfl rfl 1 (by decide) (hts _ fl_By_15) (fun _ h9 => h9) rfl (by decide +kernel) rfl rfl (Nat.le_of_ble_eq_true rfl) d_By_append_83 (fun H locs hP hD hS => ?_)
  have hP : va_P D classes [(h, .inr (0, [.ref a'9, .int (nI (n + 4))])), (a'9, .inl (cB, cap'9, .inl (upd (upd (upd (upd f'9 n (vp_nar .byte ((x >>> (24 &&& 31)).toInt8.toInt32))) (n + 1) (vp_nar .byte ((x >>> (16 &&& 31)).toInt8.toInt32))) (n + 2) (vp_nar .byte ((x >>> (8 &&& 31)).toInt8.toInt32))) (n + 3) (vp_nar .byte x.toInt8.toInt32))))] H := hP
  have hD : va_D A_ [(h, .inr (0, [.ref a'9, .int (nI (n + 4))])), (a'9, .inl (cB, cap'9, .inl (upd (upd (upd (upd f'9 n (vp_nar .byte ((x >>> (24 &&& 31)).toInt8.toInt32))) (n + 1) (vp_nar .byte ((x >>> (16 &&& 31)).toInt8.toInt32))) (n + 2) (vp_nar .byte ((x >>> (8 &&& 31)).toInt8.toInt32))) (n + 3) (vp_nar .byte x.toInt8.toInt32))))] := hD
  exact t_vret hx hb hr hlk d_By_append_86 (hP.subm (ws' := [(h, .inr (0, [.ref a'9, .int (nI (n + 4))])), (a'9, .inl (cB, cap'9, .inl (upd (upd (upd (upd f'9 n (vp_nar .byte ((x >>> (24 &&& 31)).toInt8.toInt32))) (n + 1) (vp_nar .byte ((x >>> (16 &&& 31)).toInt8.toInt32))) (n + 2) (vp_nar .byte ((x >>> (8 &&& 31)).toInt8.toInt32))) (n + 3) (vp_nar .byte x.toInt8.toInt32))))]) [0, 1] rfl) (hD.sub (ws' := [(h, .inr (0, [.ref a'9, .int (nI (n + 4))])), (a'9, .inl (cB, cap'9, .inl (upd (upd (upd (upd f'9 n (vp_nar .byte ((x >>> (24 &&& 31)).toInt8.toInt32))) (n + 1) (vp_nar .byte ((x >>> (16 &&& 31)).toInt8.toInt32))) (n + 2) (vp_nar .byte ((x >>> (8 &&& 31)).toInt8.toInt32))) (n + 3) (vp_nar .byte x.toInt8.toInt32))))]) [0, 1] rfl rfl) hS ⟨rfl, _, _, _, rfl, by omega, by omega, by omega, hm4_9, fun i hi => hm5_9 i (by omega), by omega, by omega⟩
set_option maxHeartbeats 1000000 in
set_option maxRecDepth 100000 in
theorem c_By_number (l : Launch) (D : va_G) (cB cI cJ : ClassId) (h a n cap : Nat) (f : Nat → Int32) (x : Int32) (w : Nat) (hn : n ≤ cap ∧ cap ≤ 16384) (hw : w < 2 ^ 31) : Ro l D classes (TY cB cI cJ) gd_tbl nx_tbl y_By_number b_By_number 6 (some .long) ({ frames := 1, cells := 0, slots := 0, locals := 21 }) [.ref h, .int x, .int (nI w)] [(h, .inr (0, [.ref a, .int (nI n)])), (a, .inl (cB, cap, .inl f))] (fun v => v = .long (numX n f x w)) := by
  refine Ro.intro (by decide +kernel) nx_ok (Nat.le_of_ble_eq_true rfl) ?_
  intro p_ e_ s_ m_ args_ below_ meth_ c_ A_ ls hx hb hml hown hts hr hlk hnm hZ hP hD hl
  have hl : lv_has ls 6 [(0, .ref h), (1, .int x), (2, .int (nI w))] := hl
  refine lv_lconst (v := 0) hx hb d_By_number_0 (by decide) ?_
  refine lv_lstore_n (lv' := [(3, .long 0), (0, .ref h), (1, .int x), (2, .int (nI w))]) hx hb d_By_number_1 rfl hl (by decide) rfl (fun ls hl => ?_)
  refine lv_iconst (v := 0) hx hb d_By_number_2 (by decide) ?_
  refine lv_istore (lv' := [(5, .int 0), (3, .long 0), (0, .ref h), (1, .int x), (2, .int (nI w))]) hx hb d_By_number_3 hl (by decide) rfl (fun ls hl => ?_)
  have lp_5 : ∀ (fu : Nat) (k : Nat) (ls : Array Slot), (k ≤ w) → (w - k) < fu → lv_has ls 6 [(0, .ref h), (1, .int x), (2, .int (nI w)), (3, .long (numX n f x k)), (5, .int (nI k))] → W p_ l e_ ({ frames := 1, cells := 0, slots := 0, locals := 21 }) s_ m_ args_ below_ meth_ c_ s_.heap [] 0 0 (MQR below_ (fun v => v = .long (numX n f x w)) s_) (F0 m_ 5 ls []) := by
    intro fu
    induction fu with
    | zero => intro k ls hinv hfu; exact absurd hfu (Nat.not_lt_zero _)
    | succ fu ih_5 =>
      intro k ls hinv hfu hl
      refine lv_iload hx hb d_By_number_5 (lv_at hl 4 rfl) ?_
      refine lv_iload_n hx hb d_By_number_7 rfl (lv_at hl 2 rfl) ?_
      refine lv_icmp_ge (tgt := 33) hx hb d_By_number_8 (by decide) (fun c_8 => ?_) (fun c_8 => ?_)
      · have n_8 : (w) ≤ (k) := (nI_leI (a := w) (b := k) (by omega) (by omega)).mp c_8
        refine lv_lload_n hx hb d_By_number_33 rfl (lv_at hl 3 rfl) ?_
        exact r_lret hx hb hr hlk d_By_number_34 (by rw [(by omega : k = w)])
      · have n_8 : ¬ (w) ≤ (k) := fun z => c_8 ((nI_leI (a := w) (b := k) (by omega) (by omega)).mpr z)
        refine lv_lload_n hx hb d_By_number_11 rfl (lv_at hl 3 rfl) ?_
        refine lv_ldc2 (v := 256) hx hb hown (hts _ kl_By_19) d_By_number_12 ?_
        refine lv_lmul hx hb d_By_number_15 ?_
        refine lv_aload_n hx hb d_By_number_16 rfl (lv_at hl 0 rfl) ?_
        refine lv_iload_n hx hb d_By_number_17 rfl (lv_at hl 1 rfl) ?_
        refine lv_iload hx hb d_By_number_18 (lv_at hl 4 rfl) ?_
        refine lv_iadd hx hb d_By_number_20 ?_
        refine roV (As := [.int (x + (nI k))]) (rest := [.long ((numX n f x k) * 256)]) ⟨hx, hb, hml, hown, hts⟩ gd_good (c_By_at l D cB cI cJ h a n cap f (x + (nI k)) hn) cal_By_at ml_By_21 ⟨Nat.le_of_ble_eq_true rfl, Nat.le_of_ble_eq_true rfl⟩ hZ hP hD (isC := [0, 1]) ⟨rfl, rfl⟩ 0 (ci := 0) rfl rfl rfl rfl hl.1 rfl (Nat.le_of_ble_eq_true rfl) d_By_number_21 ⟨Nat.le_of_ble_eq_true rfl, Nat.le_of_ble_eq_true rfl⟩ (fun v hv => ?_)
        subst hv
        refine lv_i2l hx hb d_By_number_24 rfl ?_
        refine lv_ladd hx hb d_By_number_25 ?_
        refine lv_lstore_n (lv' := [(3, .long (((numX n f x k) * 256) + ((atB n f (x + (nI k))).toInt64))), (0, .ref h), (1, .int x), (2, .int (nI w)), (5, .int (nI k))]) hx hb d_By_number_26 rfl hl (by decide) rfl (fun ls hl => ?_)
        refine lv_iinc (v := nI (k + 1)) (lv' := [(5, .int (nI (k + 1))), (3, .long (((numX n f x k) * 256) + ((atB n f (x + (nI k))).toInt64))), (0, .ref h), (1, .int x), (2, .int (nI w))]) hx hb d_By_number_27 hl (k := 4) rfl (nI_add k 1) (by decide) rfl (fun ls hl => ?_)
        refine lv_goto (tgt := 5) hx hb d_By_number_30 (by decide) ?_
        exact ih_5  (k + 1) _ (by omega) (by omega) (lv_sub hl [2, 3, 4, 1, 0] rfl)
  exact lp_5 _ 0 _ (by omega) (Nat.lt_succ_self _) (lv_sub hl [2, 3, 4, 1, 0] rfl)
set_option maxHeartbeats 1000000 in
set_option maxRecDepth 100000 in
theorem c_By_copy (l : Launch) (D : va_G) (cB cI cJ : ClassId) (h a n cap : Nat) (f : Nat → Int32) (h2 a2 n2 cap2 : Nat) (f2 : Nat → Int32) (hn : n ≤ cap ∧ cap ≤ 16384) (hc : 64 ≤ cap) (hf : sb_Fit f) (hn2 : n2 ≤ cap2 ∧ cap2 ≤ 16384) (hf2 : sb_Fit f2) : Tr l D classes (TY cB cI cJ) gd_tbl nx_tbl y_By_copy b_By_copy 2 none ({ frames := 3, cells := gF cap, slots := gF cap, locals := 64 }) [.ref h, .ref h2] [(h, .inr (0, [.ref a, .int (nI n)])), (a, .inl (cB, cap, .inl f)), (h2, .inr (0, [.ref a2, .int (nI n2)])), (a2, .inl (cB, cap2, .inl f2))] (pV (fun w k q => ∃ (a' cap' : Nat) (f' : Nat → Int32), w = [(h, .inr (0, [.ref a', .int (nI n2)])), (a', .inl (cB, cap', .inl f')), (h2, .inr (0, [.ref a2, .int (nI n2)])), (a2, .inl (cB, cap2, .inl f2))] ∧ n2 ≤ cap' ∧ cap ≤ cap' ∧ cap' ≤ 16384 ∧ sb_Fit f' ∧ (∀ i, i < n2 → f' i = f2 i) ∧ k ≤ q ∧ q + gF cap' ≤ gF cap)) := by
  refine Tr.intro (by decide +kernel) nx_ok (Nat.le_of_ble_eq_true rfl) ?_
  intro p_ e_ s_ m_ args_ below_ meth_ c_ A_ ls hx hb hml hown hts hr hlk hnm hZ hP hD hS hl
  have hl : lv_has ls 2 [(0, .ref h), (1, .ref h2)] := hl
  refine lv_aload_n hx hb d_By_copy_0 rfl (lv_at hl 0 rfl) ?_
  refine lv_aload_n hx hb d_By_copy_1 rfl (lv_at hl 1 rfl) ?_
  refine va_get (D := D) (ci := 0) (v := .int (nI n2)) (C := R_By) (T := F_By) (N := 2) hx hb hts i_By hown hZ.1 hP 2 rfl rfl 1 (by decide) (hts _ fl_By_15) (fun _ h9 => h9) rfl d_By_copy_2 ?_
  have hC : Cut [(h, .inr (0, [.ref a, .int (nI n)])), (a, .inl (cB, cap, .inl f)), (h2, .inr (0, [.ref a2, .int (nI n2)])), (a2, .inl (cB, cap2, .inl f2))] [(h, .inr (0, [.ref a, .int (nI n)])), (a, .inl (cB, cap, .inl f))] [(h2, .inr (0, [.ref a2, .int (nI n2)])), (a2, .inl (cB, cap2, .inl f2))] [0, 1] [2, 3] := ⟨rfl, rfl, rfl, rfl, by decide⟩
  refine goV (trV (As := [.int (nI n2)]) (rest := []) ⟨hx, hb, hml, hown, hts⟩ gd_good (c_By_makeRoom l D cB cI cJ h a n cap f n2 (by omega) hn hc hf) cal_By_makeRoom ml_By_25 ⟨Nat.le_of_ble_eq_true rfl, Nat.le_of_ble_eq_true rfl⟩ hZ hP hD hC 0 (ci := 0) rfl rfl rfl rfl hl.1 rfl (Nat.le_of_ble_eq_true rfl) d_By_copy_5 ⟨by dsimp only; omega, by dsimp only; omega⟩) hZ hP hD hS hC (fun w1 kk_5 qq_5 H locs hq hP hD hS => ?_)
  obtain ⟨a'5, cap'5, f'5, rfl, hm1_5, hm2_5, hm3_5, hm4_5, hm5_5, hm6_5, hm7_5⟩ := hq
  have hP : va_P D classes [(h2, .inr (0, [.ref a2, .int (nI n2)])), (a2, .inl (cB, cap2, .inl f2)), (h, .inr (0, [.ref a'5, .int (nI n)])), (a'5, .inl (cB, cap'5, .inl f'5))] H := hP
  have hD : va_D A_ [(h2, .inr (0, [.ref a2, .int (nI n2)])), (a2, .inl (cB, cap2, .inl f2)), (h, .inr (0, [.ref a'5, .int (nI n)])), (a'5, .inl (cB, cap'5, .inl f'5))] := hD
  refine lv_aload_n hx hb d_By_copy_8 rfl (lv_at hl 1 rfl) ?_
  refine va_get (D := D) (ci := 0) (v := .int (nI n2)) (C := R_By) (T := F_By) (N := 2) hx hb hts i_By hown hZ.1 hP 0 rfl rfl 1 (by decide) (hts _ fl_By_15) (fun _ h9 => h9) rfl d_By_copy_9 ?_
  refine lv_aload_n hx hb d_By_copy_12 rfl (lv_at hl 0 rfl) ?_
  refine va_get (D := D) (ci := 0) (v := .ref a'5) (C := R_By) (T := F_By) (N := 2) hx hb hts i_By hown hZ.1 hP 2 rfl rfl 0 (by decide) (hts _ fl_By_11) (fun _ h9 => h9) rfl d_By_copy_13 ?_
  refine va_alen (v := nI cap'5) hx hb hZ.1 hP 3 0 rfl rfl rfl d_By_copy_16 ?_
  refine lv_icmp_gt (tgt := 45) hx hb d_By_copy_17 (by decide) (fun c_17 => absurd c_17 (nI_nlt (by omega) (by omega))) (fun c_17 => ?_)
  refine lv_aload_n hx hb d_By_copy_20 rfl (lv_at hl 1 rfl) ?_
  refine va_get (D := D) (ci := 0) (v := .ref a2) (C := R_By) (T := F_By) (N := 2) hx hb hts i_By hown hZ.1 hP 0 rfl rfl 0 (by decide) (hts _ fl_By_11) (fun _ h9 => h9) rfl d_By_copy_21 ?_
  refine lv_iconst (v := 0) hx hb d_By_copy_24 (by decide) ?_
  refine lv_aload_n hx hb d_By_copy_25 rfl (lv_at hl 0 rfl) ?_
  refine va_get (D := D) (ci := 0) (v := .ref a'5) (C := R_By) (T := F_By) (N := 2) hx hb hts i_By hown hZ.1 hP 2 rfl rfl 0 (by decide) (hts _ fl_By_11) (fun _ h9 => h9) rfl d_By_copy_26 ?_
  refine lv_iconst (v := 0) hx hb d_By_copy_29 (by decide) ?_
  refine lv_aload_n hx hb d_By_copy_30 rfl (lv_at hl 1 rfl) ?_
  refine va_get (D := D) (ci := 0) (v := .int (nI n2)) (C := R_By) (T := F_By) (N := 2) hx hb hts i_By hown hZ.1 hP 0 rfl rfl 1 (by decide) (hts _ fl_By_15) (fun _ h9 => h9) rfl d_By_copy_31 ?_
  refine va_copyi hx hb (by rw [hml]; exact hl.1.symm) hown (hts _ ml_By_29) (hts _ sy_native) (hts _ sy_static) (hts _ sy_initialized) hZ.1 hP hD hS 1 3 0 0 rfl rfl rfl rfl rfl (by decide) (by decide) (nI_pos (by omega)) (by rw [show (nI n2).toNatClampNeg = n2 from nI_clamp (by omega)]; show 0 + n2 ≤ _; omega) (by rw [show (nI n2).toNatClampNeg = n2 from nI_clamp (by omega)]; show 0 + n2 ≤ _; omega) (fun i _ => hf2 _) (Nat.le_of_ble_eq_true rfl) (Nat.le_of_ble_eq_true rfl) d_By_copy_34 (fun H locs hP hD hS => ?_)
  rw [show (nI n2).toNatClampNeg = n2 from nI_clamp (by omega)] at hP hD
  have hP : va_P D classes [(h2, .inr (0, [.ref a2, .int (nI n2)])), (a2, .inl (cB, cap2, .inl f2)), (h, .inr (0, [.ref a'5, .int (nI n)])), (a'5, .inl (cB, cap'5, .inl (va_cpy f2 f'5 0 0 n2)))] H := hP
  have hD : va_D A_ [(h2, .inr (0, [.ref a2, .int (nI n2)])), (a2, .inl (cB, cap2, .inl f2)), (h, .inr (0, [.ref a'5, .int (nI n)])), (a'5, .inl (cB, cap'5, .inl (va_cpy f2 f'5 0 0 n2)))] := hD
  refine lv_aload_n hx hb d_By_copy_37 rfl (lv_at hl 0 rfl) ?_
  refine lv_aload_n hx hb d_By_copy_38 rfl (lv_at hl 1 rfl) ?_
  refine va_get (D := D) (ci := 0) (v := .int (nI n2)) (C := R_By) (T := F_By) (N := 2) hx hb hts i_By hown hZ.1 hP 0 rfl rfl 1 (by decide) (hts _ fl_By_15) (fun _ h9 => h9) rfl d_By_copy_39 ?_
  refine va_put (D := D) (ci := 0) (v := .int (nI n2)) (ty := .int) (C := R_By) (T := F_By) (N := 2) hx hb hts i_By t_By t_By_ok n_By hown hZ.1 hP hD hS 2 rfl rfl 1 (by decide) (hts _ fl_By_15) (fun _ h9 => h9) rfl (by decide +kernel) rfl rfl (Nat.le_of_ble_eq_true rfl) d_By_copy_42 (fun H locs hP hD hS => ?_)
  have hP : va_P D classes [(h2, .inr (0, [.ref a2, .int (nI n2)])), (a2, .inl (cB, cap2, .inl f2)), (h, .inr (0, [.ref a'5, .int (nI n2)])), (a'5, .inl (cB, cap'5, .inl (va_cpy f2 f'5 0 0 n2)))] H := hP
  have hD : va_D A_ [(h2, .inr (0, [.ref a2, .int (nI n2)])), (a2, .inl (cB, cap2, .inl f2)), (h, .inr (0, [.ref a'5, .int (nI n2)])), (a'5, .inl (cB, cap'5, .inl (va_cpy f2 f'5 0 0 n2)))] := hD
  exact t_vret hx hb hr hlk d_By_copy_45 (hP.subm (ws' := [(h, .inr (0, [.ref a'5, .int (nI n2)])), (a'5, .inl (cB, cap'5, .inl (va_cpy f2 f'5 0 0 n2))), (h2, .inr (0, [.ref a2, .int (nI n2)])), (a2, .inl (cB, cap2, .inl f2))]) [2, 3, 0, 1] rfl) (hD.sub (ws' := [(h, .inr (0, [.ref a'5, .int (nI n2)])), (a'5, .inl (cB, cap'5, .inl (va_cpy f2 f'5 0 0 n2))), (h2, .inr (0, [.ref a2, .int (nI n2)])), (a2, .inl (cB, cap2, .inl f2))]) [2, 3, 0, 1] rfl rfl) hS ⟨rfl, _, _, _, rfl, by omega, by omega, by omega, sb_fitC hf2 hm4_5, fun i hi => sb_cpy0 hi, by omega, by omega⟩
