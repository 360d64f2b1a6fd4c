abbrev b_Mo_lines : ByteArray := prog_12_method_31_code
abbrev y_Mo_lines : MethodName := ⟨"CharOutlinesModel", "lines", "()V"⟩
set_option maxRecDepth 100000 in
theorem cal_Mo_lines : CalV gd_tbl "CharOutlinesModel" y_Mo_lines b_Mo_lines 2 none 0 := ⟨⟨List.mem_filter.mpr ⟨List.mem_of_getElem? (i := 1014) rfl, rfl⟩, List.mem_filter.mpr ⟨List.mem_of_getElem? (i := 68) rfl, rfl⟩, ⟨by decide, by decide⟩, by decide +kernel⟩, List.mem_filter.mpr ⟨List.mem_of_getElem? (i := 1013) rfl, rfl⟩, List.mem_filter.mpr ⟨List.mem_of_getElem? (i := 49) rfl, rfl⟩⟩
theorem d_Mo_lines_0 : decode b_Mo_lines 0 = .ok (.aload_n 0, 1) := by decide +kernel
theorem d_Mo_lines_1 : decode b_Mo_lines 1 = .ok (.aload_n 0, 1) := by decide +kernel
theorem d_Mo_lines_2 : decode b_Mo_lines 2 = .ok (.getfield 82, 3) := by decide +kernel
theorem d_Mo_lines_5 : decode b_Mo_lines 5 = .ok (.iconst 2, 1) := by decide +kernel
theorem d_Mo_lines_6 : decode b_Mo_lines 6 = .ok (.if_icmp .lt 16, 3) := by decide +kernel
theorem d_Mo_lines_9 : decode b_Mo_lines 9 = .ok (.aload_n 0, 1) := by decide +kernel
theorem d_Mo_lines_10 : decode b_Mo_lines 10 = .ok (.getfield 82, 3) := by decide +kernel
theorem d_Mo_lines_13 : decode b_Mo_lines 13 = .ok (.iconst 2, 1) := by decide +kernel
theorem d_Mo_lines_14 : decode b_Mo_lines 14 = .ok (.irem, 1) := by decide +kernel
theorem d_Mo_lines_15 : decode b_Mo_lines 15 = .ok (.ifCond .ne 7, 3) := by decide +kernel
theorem d_Mo_lines_18 : decode b_Mo_lines 18 = .ok (.iconst 1, 1) := by decide +kernel
theorem d_Mo_lines_19 : decode b_Mo_lines 19 = .ok (.goto 4, 3) := by decide +kernel
theorem d_Mo_lines_22 : decode b_Mo_lines 22 = .ok (.iconst 0, 1) := by decide +kernel
theorem d_Mo_lines_23 : decode b_Mo_lines 23 = .ok (.invokevirtual 162, 3) := by decide +kernel
theorem d_Mo_lines_26 : decode b_Mo_lines 26 = .ok (.ifCond .eq 48, 3) := by decide +kernel
theorem d_Mo_lines_29 : decode b_Mo_lines 29 = .ok (.iconst 0, 1) := by decide +kernel
theorem d_Mo_lines_30 : decode b_Mo_lines 30 = .ok (.istore_n 1, 1) := by decide +kernel
theorem d_Mo_lines_31 : decode b_Mo_lines 31 = .ok (.iload_n 1, 1) := by decide +kernel
theorem d_Mo_lines_32 : decode b_Mo_lines 32 = .ok (.aload_n 0, 1) := by decide +kernel
theorem d_Mo_lines_33 : decode b_Mo_lines 33 = .ok (.getfield 82, 3) := by decide +kernel
theorem d_Mo_lines_36 : decode b_Mo_lines 36 = .ok (.if_icmp .ge 34, 3) := by decide +kernel
theorem d_Mo_lines_39 : decode b_Mo_lines 39 = .ok (.aload_n 0, 1) := by decide +kernel
theorem d_Mo_lines_40 : decode b_Mo_lines 40 = .ok (.getfield 75, 3) := by decide +kernel
theorem d_Mo_lines_43 : decode b_Mo_lines 43 = .ok (.ifCond .ne 27, 3) := by decide +kernel
theorem d_Mo_lines_46 : decode b_Mo_lines 46 = .ok (.aload_n 0, 1) := by decide +kernel
theorem d_Mo_lines_47 : decode b_Mo_lines 47 = .ok (.aload_n 0, 1) := by decide +kernel
theorem d_Mo_lines_48 : decode b_Mo_lines 48 = .ok (.getfield 29, 3) := by decide +kernel
theorem d_Mo_lines_51 : decode b_Mo_lines 51 = .ok (.iload_n 1, 1) := by decide +kernel
theorem d_Mo_lines_52 : decode b_Mo_lines 52 = .ok (.iaload, 1) := by decide +kernel
theorem d_Mo_lines_53 : decode b_Mo_lines 53 = .ok (.aload_n 0, 1) := by decide +kernel
theorem d_Mo_lines_54 : decode b_Mo_lines 54 = .ok (.getfield 29, 3) := by decide +kernel
theorem d_Mo_lines_57 : decode b_Mo_lines 57 = .ok (.iload_n 1, 1) := by decide +kernel
theorem d_Mo_lines_58 : decode b_Mo_lines 58 = .ok (.iconst 1, 1) := by decide +kernel
theorem d_Mo_lines_59 : decode b_Mo_lines 59 = .ok (.iadd, 1) := by decide +kernel
theorem d_Mo_lines_60 : decode b_Mo_lines 60 = .ok (.iaload, 1) := by decide +kernel
theorem d_Mo_lines_61 : decode b_Mo_lines 61 = .ok (.invokevirtual 166, 3) := by decide +kernel
theorem d_Mo_lines_64 : decode b_Mo_lines 64 = .ok (.iinc 1 2, 3) := by decide +kernel
theorem d_Mo_lines_67 : decode b_Mo_lines 67 = .ok (.goto (-36), 3) := by decide +kernel
theorem d_Mo_lines_70 : decode b_Mo_lines 70 = .ok (.aload_n 0, 1) := by decide +kernel
theorem d_Mo_lines_71 : decode b_Mo_lines 71 = .ok (.invokevirtual 155, 3) := by decide +kernel
theorem d_Mo_lines_74 : decode b_Mo_lines 74 = .ok (.return_, 1) := by decide +kernel
abbrev b_Mo_turns : ByteArray := prog_12_method_32_code
abbrev y_Mo_turns : MethodName := ⟨"CharOutlinesModel", "turns", "(Z)V"⟩
set_option maxRecDepth 100000 in
theorem cal_Mo_turns : CalV gd_tbl "CharOutlinesModel" y_Mo_turns b_Mo_turns 4 none 1 := ⟨⟨List.mem_filter.mpr ⟨List.mem_of_getElem? (i := 1022) rfl, rfl⟩, List.mem_filter.mpr ⟨List.mem_of_getElem? (i := 68) rfl, rfl⟩, ⟨by decide, by decide⟩, by decide +kernel⟩, List.mem_filter.mpr ⟨List.mem_of_getElem? (i := 1021) rfl, rfl⟩, List.mem_filter.mpr ⟨List.mem_of_getElem? (i := 51) rfl, rfl⟩⟩
theorem d_Mo_turns_0 : decode b_Mo_turns 0 = .ok (.aload_n 0, 1) := by decide +kernel
theorem d_Mo_turns_1 : decode b_Mo_turns 1 = .ok (.aload_n 0, 1) := by decide +kernel
theorem d_Mo_turns_2 : decode b_Mo_turns 2 = .ok (.getfield 82, 3) := by decide +kernel
theorem d_Mo_turns_5 : decode b_Mo_turns 5 = .ok (.iconst 1, 1) := by decide +kernel
theorem d_Mo_turns_6 : decode b_Mo_turns 6 = .ok (.if_icmp .lt 7, 3) := by decide +kernel
theorem d_Mo_turns_9 : decode b_Mo_turns 9 = .ok (.iconst 1, 1) := by decide +kernel
theorem d_Mo_turns_10 : decode b_Mo_turns 10 = .ok (.goto 4, 3) := by decide +kernel
theorem d_Mo_turns_13 : decode b_Mo_turns 13 = .ok (.iconst 0, 1) := by decide +kernel
theorem d_Mo_turns_14 : decode b_Mo_turns 14 = .ok (.invokevirtual 162, 3) := by decide +kernel
theorem d_Mo_turns_17 : decode b_Mo_turns 17 = .ok (.ifCond .eq 83, 3) := by decide +kernel
theorem d_Mo_turns_20 : decode b_Mo_turns 20 = .ok (.iconst 0, 1) := by decide +kernel
theorem d_Mo_turns_21 : decode b_Mo_turns 21 = .ok (.istore_n 2, 1) := by decide +kernel
theorem d_Mo_turns_22 : decode b_Mo_turns 22 = .ok (.iload_n 2, 1) := by decide +kernel
theorem d_Mo_turns_23 : decode b_Mo_turns 23 = .ok (.aload_n 0, 1) := by decide +kernel
theorem d_Mo_turns_24 : decode b_Mo_turns 24 = .ok (.getfield 82, 3) := by decide +kernel
theorem d_Mo_turns_27 : decode b_Mo_turns 27 = .ok (.if_icmp .ge 69, 3) := by decide +kernel
theorem d_Mo_turns_30 : decode b_Mo_turns 30 = .ok (.aload_n 0, 1) := by decide +kernel
theorem d_Mo_turns_31 : decode b_Mo_turns 31 = .ok (.getfield 75, 3) := by decide +kernel
theorem d_Mo_turns_34 : decode b_Mo_turns 34 = .ok (.ifCond .ne 62, 3) := by decide +kernel
theorem d_Mo_turns_37 : decode b_Mo_turns 37 = .ok (.iload_n 2, 1) := by decide +kernel
theorem d_Mo_turns_38 : decode b_Mo_turns 38 = .ok (.iconst 2, 1) := by decide +kernel
theorem d_Mo_turns_39 : decode b_Mo_turns 39 = .ok (.irem, 1) := by decide +kernel
theorem d_Mo_turns_40 : decode b_Mo_turns 40 = .ok (.ifCond .ne 7, 3) := by decide +kernel
theorem d_Mo_turns_43 : decode b_Mo_turns 43 = .ok (.iconst 1, 1) := by decide +kernel
theorem d_Mo_turns_44 : decode b_Mo_turns 44 = .ok (.goto 4, 3) := by decide +kernel
theorem d_Mo_turns_47 : decode b_Mo_turns 47 = .ok (.iconst 0, 1) := by decide +kernel
theorem d_Mo_turns_48 : decode b_Mo_turns 48 = .ok (.iload_n 1, 1) := by decide +kernel
theorem d_Mo_turns_49 : decode b_Mo_turns 49 = .ok (.if_icmp .ne 7, 3) := by decide +kernel
theorem d_Mo_turns_52 : decode b_Mo_turns 52 = .ok (.iconst 1, 1) := by decide +kernel
theorem d_Mo_turns_53 : decode b_Mo_turns 53 = .ok (.goto 4, 3) := by decide +kernel
theorem d_Mo_turns_56 : decode b_Mo_turns 56 = .ok (.iconst 0, 1) := by decide +kernel
theorem d_Mo_turns_57 : decode b_Mo_turns 57 = .ok (.istore_n 3, 1) := by decide +kernel
theorem d_Mo_turns_58 : decode b_Mo_turns 58 = .ok (.aload_n 0, 1) := by decide +kernel
theorem d_Mo_turns_59 : decode b_Mo_turns 59 = .ok (.iload_n 3, 1) := by decide +kernel
theorem d_Mo_turns_60 : decode b_Mo_turns 60 = .ok (.ifCond .eq 12, 3) := by decide +kernel
theorem d_Mo_turns_63 : decode b_Mo_turns 63 = .ok (.aload_n 0, 1) := by decide +kernel
theorem d_Mo_turns_64 : decode b_Mo_turns 64 = .ok (.getfield 29, 3) := by decide +kernel
theorem d_Mo_turns_67 : decode b_Mo_turns 67 = .ok (.iload_n 2, 1) := by decide +kernel
theorem d_Mo_turns_68 : decode b_Mo_turns 68 = .ok (.iaload, 1) := by decide +kernel
theorem d_Mo_turns_69 : decode b_Mo_turns 69 = .ok (.goto 4, 3) := by decide +kernel
theorem d_Mo_turns_72 : decode b_Mo_turns 72 = .ok (.iconst 0, 1) := by decide +kernel
theorem d_Mo_turns_73 : decode b_Mo_turns 73 = .ok (.iload_n 3, 1) := by decide +kernel
theorem d_Mo_turns_74 : decode b_Mo_turns 74 = .ok (.ifCond .eq 7, 3) := by decide +kernel
theorem d_Mo_turns_77 : decode b_Mo_turns 77 = .ok (.iconst 0, 1) := by decide +kernel
theorem d_Mo_turns_78 : decode b_Mo_turns 78 = .ok (.goto 9, 3) := by decide +kernel
theorem d_Mo_turns_81 : decode b_Mo_turns 81 = .ok (.aload_n 0, 1) := by decide +kernel
theorem d_Mo_turns_82 : decode b_Mo_turns 82 = .ok (.getfield 29, 3) := by decide +kernel
theorem d_Mo_turns_85 : decode b_Mo_turns 85 = .ok (.iload_n 2, 1) := by decide +kernel
theorem d_Mo_turns_86 : decode b_Mo_turns 86 = .ok (.iaload, 1) := by decide +kernel
theorem d_Mo_turns_87 : decode b_Mo_turns 87 = .ok (.invokevirtual 166, 3) := by decide +kernel
theorem d_Mo_turns_90 : decode b_Mo_turns 90 = .ok (.iinc 2 1, 3) := by decide +kernel
theorem d_Mo_turns_93 : decode b_Mo_turns 93 = .ok (.goto (-71), 3) := by decide +kernel
theorem d_Mo_turns_96 : decode b_Mo_turns 96 = .ok (.aload_n 0, 1) := by decide +kernel
theorem d_Mo_turns_97 : decode b_Mo_turns 97 = .ok (.invokevirtual 155, 3) := by decide +kernel
theorem d_Mo_turns_100 : decode b_Mo_turns 100 = .ok (.return_, 1) := by decide +kernel
abbrev b_Mo_curves : ByteArray := prog_12_method_33_code
abbrev y_Mo_curves : MethodName := ⟨"CharOutlinesModel", "curves", "()V"⟩
set_option maxRecDepth 100000 in
theorem cal_Mo_curves : CalV gd_tbl "CharOutlinesModel" y_Mo_curves b_Mo_curves 2 none 0 := ⟨⟨List.mem_filter.mpr ⟨List.mem_of_getElem? (i := 1026) rfl, rfl⟩, List.mem_filter.mpr ⟨List.mem_of_getElem? (i := 68) rfl, rfl⟩, ⟨by decide, by decide⟩, by decide +kernel⟩, List.mem_filter.mpr ⟨List.mem_of_getElem? (i := 1025) rfl, rfl⟩, List.mem_filter.mpr ⟨List.mem_of_getElem? (i := 52) rfl, rfl⟩⟩
theorem d_Mo_curves_0 : decode b_Mo_curves 0 = .ok (.aload_n 0, 1) := by decide +kernel
theorem d_Mo_curves_1 : decode b_Mo_curves 1 = .ok (.aload_n 0, 1) := by decide +kernel
theorem d_Mo_curves_2 : decode b_Mo_curves 2 = .ok (.getfield 82, 3) := by decide +kernel
theorem d_Mo_curves_5 : decode b_Mo_curves 5 = .ok (.bipush 6, 2) := by decide +kernel
theorem d_Mo_curves_7 : decode b_Mo_curves 7 = .ok (.if_icmp .lt 17, 3) := by decide +kernel
theorem d_Mo_curves_10 : decode b_Mo_curves 10 = .ok (.aload_n 0, 1) := by decide +kernel
theorem d_Mo_curves_11 : decode b_Mo_curves 11 = .ok (.getfield 82, 3) := by decide +kernel
theorem d_Mo_curves_14 : decode b_Mo_curves 14 = .ok (.bipush 6, 2) := by decide +kernel
theorem d_Mo_curves_16 : decode b_Mo_curves 16 = .ok (.irem, 1) := by decide +kernel
theorem d_Mo_curves_17 : decode b_Mo_curves 17 = .ok (.ifCond .ne 7, 3) := by decide +kernel
theorem d_Mo_curves_20 : decode b_Mo_curves 20 = .ok (.iconst 1, 1) := by decide +kernel
theorem d_Mo_curves_21 : decode b_Mo_curves 21 = .ok (.goto 4, 3) := by decide +kernel
theorem d_Mo_curves_24 : decode b_Mo_curves 24 = .ok (.iconst 0, 1) := by decide +kernel
theorem d_Mo_curves_25 : decode b_Mo_curves 25 = .ok (.invokevirtual 162, 3) := by decide +kernel
theorem d_Mo_curves_28 : decode b_Mo_curves 28 = .ok (.ifCond .eq 35, 3) := by decide +kernel
theorem d_Mo_curves_31 : decode b_Mo_curves 31 = .ok (.iconst 0, 1) := by decide +kernel
theorem d_Mo_curves_32 : decode b_Mo_curves 32 = .ok (.istore_n 1, 1) := by decide +kernel
theorem d_Mo_curves_33 : decode b_Mo_curves 33 = .ok (.iload_n 1, 1) := by decide +kernel
theorem d_Mo_curves_34 : decode b_Mo_curves 34 = .ok (.aload_n 0, 1) := by decide +kernel
theorem d_Mo_curves_35 : decode b_Mo_curves 35 = .ok (.getfield 82, 3) := by decide +kernel
theorem d_Mo_curves_38 : decode b_Mo_curves 38 = .ok (.if_icmp .ge 21, 3) := by decide +kernel
theorem d_Mo_curves_41 : decode b_Mo_curves 41 = .ok (.aload_n 0, 1) := by decide +kernel
theorem d_Mo_curves_42 : decode b_Mo_curves 42 = .ok (.getfield 75, 3) := by decide +kernel
theorem d_Mo_curves_45 : decode b_Mo_curves 45 = .ok (.ifCond .ne 14, 3) := by decide +kernel
theorem d_Mo_curves_48 : decode b_Mo_curves 48 = .ok (.aload_n 0, 1) := by decide +kernel
theorem d_Mo_curves_49 : decode b_Mo_curves 49 = .ok (.iload_n 1, 1) := by decide +kernel
theorem d_Mo_curves_50 : decode b_Mo_curves 50 = .ok (.invokevirtual 169, 3) := by decide +kernel
theorem d_Mo_curves_53 : decode b_Mo_curves 53 = .ok (.iinc 1 6, 3) := by decide +kernel
theorem d_Mo_curves_56 : decode b_Mo_curves 56 = .ok (.goto (-23), 3) := by decide +kernel
theorem d_Mo_curves_59 : decode b_Mo_curves 59 = .ok (.aload_n 0, 1) := by decide +kernel
theorem d_Mo_curves_60 : decode b_Mo_curves 60 = .ok (.invokevirtual 155, 3) := by decide +kernel
theorem d_Mo_curves_63 : decode b_Mo_curves 63 = .ok (.return_, 1) := by decide +kernel
abbrev b_Mo_flats : ByteArray := prog_12_method_34_code
abbrev y_Mo_flats : MethodName := ⟨"CharOutlinesModel", "flats", "(Z)V"⟩
set_option maxRecDepth 100000 in
theorem cal_Mo_flats : CalV gd_tbl "CharOutlinesModel" y_Mo_flats b_Mo_flats 5 none 1 := ⟨⟨List.mem_filter.mpr ⟨List.mem_of_getElem? (i := 1030) rfl, rfl⟩, List.mem_filter.mpr ⟨List.mem_of_getElem? (i := 68) rfl, rfl⟩, ⟨by decide, by decide⟩, by decide +kernel⟩, List.mem_filter.mpr ⟨List.mem_of_getElem? (i := 1029) rfl, rfl⟩, List.mem_filter.mpr ⟨List.mem_of_getElem? (i := 53) rfl, rfl⟩⟩
theorem d_Mo_flats_0 : decode b_Mo_flats 0 = .ok (.aload_n 0, 1) := by decide +kernel
theorem d_Mo_flats_1 : decode b_Mo_flats 1 = .ok (.aload_n 0, 1) := by decide +kernel
theorem d_Mo_flats_2 : decode b_Mo_flats 2 = .ok (.getfield 82, 3) := by decide +kernel
theorem d_Mo_flats_5 : decode b_Mo_flats 5 = .ok (.iconst 4, 1) := by decide +kernel
theorem d_Mo_flats_6 : decode b_Mo_flats 6 = .ok (.if_icmp .lt 17, 3) := by decide +kernel
theorem d_Mo_flats_9 : decode b_Mo_flats 9 = .ok (.aload_n 0, 1) := by decide +kernel
theorem d_Mo_flats_10 : decode b_Mo_flats 10 = .ok (.getfield 82, 3) := by decide +kernel
theorem d_Mo_flats_13 : decode b_Mo_flats 13 = .ok (.iconst 4, 1) := by decide +kernel
theorem d_Mo_flats_14 : decode b_Mo_flats 14 = .ok (.irem, 1) := by decide +kernel
theorem d_Mo_flats_15 : decode b_Mo_flats 15 = .ok (.iconst 2, 1) := by decide +kernel
theorem d_Mo_flats_16 : decode b_Mo_flats 16 = .ok (.if_icmp .ge 7, 3) := by decide +kernel
theorem d_Mo_flats_19 : decode b_Mo_flats 19 = .ok (.iconst 1, 1) := by decide +kernel
theorem d_Mo_flats_20 : decode b_Mo_flats 20 = .ok (.goto 4, 3) := by decide +kernel
theorem d_Mo_flats_23 : decode b_Mo_flats 23 = .ok (.iconst 0, 1) := by decide +kernel
theorem d_Mo_flats_24 : decode b_Mo_flats 24 = .ok (.invokevirtual 162, 3) := by decide +kernel
theorem d_Mo_flats_27 : decode b_Mo_flats 27 = .ok (.ifCond .eq 135, 3) := by decide +kernel
theorem d_Mo_flats_30 : decode b_Mo_flats 30 = .ok (.aload_n 0, 1) := by decide +kernel
theorem d_Mo_flats_31 : decode b_Mo_flats 31 = .ok (.getfield 82, 3) := by decide +kernel
theorem d_Mo_flats_34 : decode b_Mo_flats 34 = .ok (.iconst 4, 1) := by decide +kernel
theorem d_Mo_flats_35 : decode b_Mo_flats 35 = .ok (.irem, 1) := by decide +kernel
theorem d_Mo_flats_36 : decode b_Mo_flats 36 = .ok (.istore_n 2, 1) := by decide +kernel
theorem d_Mo_flats_37 : decode b_Mo_flats 37 = .ok (.iload_n 2, 1) := by decide +kernel
theorem d_Mo_flats_38 : decode b_Mo_flats 38 = .ok (.istore_n 3, 1) := by decide +kernel
theorem d_Mo_flats_39 : decode b_Mo_flats 39 = .ok (.iload_n 3, 1) := by decide +kernel
theorem d_Mo_flats_40 : decode b_Mo_flats 40 = .ok (.aload_n 0, 1) := by decide +kernel
theorem d_Mo_flats_41 : decode b_Mo_flats 41 = .ok (.getfield 82, 3) := by decide +kernel
theorem d_Mo_flats_44 : decode b_Mo_flats 44 = .ok (.if_icmp .ge 114, 3) := by decide +kernel
theorem d_Mo_flats_47 : decode b_Mo_flats 47 = .ok (.aload_n 0, 1) := by decide +kernel
theorem d_Mo_flats_48 : decode b_Mo_flats 48 = .ok (.getfield 75, 3) := by decide +kernel
theorem d_Mo_flats_51 : decode b_Mo_flats 51 = .ok (.ifCond .ne 107, 3) := by decide +kernel
theorem d_Mo_flats_54 : decode b_Mo_flats 54 = .ok (.iload_n 3, 1) := by decide +kernel
theorem d_Mo_flats_55 : decode b_Mo_flats 55 = .ok (.iconst 1, 1) := by decide +kernel
theorem d_Mo_flats_56 : decode b_Mo_flats 56 = .ok (.if_icmp .ne 12, 3) := by decide +kernel
theorem d_Mo_flats_59 : decode b_Mo_flats 59 = .ok (.aload_n 0, 1) := by decide +kernel
theorem d_Mo_flats_60 : decode b_Mo_flats 60 = .ok (.getfield 29, 3) := by decide +kernel
theorem d_Mo_flats_63 : decode b_Mo_flats 63 = .ok (.iconst 0, 1) := by decide +kernel
theorem d_Mo_flats_64 : decode b_Mo_flats 64 = .ok (.iaload, 1) := by decide +kernel
theorem d_Mo_flats_65 : decode b_Mo_flats 65 = .ok (.goto 4, 3) := by decide +kernel
theorem d_Mo_flats_68 : decode b_Mo_flats 68 = .ok (.iconst 0, 1) := by decide +kernel
theorem d_Mo_flats_69 : decode b_Mo_flats 69 = .ok (.istore 4, 2) := by decide +kernel
theorem d_Mo_flats_71 : decode b_Mo_flats 71 = .ok (.iload_n 1, 1) := by decide +kernel
theorem d_Mo_flats_72 : decode b_Mo_flats 72 = .ok (.ifCond .eq 43, 3) := by decide +kernel
theorem d_Mo_flats_75 : decode b_Mo_flats 75 = .ok (.aload_n 0, 1) := by decide +kernel
theorem d_Mo_flats_76 : decode b_Mo_flats 76 = .ok (.aload_n 0, 1) := by decide +kernel
theorem d_Mo_flats_77 : decode b_Mo_flats 77 = .ok (.getfield 29, 3) := by decide +kernel
theorem d_Mo_flats_80 : decode b_Mo_flats 80 = .ok (.iload_n 3, 1) := by decide +kernel
theorem d_Mo_flats_81 : decode b_Mo_flats 81 = .ok (.iaload, 1) := by decide +kernel
theorem d_Mo_flats_82 : decode b_Mo_flats 82 = .ok (.iload 4, 2) := by decide +kernel
theorem d_Mo_flats_84 : decode b_Mo_flats 84 = .ok (.aload_n 0, 1) := by decide +kernel
theorem d_Mo_flats_85 : decode b_Mo_flats 85 = .ok (.getfield 29, 3) := by decide +kernel
theorem d_Mo_flats_88 : decode b_Mo_flats 88 = .ok (.iload_n 3, 1) := by decide +kernel
theorem d_Mo_flats_89 : decode b_Mo_flats 89 = .ok (.iconst 1, 1) := by decide +kernel
theorem d_Mo_flats_90 : decode b_Mo_flats 90 = .ok (.iadd, 1) := by decide +kernel
theorem d_Mo_flats_91 : decode b_Mo_flats 91 = .ok (.iaload, 1) := by decide +kernel
theorem d_Mo_flats_92 : decode b_Mo_flats 92 = .ok (.aload_n 0, 1) := by decide +kernel
theorem d_Mo_flats_93 : decode b_Mo_flats 93 = .ok (.getfield 29, 3) := by decide +kernel
theorem d_Mo_flats_96 : decode b_Mo_flats 96 = .ok (.iload_n 3, 1) := by decide +kernel
theorem d_Mo_flats_97 : decode b_Mo_flats 97 = .ok (.iconst 2, 1) := by decide +kernel
theorem d_Mo_flats_98 : decode b_Mo_flats 98 = .ok (.iadd, 1) := by decide +kernel
theorem d_Mo_flats_99 : decode b_Mo_flats 99 = .ok (.iaload, 1) := by decide +kernel
theorem d_Mo_flats_100 : decode b_Mo_flats 100 = .ok (.aload_n 0, 1) := by decide +kernel
theorem d_Mo_flats_101 : decode b_Mo_flats 101 = .ok (.getfield 29, 3) := by decide +kernel
theorem d_Mo_flats_104 : decode b_Mo_flats 104 = .ok (.iload_n 3, 1) := by decide +kernel
theorem d_Mo_flats_105 : decode b_Mo_flats 105 = .ok (.iconst 3, 1) := by decide +kernel
theorem d_Mo_flats_106 : decode b_Mo_flats 106 = .ok (.iadd, 1) := by decide +kernel
theorem d_Mo_flats_107 : decode b_Mo_flats 107 = .ok (.iaload, 1) := by decide +kernel
theorem d_Mo_flats_108 : decode b_Mo_flats 108 = .ok (.iconst 0, 1) := by decide +kernel
theorem d_Mo_flats_109 : decode b_Mo_flats 109 = .ok (.invokevirtual 158, 3) := by decide +kernel
theorem d_Mo_flats_112 : decode b_Mo_flats 112 = .ok (.goto 40, 3) := by decide +kernel
theorem d_Mo_flats_115 : decode b_Mo_flats 115 = .ok (.aload_n 0, 1) := by decide +kernel
theorem d_Mo_flats_116 : decode b_Mo_flats 116 = .ok (.iload 4, 2) := by decide +kernel
theorem d_Mo_flats_118 : decode b_Mo_flats 118 = .ok (.aload_n 0, 1) := by decide +kernel
theorem d_Mo_flats_119 : decode b_Mo_flats 119 = .ok (.getfield 29, 3) := by decide +kernel
theorem d_Mo_flats_122 : decode b_Mo_flats 122 = .ok (.iload_n 3, 1) := by decide +kernel
theorem d_Mo_flats_123 : decode b_Mo_flats 123 = .ok (.iaload, 1) := by decide +kernel
theorem d_Mo_flats_124 : decode b_Mo_flats 124 = .ok (.aload_n 0, 1) := by decide +kernel
theorem d_Mo_flats_125 : decode b_Mo_flats 125 = .ok (.getfield 29, 3) := by decide +kernel
theorem d_Mo_flats_128 : decode b_Mo_flats 128 = .ok (.iload_n 3, 1) := by decide +kernel
theorem d_Mo_flats_129 : decode b_Mo_flats 129 = .ok (.iconst 1, 1) := by decide +kernel
theorem d_Mo_flats_130 : decode b_Mo_flats 130 = .ok (.iadd, 1) := by decide +kernel
theorem d_Mo_flats_131 : decode b_Mo_flats 131 = .ok (.iaload, 1) := by decide +kernel
theorem d_Mo_flats_132 : decode b_Mo_flats 132 = .ok (.aload_n 0, 1) := by decide +kernel
theorem d_Mo_flats_133 : decode b_Mo_flats 133 = .ok (.getfield 29, 3) := by decide +kernel
theorem d_Mo_flats_136 : decode b_Mo_flats 136 = .ok (.iload_n 3, 1) := by decide +kernel
theorem d_Mo_flats_137 : decode b_Mo_flats 137 = .ok (.iconst 2, 1) := by decide +kernel
theorem d_Mo_flats_138 : decode b_Mo_flats 138 = .ok (.iadd, 1) := by decide +kernel
theorem d_Mo_flats_139 : decode b_Mo_flats 139 = .ok (.iaload, 1) := by decide +kernel
theorem d_Mo_flats_140 : decode b_Mo_flats 140 = .ok (.iconst 0, 1) := by decide +kernel
theorem d_Mo_flats_141 : decode b_Mo_flats 141 = .ok (.aload_n 0, 1) := by decide +kernel
theorem d_Mo_flats_142 : decode b_Mo_flats 142 = .ok (.getfield 29, 3) := by decide +kernel
theorem d_Mo_flats_145 : decode b_Mo_flats 145 = .ok (.iload_n 3, 1) := by decide +kernel
theorem d_Mo_flats_146 : decode b_Mo_flats 146 = .ok (.iconst 3, 1) := by decide +kernel
theorem d_Mo_flats_147 : decode b_Mo_flats 147 = .ok (.iadd, 1) := by decide +kernel
theorem d_Mo_flats_148 : decode b_Mo_flats 148 = .ok (.iaload, 1) := by decide +kernel
theorem d_Mo_flats_149 : decode b_Mo_flats 149 = .ok (.invokevirtual 158, 3) := by decide +kernel
theorem d_Mo_flats_152 : decode b_Mo_flats 152 = .ok (.iinc 3 4, 3) := by decide +kernel
theorem d_Mo_flats_155 : decode b_Mo_flats 155 = .ok (.goto (-116), 3) := by decide +kernel
theorem d_Mo_flats_158 : decode b_Mo_flats 158 = .ok (.aload_n 0, 1) := by decide +kernel
theorem d_Mo_flats_159 : decode b_Mo_flats 159 = .ok (.invokevirtual 155, 3) := by decide +kernel
theorem d_Mo_flats_162 : decode b_Mo_flats 162 = .ok (.return_, 1) := by decide +kernel
abbrev b_Mo_waves : ByteArray := prog_12_method_35_code
abbrev y_Mo_waves : MethodName := ⟨"CharOutlinesModel", "waves", "(Z)V"⟩
set_option maxRecDepth 100000 in
theorem cal_Mo_waves : CalV gd_tbl "CharOutlinesModel" y_Mo_waves b_Mo_waves 6 none 1 := ⟨⟨List.mem_filter.mpr ⟨List.mem_of_getElem? (i := 1034) rfl, rfl⟩, List.mem_filter.mpr ⟨List.mem_of_getElem? (i := 68) rfl, rfl⟩, ⟨by decide, by decide⟩, by decide +kernel⟩, List.mem_filter.mpr ⟨List.mem_of_getElem? (i := 1033) rfl, rfl⟩, List.mem_filter.mpr ⟨List.mem_of_getElem? (i := 54) rfl, rfl⟩⟩
theorem d_Mo_waves_0 : decode b_Mo_waves 0 = .ok (.aload_n 0, 1) := by decide +kernel
theorem d_Mo_waves_1 : decode b_Mo_waves 1 = .ok (.aload_n 0, 1) := by decide +kernel
theorem d_Mo_waves_2 : decode b_Mo_waves 2 = .ok (.getfield 82, 3) := by decide +kernel
theorem d_Mo_waves_5 : decode b_Mo_waves 5 = .ok (.iconst 4, 1) := by decide +kernel
theorem d_Mo_waves_6 : decode b_Mo_waves 6 = .ok (.if_icmp .lt 17, 3) := by decide +kernel
theorem d_Mo_waves_9 : decode b_Mo_waves 9 = .ok (.aload_n 0, 1) := by decide +kernel
theorem d_Mo_waves_10 : decode b_Mo_waves 10 = .ok (.getfield 82, 3) := by decide +kernel
theorem d_Mo_waves_13 : decode b_Mo_waves 13 = .ok (.iconst 4, 1) := by decide +kernel
theorem d_Mo_waves_14 : decode b_Mo_waves 14 = .ok (.irem, 1) := by decide +kernel
theorem d_Mo_waves_15 : decode b_Mo_waves 15 = .ok (.iconst 2, 1) := by decide +kernel
theorem d_Mo_waves_16 : decode b_Mo_waves 16 = .ok (.if_icmp .ge 7, 3) := by decide +kernel
theorem d_Mo_waves_19 : decode b_Mo_waves 19 = .ok (.iconst 1, 1) := by decide +kernel
theorem d_Mo_waves_20 : decode b_Mo_waves 20 = .ok (.goto 4, 3) := by decide +kernel
theorem d_Mo_waves_23 : decode b_Mo_waves 23 = .ok (.iconst 0, 1) := by decide +kernel
theorem d_Mo_waves_24 : decode b_Mo_waves 24 = .ok (.invokevirtual 162, 3) := by decide +kernel
theorem d_Mo_waves_27 : decode b_Mo_waves 27 = .ok (.ifCond .eq 171, 3) := by decide +kernel
theorem d_Mo_waves_30 : decode b_Mo_waves 30 = .ok (.aload_n 0, 1) := by decide +kernel
theorem d_Mo_waves_31 : decode b_Mo_waves 31 = .ok (.getfield 82, 3) := by decide +kernel
theorem d_Mo_waves_34 : decode b_Mo_waves 34 = .ok (.aload_n 0, 1) := by decide +kernel
theorem d_Mo_waves_35 : decode b_Mo_waves 35 = .ok (.getfield 82, 3) := by decide +kernel
theorem d_Mo_waves_38 : decode b_Mo_waves 38 = .ok (.iconst 4, 1) := by decide +kernel
theorem d_Mo_waves_39 : decode b_Mo_waves 39 = .ok (.irem, 1) := by decide +kernel
theorem d_Mo_waves_40 : decode b_Mo_waves 40 = .ok (.isub, 1) := by decide +kernel
theorem d_Mo_waves_41 : decode b_Mo_waves 41 = .ok (.istore_n 2, 1) := by decide +kernel
theorem d_Mo_waves_42 : decode b_Mo_waves 42 = .ok (.iconst 0, 1) := by decide +kernel
theorem d_Mo_waves_43 : decode b_Mo_waves 43 = .ok (.istore_n 3, 1) := by decide +kernel
theorem d_Mo_waves_44 : decode b_Mo_waves 44 = .ok (.iload_n 3, 1) := by decide +kernel
theorem d_Mo_waves_45 : decode b_Mo_waves 45 = .ok (.iload_n 2, 1) := by decide +kernel
theorem d_Mo_waves_46 : decode b_Mo_waves 46 = .ok (.if_icmp .ge 148, 3) := by decide +kernel
theorem d_Mo_waves_49 : decode b_Mo_waves 49 = .ok (.aload_n 0, 1) := by decide +kernel
theorem d_Mo_waves_50 : decode b_Mo_waves 50 = .ok (.getfield 75, 3) := by decide +kernel
theorem d_Mo_waves_53 : decode b_Mo_waves 53 = .ok (.ifCond .ne 141, 3) := by decide +kernel
theorem d_Mo_waves_56 : decode b_Mo_waves 56 = .ok (.iload_n 3, 1) := by decide +kernel
theorem d_Mo_waves_57 : decode b_Mo_waves 57 = .ok (.iconst 5, 1) := by decide +kernel
theorem d_Mo_waves_58 : decode b_Mo_waves 58 = .ok (.iadd, 1) := by decide +kernel
theorem d_Mo_waves_59 : decode b_Mo_waves 59 = .ok (.aload_n 0, 1) := by decide +kernel
theorem d_Mo_waves_60 : decode b_Mo_waves 60 = .ok (.getfield 82, 3) := by decide +kernel
theorem d_Mo_waves_63 : decode b_Mo_waves 63 = .ok (.if_icmp .ne 17, 3) := by decide +kernel
theorem d_Mo_waves_66 : decode b_Mo_waves 66 = .ok (.aload_n 0, 1) := by decide +kernel
theorem d_Mo_waves_67 : decode b_Mo_waves 67 = .ok (.getfield 29, 3) := by decide +kernel
theorem d_Mo_waves_70 : decode b_Mo_waves 70 = .ok (.aload_n 0, 1) := by decide +kernel
theorem d_Mo_waves_71 : decode b_Mo_waves 71 = .ok (.getfield 82, 3) := by decide +kernel
theorem d_Mo_waves_74 : decode b_Mo_waves 74 = .ok (.iconst 1, 1) := by decide +kernel
theorem d_Mo_waves_75 : decode b_Mo_waves 75 = .ok (.isub, 1) := by decide +kernel
theorem d_Mo_waves_76 : decode b_Mo_waves 76 = .ok (.iaload, 1) := by decide +kernel
theorem d_Mo_waves_77 : decode b_Mo_waves 77 = .ok (.goto 4, 3) := by decide +kernel
theorem d_Mo_waves_80 : decode b_Mo_waves 80 = .ok (.iconst 0, 1) := by decide +kernel
theorem d_Mo_waves_81 : decode b_Mo_waves 81 = .ok (.istore 4, 2) := by decide +kernel
theorem d_Mo_waves_83 : decode b_Mo_waves 83 = .ok (.iload_n 3, 1) := by decide +kernel
theorem d_Mo_waves_84 : decode b_Mo_waves 84 = .ok (.bipush 8, 2) := by decide +kernel
theorem d_Mo_waves_86 : decode b_Mo_waves 86 = .ok (.irem, 1) := by decide +kernel
theorem d_Mo_waves_87 : decode b_Mo_waves 87 = .ok (.ifCond .ne 7, 3) := by decide +kernel
theorem d_Mo_waves_90 : decode b_Mo_waves 90 = .ok (.iconst 1, 1) := by decide +kernel
theorem d_Mo_waves_91 : decode b_Mo_waves 91 = .ok (.goto 4, 3) := by decide +kernel
theorem d_Mo_waves_94 : decode b_Mo_waves 94 = .ok (.iconst 0, 1) := by decide +kernel
theorem d_Mo_waves_95 : decode b_Mo_waves 95 = .ok (.iload_n 1, 1) := by decide +kernel
theorem d_Mo_waves_96 : decode b_Mo_waves 96 = .ok (.if_icmp .ne 7, 3) := by decide +kernel
theorem d_Mo_waves_99 : decode b_Mo_waves 99 = .ok (.iconst 1, 1) := by decide +kernel
theorem d_Mo_waves_100 : decode b_Mo_waves 100 = .ok (.goto 4, 3) := by decide +kernel
theorem d_Mo_waves_103 : decode b_Mo_waves 103 = .ok (.iconst 0, 1) := by decide +kernel
theorem d_Mo_waves_104 : decode b_Mo_waves 104 = .ok (.istore 5, 2) := by decide +kernel
theorem d_Mo_waves_106 : decode b_Mo_waves 106 = .ok (.iload 5, 2) := by decide +kernel
theorem d_Mo_waves_108 : decode b_Mo_waves 108 = .ok (.ifCond .eq 43, 3) := by decide +kernel
theorem d_Mo_waves_111 : decode b_Mo_waves 111 = .ok (.aload_n 0, 1) := by decide +kernel
theorem d_Mo_waves_112 : decode b_Mo_waves 112 = .ok (.aload_n 0, 1) := by decide +kernel
theorem d_Mo_waves_113 : decode b_Mo_waves 113 = .ok (.getfield 29, 3) := by decide +kernel
theorem d_Mo_waves_116 : decode b_Mo_waves 116 = .ok (.iload_n 3, 1) := by decide +kernel
theorem d_Mo_waves_117 : decode b_Mo_waves 117 = .ok (.iaload, 1) := by decide +kernel
theorem d_Mo_waves_118 : decode b_Mo_waves 118 = .ok (.iconst 0, 1) := by decide +kernel
theorem d_Mo_waves_119 : decode b_Mo_waves 119 = .ok (.aload_n 0, 1) := by decide +kernel
theorem d_Mo_waves_120 : decode b_Mo_waves 120 = .ok (.getfield 29, 3) := by decide +kernel
theorem d_Mo_waves_123 : decode b_Mo_waves 123 = .ok (.iload_n 3, 1) := by decide +kernel
theorem d_Mo_waves_124 : decode b_Mo_waves 124 = .ok (.iconst 1, 1) := by decide +kernel
theorem d_Mo_waves_125 : decode b_Mo_waves 125 = .ok (.iadd, 1) := by decide +kernel
theorem d_Mo_waves_126 : decode b_Mo_waves 126 = .ok (.iaload, 1) := by decide +kernel
theorem d_Mo_waves_127 : decode b_Mo_waves 127 = .ok (.aload_n 0, 1) := by decide +kernel
theorem d_Mo_waves_128 : decode b_Mo_waves 128 = .ok (.getfield 29, 3) := by decide +kernel
theorem d_Mo_waves_131 : decode b_Mo_waves 131 = .ok (.iload_n 3, 1) := by decide +kernel
theorem d_Mo_waves_132 : decode b_Mo_waves 132 = .ok (.iconst 2, 1) := by decide +kernel
theorem d_Mo_waves_133 : decode b_Mo_waves 133 = .ok (.iadd, 1) := by decide +kernel
theorem d_Mo_waves_134 : decode b_Mo_waves 134 = .ok (.iaload, 1) := by decide +kernel
theorem d_Mo_waves_135 : decode b_Mo_waves 135 = .ok (.iload 4, 2) := by decide +kernel
theorem d_Mo_waves_137 : decode b_Mo_waves 137 = .ok (.aload_n 0, 1) := by decide +kernel
theorem d_Mo_waves_138 : decode b_Mo_waves 138 = .ok (.getfield 29, 3) := by decide +kernel
theorem d_Mo_waves_141 : decode b_Mo_waves 141 = .ok (.iload_n 3, 1) := by decide +kernel
theorem d_Mo_waves_142 : decode b_Mo_waves 142 = .ok (.iconst 3, 1) := by decide +kernel
theorem d_Mo_waves_143 : decode b_Mo_waves 143 = .ok (.iadd, 1) := by decide +kernel
theorem d_Mo_waves_144 : decode b_Mo_waves 144 = .ok (.iaload, 1) := by decide +kernel
theorem d_Mo_waves_145 : decode b_Mo_waves 145 = .ok (.invokevirtual 158, 3) := by decide +kernel
theorem d_Mo_waves_148 : decode b_Mo_waves 148 = .ok (.goto 40, 3) := by decide +kernel
theorem d_Mo_waves_151 : decode b_Mo_waves 151 = .ok (.aload_n 0, 1) := by decide +kernel
theorem d_Mo_waves_152 : decode b_Mo_waves 152 = .ok (.iconst 0, 1) := by decide +kernel
theorem d_Mo_waves_153 : decode b_Mo_waves 153 = .ok (.aload_n 0, 1) := by decide +kernel
theorem d_Mo_waves_154 : decode b_Mo_waves 154 = .ok (.getfield 29, 3) := by decide +kernel
theorem d_Mo_waves_157 : decode b_Mo_waves 157 = .ok (.iload_n 3, 1) := by decide +kernel
theorem d_Mo_waves_158 : decode b_Mo_waves 158 = .ok (.iaload, 1) := by decide +kernel
theorem d_Mo_waves_159 : decode b_Mo_waves 159 = .ok (.aload_n 0, 1) := by decide +kernel
theorem d_Mo_waves_160 : decode b_Mo_waves 160 = .ok (.getfield 29, 3) := by decide +kernel
theorem d_Mo_waves_163 : decode b_Mo_waves 163 = .ok (.iload_n 3, 1) := by decide +kernel
theorem d_Mo_waves_164 : decode b_Mo_waves 164 = .ok (.iconst 1, 1) := by decide +kernel
theorem d_Mo_waves_165 : decode b_Mo_waves 165 = .ok (.iadd, 1) := by decide +kernel
theorem d_Mo_waves_166 : decode b_Mo_waves 166 = .ok (.iaload, 1) := by decide +kernel
theorem d_Mo_waves_167 : decode b_Mo_waves 167 = .ok (.aload_n 0, 1) := by decide +kernel
theorem d_Mo_waves_168 : decode b_Mo_waves 168 = .ok (.getfield 29, 3) := by decide +kernel
theorem d_Mo_waves_171 : decode b_Mo_waves 171 = .ok (.iload_n 3, 1) := by decide +kernel
theorem d_Mo_waves_172 : decode b_Mo_waves 172 = .ok (.iconst 2, 1) := by decide +kernel
theorem d_Mo_waves_173 : decode b_Mo_waves 173 = .ok (.iadd, 1) := by decide +kernel
theorem d_Mo_waves_174 : decode b_Mo_waves 174 = .ok (.iaload, 1) := by decide +kernel
theorem d_Mo_waves_175 : decode b_Mo_waves 175 = .ok (.aload_n 0, 1) := by decide +kernel
theorem d_Mo_waves_176 : decode b_Mo_waves 176 = .ok (.getfield 29, 3) := by decide +kernel
theorem d_Mo_waves_179 : decode b_Mo_waves 179 = .ok (.iload_n 3, 1) := by decide +kernel
theorem d_Mo_waves_180 : decode b_Mo_waves 180 = .ok (.iconst 3, 1) := by decide +kernel
theorem d_Mo_waves_181 : decode b_Mo_waves 181 = .ok (.iadd, 1) := by decide +kernel
theorem d_Mo_waves_182 : decode b_Mo_waves 182 = .ok (.iaload, 1) := by decide +kernel
theorem d_Mo_waves_183 : decode b_Mo_waves 183 = .ok (.iload 4, 2) := by decide +kernel
theorem d_Mo_waves_185 : decode b_Mo_waves 185 = .ok (.invokevirtual 158, 3) := by decide +kernel
theorem d_Mo_waves_188 : decode b_Mo_waves 188 = .ok (.iinc 3 4, 3) := by decide +kernel
theorem d_Mo_waves_191 : decode b_Mo_waves 191 = .ok (.goto (-147), 3) := by decide +kernel
theorem d_Mo_waves_194 : decode b_Mo_waves 194 = .ok (.aload_n 0, 1) := by decide +kernel
theorem d_Mo_waves_195 : decode b_Mo_waves 195 = .ok (.invokevirtual 155, 3) := by decide +kernel
theorem d_Mo_waves_198 : decode b_Mo_waves 198 = .ok (.return_, 1) := by decide +kernel
abbrev b_Mo_curvesLine : ByteArray := prog_12_method_36_code
abbrev y_Mo_curvesLine : MethodName := ⟨"CharOutlinesModel", "curvesLine", "()V"⟩
set_option maxRecDepth 100000 in
theorem cal_Mo_curvesLine : CalV gd_tbl "CharOutlinesModel" y_Mo_curvesLine b_Mo_curvesLine 2 none 0 := ⟨⟨List.mem_filter.mpr ⟨List.mem_of_getElem? (i := 1038) rfl, rfl⟩, List.mem_filter.mpr ⟨List.mem_of_getElem? (i := 68) rfl, rfl⟩, ⟨by decide, by decide⟩, by decide +kernel⟩, List.mem_filter.mpr ⟨List.mem_of_getElem? (i := 1037) rfl, rfl⟩, List.mem_filter.mpr ⟨List.mem_of_getElem? (i := 55) rfl, rfl⟩⟩
theorem d_Mo_curvesLine_0 : decode b_Mo_curvesLine 0 = .ok (.aload_n 0, 1) := by decide +kernel
theorem d_Mo_curvesLine_1 : decode b_Mo_curvesLine 1 = .ok (.aload_n 0, 1) := by decide +kernel
theorem d_Mo_curvesLine_2 : decode b_Mo_curvesLine 2 = .ok (.getfield 82, 3) := by decide +kernel
theorem d_Mo_curvesLine_5 : decode b_Mo_curvesLine 5 = .ok (.bipush 8, 2) := by decide +kernel
theorem d_Mo_curvesLine_7 : decode b_Mo_curvesLine 7 = .ok (.if_icmp .lt 18, 3) := by decide +kernel
theorem d_Mo_curvesLine_10 : decode b_Mo_curvesLine 10 = .ok (.aload_n 0, 1) := by decide +kernel
theorem d_Mo_curvesLine_11 : decode b_Mo_curvesLine 11 = .ok (.getfield 82, 3) := by decide +kernel
theorem d_Mo_curvesLine_14 : decode b_Mo_curvesLine 14 = .ok (.bipush 6, 2) := by decide +kernel
theorem d_Mo_curvesLine_16 : decode b_Mo_curvesLine 16 = .ok (.irem, 1) := by decide +kernel
theorem d_Mo_curvesLine_17 : decode b_Mo_curvesLine 17 = .ok (.iconst 2, 1) := by decide +kernel
theorem d_Mo_curvesLine_18 : decode b_Mo_curvesLine 18 = .ok (.if_icmp .ne 7, 3) := by decide +kernel
theorem d_Mo_curvesLine_21 : decode b_Mo_curvesLine 21 = .ok (.iconst 1, 1) := by decide +kernel
theorem d_Mo_curvesLine_22 : decode b_Mo_curvesLine 22 = .ok (.goto 4, 3) := by decide +kernel
theorem d_Mo_curvesLine_25 : decode b_Mo_curvesLine 25 = .ok (.iconst 0, 1) := by decide +kernel
theorem d_Mo_curvesLine_26 : decode b_Mo_curvesLine 26 = .ok (.invokevirtual 162, 3) := by decide +kernel
theorem d_Mo_curvesLine_29 : decode b_Mo_curvesLine 29 = .ok (.ifCond .eq 70, 3) := by decide +kernel
theorem d_Mo_curvesLine_32 : decode b_Mo_curvesLine 32 = .ok (.iconst 0, 1) := by decide +kernel
theorem d_Mo_curvesLine_33 : decode b_Mo_curvesLine 33 = .ok (.istore_n 1, 1) := by decide +kernel
theorem d_Mo_curvesLine_34 : decode b_Mo_curvesLine 34 = .ok (.iload_n 1, 1) := by decide +kernel
theorem d_Mo_curvesLine_35 : decode b_Mo_curvesLine 35 = .ok (.iconst 2, 1) := by decide +kernel
theorem d_Mo_curvesLine_36 : decode b_Mo_curvesLine 36 = .ok (.iadd, 1) := by decide +kernel
theorem d_Mo_curvesLine_37 : decode b_Mo_curvesLine 37 = .ok (.aload_n 0, 1) := by decide +kernel
theorem d_Mo_curvesLine_38 : decode b_Mo_curvesLine 38 = .ok (.getfield 82, 3) := by decide +kernel
theorem d_Mo_curvesLine_41 : decode b_Mo_curvesLine 41 = .ok (.if_icmp .ge 21, 3) := by decide +kernel
theorem d_Mo_curvesLine_44 : decode b_Mo_curvesLine 44 = .ok (.aload_n 0, 1) := by decide +kernel
theorem d_Mo_curvesLine_45 : decode b_Mo_curvesLine 45 = .ok (.getfield 75, 3) := by decide +kernel
theorem d_Mo_curvesLine_48 : decode b_Mo_curvesLine 48 = .ok (.ifCond .ne 14, 3) := by decide +kernel
theorem d_Mo_curvesLine_51 : decode b_Mo_curvesLine 51 = .ok (.aload_n 0, 1) := by decide +kernel
theorem d_Mo_curvesLine_52 : decode b_Mo_curvesLine 52 = .ok (.iload_n 1, 1) := by decide +kernel
theorem d_Mo_curvesLine_53 : decode b_Mo_curvesLine 53 = .ok (.invokevirtual 169, 3) := by decide +kernel
theorem d_Mo_curvesLine_56 : decode b_Mo_curvesLine 56 = .ok (.iinc 1 6, 3) := by decide +kernel
theorem d_Mo_curvesLine_59 : decode b_Mo_curvesLine 59 = .ok (.goto (-25), 3) := by decide +kernel
theorem d_Mo_curvesLine_62 : decode b_Mo_curvesLine 62 = .ok (.aload_n 0, 1) := by decide +kernel
theorem d_Mo_curvesLine_63 : decode b_Mo_curvesLine 63 = .ok (.getfield 75, 3) := by decide +kernel
theorem d_Mo_curvesLine_66 : decode b_Mo_curvesLine 66 = .ok (.ifCond .ne 29, 3) := by decide +kernel
theorem d_Mo_curvesLine_69 : decode b_Mo_curvesLine 69 = .ok (.aload_n 0, 1) := by decide +kernel
theorem d_Mo_curvesLine_70 : decode b_Mo_curvesLine 70 = .ok (.aload_n 0, 1) := by decide +kernel
theorem d_Mo_curvesLine_71 : decode b_Mo_curvesLine 71 = .ok (.getfield 29, 3) := by decide +kernel
theorem d_Mo_curvesLine_74 : decode b_Mo_curvesLine 74 = .ok (.aload_n 0, 1) := by decide +kernel
theorem d_Mo_curvesLine_75 : decode b_Mo_curvesLine 75 = .ok (.getfield 82, 3) := by decide +kernel
theorem d_Mo_curvesLine_78 : decode b_Mo_curvesLine 78 = .ok (.iconst 2, 1) := by decide +kernel
theorem d_Mo_curvesLine_79 : decode b_Mo_curvesLine 79 = .ok (.isub, 1) := by decide +kernel
theorem d_Mo_curvesLine_80 : decode b_Mo_curvesLine 80 = .ok (.iaload, 1) := by decide +kernel
theorem d_Mo_curvesLine_81 : decode b_Mo_curvesLine 81 = .ok (.aload_n 0, 1) := by decide +kernel
theorem d_Mo_curvesLine_82 : decode b_Mo_curvesLine 82 = .ok (.getfield 29, 3) := by decide +kernel
theorem d_Mo_curvesLine_85 : decode b_Mo_curvesLine 85 = .ok (.aload_n 0, 1) := by decide +kernel
theorem d_Mo_curvesLine_86 : decode b_Mo_curvesLine 86 = .ok (.getfield 82, 3) := by decide +kernel
theorem d_Mo_curvesLine_89 : decode b_Mo_curvesLine 89 = .ok (.iconst 1, 1) := by decide +kernel
theorem d_Mo_curvesLine_90 : decode b_Mo_curvesLine 90 = .ok (.isub, 1) := by decide +kernel
theorem d_Mo_curvesLine_91 : decode b_Mo_curvesLine 91 = .ok (.iaload, 1) := by decide +kernel
theorem d_Mo_curvesLine_92 : decode b_Mo_curvesLine 92 = .ok (.invokevirtual 166, 3) := by decide +kernel
theorem d_Mo_curvesLine_95 : decode b_Mo_curvesLine 95 = .ok (.aload_n 0, 1) := by decide +kernel
theorem d_Mo_curvesLine_96 : decode b_Mo_curvesLine 96 = .ok (.invokevirtual 155, 3) := by decide +kernel
theorem d_Mo_curvesLine_99 : decode b_Mo_curvesLine 99 = .ok (.return_, 1) := by decide +kernel
abbrev b_Mo_linesCurve : ByteArray := prog_12_method_37_code
abbrev y_Mo_linesCurve : MethodName := ⟨"CharOutlinesModel", "linesCurve", "()V"⟩
set_option maxRecDepth 100000 in
theorem cal_Mo_linesCurve : CalV gd_tbl "CharOutlinesModel" y_Mo_linesCurve b_Mo_linesCurve 2 none 0 := ⟨⟨List.mem_filter.mpr ⟨List.mem_of_getElem? (i := 1042) rfl, rfl⟩, List.mem_filter.mpr ⟨List.mem_of_getElem? (i := 68) rfl, rfl⟩, ⟨by decide, by decide⟩, by decide +kernel⟩, List.mem_filter.mpr ⟨List.mem_of_getElem? (i := 1041) rfl, rfl⟩, List.mem_filter.mpr ⟨List.mem_of_getElem? (i := 56) rfl, rfl⟩⟩
theorem d_Mo_linesCurve_0 : decode b_Mo_linesCurve 0 = .ok (.aload_n 0, 1) := by decide +kernel
theorem d_Mo_linesCurve_1 : decode b_Mo_linesCurve 1 = .ok (.aload_n 0, 1) := by decide +kernel
theorem d_Mo_linesCurve_2 : decode b_Mo_linesCurve 2 = .ok (.getfield 82, 3) := by decide +kernel
theorem d_Mo_linesCurve_5 : decode b_Mo_linesCurve 5 = .ok (.bipush 8, 2) := by decide +kernel
theorem d_Mo_linesCurve_7 : decode b_Mo_linesCurve 7 = .ok (.if_icmp .lt 16, 3) := by decide +kernel
theorem d_Mo_linesCurve_10 : decode b_Mo_linesCurve 10 = .ok (.aload_n 0, 1) := by decide +kernel
theorem d_Mo_linesCurve_11 : decode b_Mo_linesCurve 11 = .ok (.getfield 82, 3) := by decide +kernel
theorem d_Mo_linesCurve_14 : decode b_Mo_linesCurve 14 = .ok (.iconst 2, 1) := by decide +kernel
theorem d_Mo_linesCurve_15 : decode b_Mo_linesCurve 15 = .ok (.irem, 1) := by decide +kernel
theorem d_Mo_linesCurve_16 : decode b_Mo_linesCurve 16 = .ok (.ifCond .ne 7, 3) := by decide +kernel
theorem d_Mo_linesCurve_19 : decode b_Mo_linesCurve 19 = .ok (.iconst 1, 1) := by decide +kernel
theorem d_Mo_linesCurve_20 : decode b_Mo_linesCurve 20 = .ok (.goto 4, 3) := by decide +kernel
theorem d_Mo_linesCurve_23 : decode b_Mo_linesCurve 23 = .ok (.iconst 0, 1) := by decide +kernel
theorem d_Mo_linesCurve_24 : decode b_Mo_linesCurve 24 = .ok (.invokevirtual 162, 3) := by decide +kernel
theorem d_Mo_linesCurve_27 : decode b_Mo_linesCurve 27 = .ok (.ifCond .eq 69, 3) := by decide +kernel
theorem d_Mo_linesCurve_30 : decode b_Mo_linesCurve 30 = .ok (.iconst 0, 1) := by decide +kernel
theorem d_Mo_linesCurve_31 : decode b_Mo_linesCurve 31 = .ok (.istore_n 1, 1) := by decide +kernel
theorem d_Mo_linesCurve_32 : decode b_Mo_linesCurve 32 = .ok (.iload_n 1, 1) := by decide +kernel
theorem d_Mo_linesCurve_33 : decode b_Mo_linesCurve 33 = .ok (.bipush 6, 2) := by decide +kernel
theorem d_Mo_linesCurve_35 : decode b_Mo_linesCurve 35 = .ok (.iadd, 1) := by decide +kernel
theorem d_Mo_linesCurve_36 : decode b_Mo_linesCurve 36 = .ok (.aload_n 0, 1) := by decide +kernel
theorem d_Mo_linesCurve_37 : decode b_Mo_linesCurve 37 = .ok (.getfield 82, 3) := by decide +kernel
theorem d_Mo_linesCurve_40 : decode b_Mo_linesCurve 40 = .ok (.if_icmp .ge 34, 3) := by decide +kernel
theorem d_Mo_linesCurve_43 : decode b_Mo_linesCurve 43 = .ok (.aload_n 0, 1) := by decide +kernel
theorem d_Mo_linesCurve_44 : decode b_Mo_linesCurve 44 = .ok (.getfield 75, 3) := by decide +kernel
theorem d_Mo_linesCurve_47 : decode b_Mo_linesCurve 47 = .ok (.ifCond .ne 27, 3) := by decide +kernel
theorem d_Mo_linesCurve_50 : decode b_Mo_linesCurve 50 = .ok (.aload_n 0, 1) := by decide +kernel
theorem d_Mo_linesCurve_51 : decode b_Mo_linesCurve 51 = .ok (.aload_n 0, 1) := by decide +kernel
theorem d_Mo_linesCurve_52 : decode b_Mo_linesCurve 52 = .ok (.getfield 29, 3) := by decide +kernel
theorem d_Mo_linesCurve_55 : decode b_Mo_linesCurve 55 = .ok (.iload_n 1, 1) := by decide +kernel
theorem d_Mo_linesCurve_56 : decode b_Mo_linesCurve 56 = .ok (.iaload, 1) := by decide +kernel
theorem d_Mo_linesCurve_57 : decode b_Mo_linesCurve 57 = .ok (.aload_n 0, 1) := by decide +kernel
theorem d_Mo_linesCurve_58 : decode b_Mo_linesCurve 58 = .ok (.getfield 29, 3) := by decide +kernel
theorem d_Mo_linesCurve_61 : decode b_Mo_linesCurve 61 = .ok (.iload_n 1, 1) := by decide +kernel
theorem d_Mo_linesCurve_62 : decode b_Mo_linesCurve 62 = .ok (.iconst 1, 1) := by decide +kernel
theorem d_Mo_linesCurve_63 : decode b_Mo_linesCurve 63 = .ok (.iadd, 1) := by decide +kernel
theorem d_Mo_linesCurve_64 : decode b_Mo_linesCurve 64 = .ok (.iaload, 1) := by decide +kernel
theorem d_Mo_linesCurve_65 : decode b_Mo_linesCurve 65 = .ok (.invokevirtual 166, 3) := by decide +kernel
theorem d_Mo_linesCurve_68 : decode b_Mo_linesCurve 68 = .ok (.iinc 1 2, 3) := by decide +kernel
theorem d_Mo_linesCurve_71 : decode b_Mo_linesCurve 71 = .ok (.goto (-39), 3) := by decide +kernel
theorem d_Mo_linesCurve_74 : decode b_Mo_linesCurve 74 = .ok (.aload_n 0, 1) := by decide +kernel
theorem d_Mo_linesCurve_75 : decode b_Mo_linesCurve 75 = .ok (.getfield 75, 3) := by decide +kernel
theorem d_Mo_linesCurve_78 : decode b_Mo_linesCurve 78 = .ok (.ifCond .ne 14, 3) := by decide +kernel
theorem d_Mo_linesCurve_81 : decode b_Mo_linesCurve 81 = .ok (.aload_n 0, 1) := by decide +kernel
theorem d_Mo_linesCurve_82 : decode b_Mo_linesCurve 82 = .ok (.aload_n 0, 1) := by decide +kernel
theorem d_Mo_linesCurve_83 : decode b_Mo_linesCurve 83 = .ok (.getfield 82, 3) := by decide +kernel
theorem d_Mo_linesCurve_86 : decode b_Mo_linesCurve 86 = .ok (.bipush 6, 2) := by decide +kernel
theorem d_Mo_linesCurve_88 : decode b_Mo_linesCurve 88 = .ok (.isub, 1) := by decide +kernel
theorem d_Mo_linesCurve_89 : decode b_Mo_linesCurve 89 = .ok (.invokevirtual 169, 3) := by decide +kernel
theorem d_Mo_linesCurve_92 : decode b_Mo_linesCurve 92 = .ok (.aload_n 0, 1) := by decide +kernel
theorem d_Mo_linesCurve_93 : decode b_Mo_linesCurve 93 = .ok (.invokevirtual 155, 3) := by decide +kernel
theorem d_Mo_linesCurve_96 : decode b_Mo_linesCurve 96 = .ok (.return_, 1) := by decide +kernel
abbrev b_Mo_two : ByteArray := prog_12_method_38_code
abbrev y_Mo_two : MethodName := ⟨"CharOutlinesModel", "two", "(IIIIII)V"⟩
set_option maxRecDepth 100000 in
theorem cal_Mo_two : CalV gd_tbl "CharOutlinesModel" y_Mo_two b_Mo_two 7 none 6 := ⟨⟨List.mem_filter.mpr ⟨List.mem_of_getElem? (i := 936) rfl, rfl⟩, List.mem_filter.mpr ⟨List.mem_of_getElem? (i := 68) rfl, rfl⟩, ⟨by decide, by decide⟩, by decide +kernel⟩, List.mem_filter.mpr ⟨List.mem_of_getElem? (i := 935) rfl, rfl⟩, List.mem_filter.mpr ⟨List.mem_of_getElem? (i := 34) rfl, rfl⟩⟩
theorem d_Mo_two_0 : decode b_Mo_two 0 = .ok (.aload_n 0, 1) := by decide +kernel
theorem d_Mo_two_1 : decode b_Mo_two 1 = .ok (.getfield 75, 3) := by decide +kernel
theorem d_Mo_two_4 : decode b_Mo_two 4 = .ok (.ifCond .ne 16, 3) := by decide +kernel
theorem d_Mo_two_7 : decode b_Mo_two 7 = .ok (.aload_n 0, 1) := by decide +kernel
theorem d_Mo_two_8 : decode b_Mo_two 8 = .ok (.iload_n 1, 1) := by decide +kernel
theorem d_Mo_two_9 : decode b_Mo_two 9 = .ok (.iload_n 2, 1) := by decide +kernel
theorem d_Mo_two_10 : decode b_Mo_two 10 = .ok (.iload_n 3, 1) := by decide +kernel
theorem d_Mo_two_11 : decode b_Mo_two 11 = .ok (.iload 4, 2) := by decide +kernel
theorem d_Mo_two_13 : decode b_Mo_two 13 = .ok (.iload 5, 2) := by decide +kernel
theorem d_Mo_two_15 : decode b_Mo_two 15 = .ok (.iload 6, 2) := by decide +kernel
theorem d_Mo_two_17 : decode b_Mo_two 17 = .ok (.invokevirtual 158, 3) := by decide +kernel
theorem d_Mo_two_20 : decode b_Mo_two 20 = .ok (.aload_n 0, 1) := by decide +kernel
theorem d_Mo_two_21 : decode b_Mo_two 21 = .ok (.invokevirtual 155, 3) := by decide +kernel
theorem d_Mo_two_24 : decode b_Mo_two 24 = .ok (.return_, 1) := by decide +kernel
abbrev b_Mo_sizeOf : ByteArray := prog_12_method_39_code
abbrev y_Mo_sizeOf : MethodName := ⟨"CharOutlinesModel", "sizeOf", "(I)J"⟩
set_option maxRecDepth 100000 in
theorem cal_Mo_sizeOf : CalS gd_tbl y_Mo_sizeOf b_Mo_sizeOf 1 (some .long) 1 := ⟨⟨List.mem_filter.mpr ⟨List.mem_of_getElem? (i := 943) rfl, rfl⟩, List.mem_filter.mpr ⟨List.mem_of_getElem? (i := 68) rfl, rfl⟩, ⟨by decide, by decide⟩, by decide +kernel⟩, List.mem_filter.mpr ⟨List.mem_of_getElem? (i := 942) rfl, rfl⟩⟩
theorem d_Mo_sizeOf_0 : decode b_Mo_sizeOf 0 = .ok (.iload_n 0, 1) := by decide +kernel
theorem d_Mo_sizeOf_1 : decode b_Mo_sizeOf 1 = .ok (.ifCond .ge 9, 3) := by decide +kernel
theorem d_Mo_sizeOf_4 : decode b_Mo_sizeOf 4 = .ok (.iload_n 0, 1) := by decide +kernel
theorem d_Mo_sizeOf_5 : decode b_Mo_sizeOf 5 = .ok (.i2l, 1) := by decide +kernel
theorem d_Mo_sizeOf_6 : decode b_Mo_sizeOf 6 = .ok (.lneg, 1) := by decide +kernel
theorem d_Mo_sizeOf_7 : decode b_Mo_sizeOf 7 = .ok (.goto 5, 3) := by decide +kernel
theorem d_Mo_sizeOf_10 : decode b_Mo_sizeOf 10 = .ok (.iload_n 0, 1) := by decide +kernel
theorem d_Mo_sizeOf_11 : decode b_Mo_sizeOf 11 = .ok (.i2l, 1) := by decide +kernel
theorem d_Mo_sizeOf_12 : decode b_Mo_sizeOf 12 = .ok (.lreturn, 1) := by decide +kernel
abbrev b_Mo_flex : ByteArray := prog_12_method_40_code
abbrev y_Mo_flex : MethodName := ⟨"CharOutlinesModel", "flex", "(I)V"⟩
set_option maxRecDepth 100000 in
theorem cal_Mo_flex : CalV gd_tbl "CharOutlinesModel" y_Mo_flex b_Mo_flex 6 none 1 := ⟨⟨List.mem_filter.mpr ⟨List.mem_of_getElem? (i := 916) rfl, rfl⟩, List.mem_filter.mpr ⟨List.mem_of_getElem? (i := 68) rfl, rfl⟩, ⟨by decide, by decide⟩, by decide +kernel⟩, List.mem_filter.mpr ⟨List.mem_of_getElem? (i := 915) rfl, rfl⟩, List.mem_filter.mpr ⟨List.mem_of_getElem? (i := 29) rfl, rfl⟩⟩
theorem d_Mo_flex_0 : decode b_Mo_flex 0 = .ok (.aload_n 0, 1) := by decide +kernel
theorem d_Mo_flex_1 : decode b_Mo_flex 1 = .ok (.getfield 29, 3) := by decide +kernel
theorem d_Mo_flex_4 : decode b_Mo_flex 4 = .ok (.astore_n 2, 1) := by decide +kernel
theorem d_Mo_flex_5 : decode b_Mo_flex 5 = .ok (.iload_n 1, 1) := by decide +kernel
theorem d_Mo_flex_6 : decode b_Mo_flex 6 = .ok (.bipush 35, 2) := by decide +kernel
theorem d_Mo_flex_8 : decode b_Mo_flex 8 = .ok (.if_icmp .ne 60, 3) := by decide +kernel
theorem d_Mo_flex_11 : decode b_Mo_flex 11 = .ok (.aload_n 0, 1) := by decide +kernel
theorem d_Mo_flex_12 : decode b_Mo_flex 12 = .ok (.aload_n 0, 1) := by decide +kernel
theorem d_Mo_flex_13 : decode b_Mo_flex 13 = .ok (.getfield 82, 3) := by decide +kernel
theorem d_Mo_flex_16 : decode b_Mo_flex 16 = .ok (.bipush 13, 2) := by decide +kernel
theorem d_Mo_flex_18 : decode b_Mo_flex 18 = .ok (.if_icmp .ne 7, 3) := by decide +kernel
theorem d_Mo_flex_21 : decode b_Mo_flex 21 = .ok (.iconst 1, 1) := by decide +kernel
theorem d_Mo_flex_22 : decode b_Mo_flex 22 = .ok (.goto 4, 3) := by decide +kernel
theorem d_Mo_flex_25 : decode b_Mo_flex 25 = .ok (.iconst 0, 1) := by decide +kernel
theorem d_Mo_flex_26 : decode b_Mo_flex 26 = .ok (.invokevirtual 162, 3) := by decide +kernel
theorem d_Mo_flex_29 : decode b_Mo_flex 29 = .ok (.ifCond .eq 39, 3) := by decide +kernel
theorem d_Mo_flex_32 : decode b_Mo_flex 32 = .ok (.aload_n 0, 1) := by decide +kernel
theorem d_Mo_flex_33 : decode b_Mo_flex 33 = .ok (.iconst 0, 1) := by decide +kernel
theorem d_Mo_flex_34 : decode b_Mo_flex 34 = .ok (.invokevirtual 169, 3) := by decide +kernel
theorem d_Mo_flex_37 : decode b_Mo_flex 37 = .ok (.aload_n 0, 1) := by decide +kernel
theorem d_Mo_flex_38 : decode b_Mo_flex 38 = .ok (.aload_n 2, 1) := by decide +kernel
theorem d_Mo_flex_39 : decode b_Mo_flex 39 = .ok (.bipush 6, 2) := by decide +kernel
theorem d_Mo_flex_41 : decode b_Mo_flex 41 = .ok (.iaload, 1) := by decide +kernel
theorem d_Mo_flex_42 : decode b_Mo_flex 42 = .ok (.aload_n 2, 1) := by decide +kernel
theorem d_Mo_flex_43 : decode b_Mo_flex 43 = .ok (.bipush 7, 2) := by decide +kernel
theorem d_Mo_flex_45 : decode b_Mo_flex 45 = .ok (.iaload, 1) := by decide +kernel
theorem d_Mo_flex_46 : decode b_Mo_flex 46 = .ok (.aload_n 2, 1) := by decide +kernel
theorem d_Mo_flex_47 : decode b_Mo_flex 47 = .ok (.bipush 8, 2) := by decide +kernel
theorem d_Mo_flex_49 : decode b_Mo_flex 49 = .ok (.iaload, 1) := by decide +kernel
theorem d_Mo_flex_50 : decode b_Mo_flex 50 = .ok (.aload_n 2, 1) := by decide +kernel
theorem d_Mo_flex_51 : decode b_Mo_flex 51 = .ok (.bipush 9, 2) := by decide +kernel
theorem d_Mo_flex_53 : decode b_Mo_flex 53 = .ok (.iaload, 1) := by decide +kernel
theorem d_Mo_flex_54 : decode b_Mo_flex 54 = .ok (.aload_n 2, 1) := by decide +kernel
theorem d_Mo_flex_55 : decode b_Mo_flex 55 = .ok (.bipush 10, 2) := by decide +kernel
theorem d_Mo_flex_57 : decode b_Mo_flex 57 = .ok (.iaload, 1) := by decide +kernel
theorem d_Mo_flex_58 : decode b_Mo_flex 58 = .ok (.aload_n 2, 1) := by decide +kernel
theorem d_Mo_flex_59 : decode b_Mo_flex 59 = .ok (.bipush 11, 2) := by decide +kernel
theorem d_Mo_flex_61 : decode b_Mo_flex 61 = .ok (.iaload, 1) := by decide +kernel
theorem d_Mo_flex_62 : decode b_Mo_flex 62 = .ok (.invokevirtual 172, 3) := by decide +kernel
theorem d_Mo_flex_65 : decode b_Mo_flex 65 = .ok (.goto 300, 3) := by decide +kernel
theorem d_Mo_flex_68 : decode b_Mo_flex 68 = .ok (.iload_n 1, 1) := by decide +kernel
theorem d_Mo_flex_69 : decode b_Mo_flex 69 = .ok (.bipush 34, 2) := by decide +kernel
theorem d_Mo_flex_71 : decode b_Mo_flex 71 = .ok (.if_icmp .ne 65, 3) := by decide +kernel
theorem d_Mo_flex_74 : decode b_Mo_flex 74 = .ok (.aload_n 0, 1) := by decide +kernel
theorem d_Mo_flex_75 : decode b_Mo_flex 75 = .ok (.aload_n 0, 1) := by decide +kernel
theorem d_Mo_flex_76 : decode b_Mo_flex 76 = .ok (.getfield 82, 3) := by decide +kernel
theorem d_Mo_flex_79 : decode b_Mo_flex 79 = .ok (.bipush 7, 2) := by decide +kernel
theorem d_Mo_flex_81 : decode b_Mo_flex 81 = .ok (.if_icmp .ne 7, 3) := by decide +kernel
theorem d_Mo_flex_84 : decode b_Mo_flex 84 = .ok (.iconst 1, 1) := by decide +kernel
theorem d_Mo_flex_85 : decode b_Mo_flex 85 = .ok (.goto 4, 3) := by decide +kernel
theorem d_Mo_flex_88 : decode b_Mo_flex 88 = .ok (.iconst 0, 1) := by decide +kernel
theorem d_Mo_flex_89 : decode b_Mo_flex 89 = .ok (.invokevirtual 162, 3) := by decide +kernel
theorem d_Mo_flex_92 : decode b_Mo_flex 92 = .ok (.ifCond .eq 44, 3) := by decide +kernel
theorem d_Mo_flex_95 : decode b_Mo_flex 95 = .ok (.aload_n 0, 1) := by decide +kernel
theorem d_Mo_flex_96 : decode b_Mo_flex 96 = .ok (.aload_n 2, 1) := by decide +kernel
theorem d_Mo_flex_97 : decode b_Mo_flex 97 = .ok (.iconst 0, 1) := by decide +kernel
theorem d_Mo_flex_98 : decode b_Mo_flex 98 = .ok (.iaload, 1) := by decide +kernel
theorem d_Mo_flex_99 : decode b_Mo_flex 99 = .ok (.iconst 0, 1) := by decide +kernel
theorem d_Mo_flex_100 : decode b_Mo_flex 100 = .ok (.aload_n 2, 1) := by decide +kernel
theorem d_Mo_flex_101 : decode b_Mo_flex 101 = .ok (.iconst 1, 1) := by decide +kernel
theorem d_Mo_flex_102 : decode b_Mo_flex 102 = .ok (.iaload, 1) := by decide +kernel
theorem d_Mo_flex_103 : decode b_Mo_flex 103 = .ok (.aload_n 2, 1) := by decide +kernel
theorem d_Mo_flex_104 : decode b_Mo_flex 104 = .ok (.iconst 2, 1) := by decide +kernel
theorem d_Mo_flex_105 : decode b_Mo_flex 105 = .ok (.iaload, 1) := by decide +kernel
theorem d_Mo_flex_106 : decode b_Mo_flex 106 = .ok (.aload_n 2, 1) := by decide +kernel
theorem d_Mo_flex_107 : decode b_Mo_flex 107 = .ok (.iconst 3, 1) := by decide +kernel
theorem d_Mo_flex_108 : decode b_Mo_flex 108 = .ok (.iaload, 1) := by decide +kernel
theorem d_Mo_flex_109 : decode b_Mo_flex 109 = .ok (.iconst 0, 1) := by decide +kernel
theorem d_Mo_flex_110 : decode b_Mo_flex 110 = .ok (.invokevirtual 158, 3) := by decide +kernel
theorem d_Mo_flex_113 : decode b_Mo_flex 113 = .ok (.aload_n 0, 1) := by decide +kernel
theorem d_Mo_flex_114 : decode b_Mo_flex 114 = .ok (.aload_n 2, 1) := by decide +kernel
theorem d_Mo_flex_115 : decode b_Mo_flex 115 = .ok (.iconst 4, 1) := by decide +kernel
theorem d_Mo_flex_116 : decode b_Mo_flex 116 = .ok (.iaload, 1) := by decide +kernel
theorem d_Mo_flex_117 : decode b_Mo_flex 117 = .ok (.iconst 0, 1) := by decide +kernel
theorem d_Mo_flex_118 : decode b_Mo_flex 118 = .ok (.aload_n 2, 1) := by decide +kernel
theorem d_Mo_flex_119 : decode b_Mo_flex 119 = .ok (.iconst 5, 1) := by decide +kernel
theorem d_Mo_flex_120 : decode b_Mo_flex 120 = .ok (.iaload, 1) := by decide +kernel
theorem d_Mo_flex_121 : decode b_Mo_flex 121 = .ok (.aload_n 2, 1) := by decide +kernel
theorem d_Mo_flex_122 : decode b_Mo_flex 122 = .ok (.iconst 2, 1) := by decide +kernel
theorem d_Mo_flex_123 : decode b_Mo_flex 123 = .ok (.iaload, 1) := by decide +kernel
theorem d_Mo_flex_124 : decode b_Mo_flex 124 = .ok (.ineg, 1) := by decide +kernel
theorem d_Mo_flex_125 : decode b_Mo_flex 125 = .ok (.aload_n 2, 1) := by decide +kernel
theorem d_Mo_flex_126 : decode b_Mo_flex 126 = .ok (.bipush 6, 2) := by decide +kernel
theorem d_Mo_flex_128 : decode b_Mo_flex 128 = .ok (.iaload, 1) := by decide +kernel
theorem d_Mo_flex_129 : decode b_Mo_flex 129 = .ok (.iconst 0, 1) := by decide +kernel
theorem d_Mo_flex_130 : decode b_Mo_flex 130 = .ok (.invokevirtual 172, 3) := by decide +kernel
theorem d_Mo_flex_133 : decode b_Mo_flex 133 = .ok (.goto 232, 3) := by decide +kernel
theorem d_Mo_flex_136 : decode b_Mo_flex 136 = .ok (.iload_n 1, 1) := by decide +kernel
theorem d_Mo_flex_137 : decode b_Mo_flex 137 = .ok (.bipush 36, 2) := by decide +kernel
theorem d_Mo_flex_139 : decode b_Mo_flex 139 = .ok (.if_icmp .ne 80, 3) := by decide +kernel
theorem d_Mo_flex_142 : decode b_Mo_flex 142 = .ok (.aload_n 0, 1) := by decide +kernel
theorem d_Mo_flex_143 : decode b_Mo_flex 143 = .ok (.aload_n 0, 1) := by decide +kernel
theorem d_Mo_flex_144 : decode b_Mo_flex 144 = .ok (.getfield 82, 3) := by decide +kernel
theorem d_Mo_flex_147 : decode b_Mo_flex 147 = .ok (.bipush 9, 2) := by decide +kernel
theorem d_Mo_flex_149 : decode b_Mo_flex 149 = .ok (.if_icmp .ne 7, 3) := by decide +kernel
theorem d_Mo_flex_152 : decode b_Mo_flex 152 = .ok (.iconst 1, 1) := by decide +kernel
theorem d_Mo_flex_153 : decode b_Mo_flex 153 = .ok (.goto 4, 3) := by decide +kernel
theorem d_Mo_flex_156 : decode b_Mo_flex 156 = .ok (.iconst 0, 1) := by decide +kernel
theorem d_Mo_flex_157 : decode b_Mo_flex 157 = .ok (.invokevirtual 162, 3) := by decide +kernel
theorem d_Mo_flex_160 : decode b_Mo_flex 160 = .ok (.ifCond .eq 59, 3) := by decide +kernel
theorem d_Mo_flex_163 : decode b_Mo_flex 163 = .ok (.aload_n 0, 1) := by decide +kernel
theorem d_Mo_flex_164 : decode b_Mo_flex 164 = .ok (.aload_n 2, 1) := by decide +kernel
theorem d_Mo_flex_165 : decode b_Mo_flex 165 = .ok (.iconst 0, 1) := by decide +kernel
theorem d_Mo_flex_166 : decode b_Mo_flex 166 = .ok (.iaload, 1) := by decide +kernel
theorem d_Mo_flex_167 : decode b_Mo_flex 167 = .ok (.aload_n 2, 1) := by decide +kernel
theorem d_Mo_flex_168 : decode b_Mo_flex 168 = .ok (.iconst 1, 1) := by decide +kernel
theorem d_Mo_flex_169 : decode b_Mo_flex 169 = .ok (.iaload, 1) := by decide +kernel
theorem d_Mo_flex_170 : decode b_Mo_flex 170 = .ok (.aload_n 2, 1) := by decide +kernel
theorem d_Mo_flex_171 : decode b_Mo_flex 171 = .ok (.iconst 2, 1) := by decide +kernel
theorem d_Mo_flex_172 : decode b_Mo_flex 172 = .ok (.iaload, 1) := by decide +kernel
theorem d_Mo_flex_173 : decode b_Mo_flex 173 = .ok (.aload_n 2, 1) := by decide +kernel
theorem d_Mo_flex_174 : decode b_Mo_flex 174 = .ok (.iconst 3, 1) := by decide +kernel
theorem d_Mo_flex_175 : decode b_Mo_flex 175 = .ok (.iaload, 1) := by decide +kernel
theorem d_Mo_flex_176 : decode b_Mo_flex 176 = .ok (.aload_n 2, 1) := by decide +kernel
theorem d_Mo_flex_177 : decode b_Mo_flex 177 = .ok (.iconst 4, 1) := by decide +kernel
theorem d_Mo_flex_178 : decode b_Mo_flex 178 = .ok (.iaload, 1) := by decide +kernel
theorem d_Mo_flex_179 : decode b_Mo_flex 179 = .ok (.iconst 0, 1) := by decide +kernel
theorem d_Mo_flex_180 : decode b_Mo_flex 180 = .ok (.invokevirtual 158, 3) := by decide +kernel
theorem d_Mo_flex_183 : decode b_Mo_flex 183 = .ok (.aload_n 0, 1) := by decide +kernel
theorem d_Mo_flex_184 : decode b_Mo_flex 184 = .ok (.aload_n 2, 1) := by decide +kernel
theorem d_Mo_flex_185 : decode b_Mo_flex 185 = .ok (.iconst 5, 1) := by decide +kernel
theorem d_Mo_flex_186 : decode b_Mo_flex 186 = .ok (.iaload, 1) := by decide +kernel
theorem d_Mo_flex_187 : decode b_Mo_flex 187 = .ok (.iconst 0, 1) := by decide +kernel
theorem d_Mo_flex_188 : decode b_Mo_flex 188 = .ok (.aload_n 2, 1) := by decide +kernel
theorem d_Mo_flex_189 : decode b_Mo_flex 189 = .ok (.bipush 6, 2) := by decide +kernel
theorem d_Mo_flex_191 : decode b_Mo_flex 191 = .ok (.iaload, 1) := by decide +kernel
theorem d_Mo_flex_192 : decode b_Mo_flex 192 = .ok (.aload_n 2, 1) := by decide +kernel
theorem d_Mo_flex_193 : decode b_Mo_flex 193 = .ok (.bipush 7, 2) := by decide +kernel
theorem d_Mo_flex_195 : decode b_Mo_flex 195 = .ok (.iaload, 1) := by decide +kernel
theorem d_Mo_flex_196 : decode b_Mo_flex 196 = .ok (.aload_n 2, 1) := by decide +kernel
theorem d_Mo_flex_197 : decode b_Mo_flex 197 = .ok (.bipush 8, 2) := by decide +kernel
theorem d_Mo_flex_199 : decode b_Mo_flex 199 = .ok (.iaload, 1) := by decide +kernel
theorem d_Mo_flex_200 : decode b_Mo_flex 200 = .ok (.aload_n 2, 1) := by decide +kernel
theorem d_Mo_flex_201 : decode b_Mo_flex 201 = .ok (.iconst 1, 1) := by decide +kernel
theorem d_Mo_flex_202 : decode b_Mo_flex 202 = .ok (.iaload, 1) := by decide +kernel
theorem d_Mo_flex_203 : decode b_Mo_flex 203 = .ok (.aload_n 2, 1) := by decide +kernel
theorem d_Mo_flex_204 : decode b_Mo_flex 204 = .ok (.iconst 3, 1) := by decide +kernel
theorem d_Mo_flex_205 : decode b_Mo_flex 205 = .ok (.iaload, 1) := by decide +kernel
theorem d_Mo_flex_206 : decode b_Mo_flex 206 = .ok (.iadd, 1) := by decide +kernel
theorem d_Mo_flex_207 : decode b_Mo_flex 207 = .ok (.aload_n 2, 1) := by decide +kernel
theorem d_Mo_flex_208 : decode b_Mo_flex 208 = .ok (.bipush 7, 2) := by decide +kernel
theorem d_Mo_flex_210 : decode b_Mo_flex 210 = .ok (.iaload, 1) := by decide +kernel
theorem d_Mo_flex_211 : decode b_Mo_flex 211 = .ok (.iadd, 1) := by decide +kernel
theorem d_Mo_flex_212 : decode b_Mo_flex 212 = .ok (.ineg, 1) := by decide +kernel
theorem d_Mo_flex_213 : decode b_Mo_flex 213 = .ok (.invokevirtual 172, 3) := by decide +kernel
theorem d_Mo_flex_216 : decode b_Mo_flex 216 = .ok (.goto 149, 3) := by decide +kernel
theorem d_Mo_flex_219 : decode b_Mo_flex 219 = .ok (.iload_n 1, 1) := by decide +kernel
theorem d_Mo_flex_220 : decode b_Mo_flex 220 = .ok (.bipush 37, 2) := by decide +kernel
theorem d_Mo_flex_222 : decode b_Mo_flex 222 = .ok (.if_icmp .ne 143, 3) := by decide +kernel
theorem d_Mo_flex_225 : decode b_Mo_flex 225 = .ok (.aload_n 0, 1) := by decide +kernel
theorem d_Mo_flex_226 : decode b_Mo_flex 226 = .ok (.aload_n 0, 1) := by decide +kernel
theorem d_Mo_flex_227 : decode b_Mo_flex 227 = .ok (.getfield 82, 3) := by decide +kernel
theorem d_Mo_flex_230 : decode b_Mo_flex 230 = .ok (.bipush 11, 2) := by decide +kernel
theorem d_Mo_flex_232 : decode b_Mo_flex 232 = .ok (.if_icmp .ne 7, 3) := by decide +kernel
theorem d_Mo_flex_235 : decode b_Mo_flex 235 = .ok (.iconst 1, 1) := by decide +kernel
theorem d_Mo_flex_236 : decode b_Mo_flex 236 = .ok (.goto 4, 3) := by decide +kernel
theorem d_Mo_flex_239 : decode b_Mo_flex 239 = .ok (.iconst 0, 1) := by decide +kernel
theorem d_Mo_flex_240 : decode b_Mo_flex 240 = .ok (.invokevirtual 162, 3) := by decide +kernel
theorem d_Mo_flex_243 : decode b_Mo_flex 243 = .ok (.ifCond .eq 122, 3) := by decide +kernel
theorem d_Mo_flex_246 : decode b_Mo_flex 246 = .ok (.aload_n 2, 1) := by decide +kernel
theorem d_Mo_flex_247 : decode b_Mo_flex 247 = .ok (.iconst 0, 1) := by decide +kernel
theorem d_Mo_flex_248 : decode b_Mo_flex 248 = .ok (.iaload, 1) := by decide +kernel
theorem d_Mo_flex_249 : decode b_Mo_flex 249 = .ok (.aload_n 2, 1) := by decide +kernel
theorem d_Mo_flex_250 : decode b_Mo_flex 250 = .ok (.iconst 2, 1) := by decide +kernel
theorem d_Mo_flex_251 : decode b_Mo_flex 251 = .ok (.iaload, 1) := by decide +kernel
theorem d_Mo_flex_252 : decode b_Mo_flex 252 = .ok (.iadd, 1) := by decide +kernel
theorem d_Mo_flex_253 : decode b_Mo_flex 253 = .ok (.aload_n 2, 1) := by decide +kernel
theorem d_Mo_flex_254 : decode b_Mo_flex 254 = .ok (.iconst 4, 1) := by decide +kernel
theorem d_Mo_flex_255 : decode b_Mo_flex 255 = .ok (.iaload, 1) := by decide +kernel
theorem d_Mo_flex_256 : decode b_Mo_flex 256 = .ok (.iadd, 1) := by decide +kernel
theorem d_Mo_flex_257 : decode b_Mo_flex 257 = .ok (.aload_n 2, 1) := by decide +kernel
theorem d_Mo_flex_258 : decode b_Mo_flex 258 = .ok (.bipush 6, 2) := by decide +kernel
theorem d_Mo_flex_260 : decode b_Mo_flex 260 = .ok (.iaload, 1) := by decide +kernel
theorem d_Mo_flex_261 : decode b_Mo_flex 261 = .ok (.iadd, 1) := by decide +kernel
theorem d_Mo_flex_262 : decode b_Mo_flex 262 = .ok (.aload_n 2, 1) := by decide +kernel
theorem d_Mo_flex_263 : decode b_Mo_flex 263 = .ok (.bipush 8, 2) := by decide +kernel
theorem d_Mo_flex_265 : decode b_Mo_flex 265 = .ok (.iaload, 1) := by decide +kernel
theorem d_Mo_flex_266 : decode b_Mo_flex 266 = .ok (.iadd, 1) := by decide +kernel
theorem d_Mo_flex_267 : decode b_Mo_flex 267 = .ok (.istore_n 3, 1) := by decide +kernel
theorem d_Mo_flex_268 : decode b_Mo_flex 268 = .ok (.aload_n 2, 1) := by decide +kernel
theorem d_Mo_flex_269 : decode b_Mo_flex 269 = .ok (.iconst 1, 1) := by decide +kernel
theorem d_Mo_flex_270 : decode b_Mo_flex 270 = .ok (.iaload, 1) := by decide +kernel
theorem d_Mo_flex_271 : decode b_Mo_flex 271 = .ok (.aload_n 2, 1) := by decide +kernel
theorem d_Mo_flex_272 : decode b_Mo_flex 272 = .ok (.iconst 3, 1) := by decide +kernel
theorem d_Mo_flex_273 : decode b_Mo_flex 273 = .ok (.iaload, 1) := by decide +kernel
theorem d_Mo_flex_274 : decode b_Mo_flex 274 = .ok (.iadd, 1) := by decide +kernel
theorem d_Mo_flex_275 : decode b_Mo_flex 275 = .ok (.aload_n 2, 1) := by decide +kernel
theorem d_Mo_flex_276 : decode b_Mo_flex 276 = .ok (.iconst 5, 1) := by decide +kernel
theorem d_Mo_flex_277 : decode b_Mo_flex 277 = .ok (.iaload, 1) := by decide +kernel
theorem d_Mo_flex_278 : decode b_Mo_flex 278 = .ok (.iadd, 1) := by decide +kernel
theorem d_Mo_flex_279 : decode b_Mo_flex 279 = .ok (.aload_n 2, 1) := by decide +kernel
theorem d_Mo_flex_280 : decode b_Mo_flex 280 = .ok (.bipush 7, 2) := by decide +kernel
theorem d_Mo_flex_282 : decode b_Mo_flex 282 = .ok (.iaload, 1) := by decide +kernel
theorem d_Mo_flex_283 : decode b_Mo_flex 283 = .ok (.iadd, 1) := by decide +kernel
theorem d_Mo_flex_284 : decode b_Mo_flex 284 = .ok (.aload_n 2, 1) := by decide +kernel
theorem d_Mo_flex_285 : decode b_Mo_flex 285 = .ok (.bipush 9, 2) := by decide +kernel
theorem d_Mo_flex_287 : decode b_Mo_flex 287 = .ok (.iaload, 1) := by decide +kernel
theorem d_Mo_flex_288 : decode b_Mo_flex 288 = .ok (.iadd, 1) := by decide +kernel
theorem d_Mo_flex_289 : decode b_Mo_flex 289 = .ok (.istore 4, 2) := by decide +kernel
theorem d_Mo_flex_291 : decode b_Mo_flex 291 = .ok (.iload_n 3, 1) := by decide +kernel
theorem d_Mo_flex_292 : decode b_Mo_flex 292 = .ok (.invokestatic 175, 3) := by decide +kernel
theorem d_Mo_flex_295 : decode b_Mo_flex 295 = .ok (.iload 4, 2) := by decide +kernel
theorem d_Mo_flex_297 : decode b_Mo_flex 297 = .ok (.invokestatic 175, 3) := by decide +kernel
theorem d_Mo_flex_300 : decode b_Mo_flex 300 = .ok (.lcmp, 1) := by decide +kernel
theorem d_Mo_flex_301 : decode b_Mo_flex 301 = .ok (.ifCond .le 7, 3) := by decide +kernel
theorem d_Mo_flex_304 : decode b_Mo_flex 304 = .ok (.iconst 1, 1) := by decide +kernel
theorem d_Mo_flex_305 : decode b_Mo_flex 305 = .ok (.goto 4, 3) := by decide +kernel
theorem d_Mo_flex_308 : decode b_Mo_flex 308 = .ok (.iconst 0, 1) := by decide +kernel
theorem d_Mo_flex_309 : decode b_Mo_flex 309 = .ok (.istore 5, 2) := by decide +kernel
theorem d_Mo_flex_311 : decode b_Mo_flex 311 = .ok (.aload_n 0, 1) := by decide +kernel
theorem d_Mo_flex_312 : decode b_Mo_flex 312 = .ok (.iconst 0, 1) := by decide +kernel
theorem d_Mo_flex_313 : decode b_Mo_flex 313 = .ok (.invokevirtual 169, 3) := by decide +kernel
theorem d_Mo_flex_316 : decode b_Mo_flex 316 = .ok (.aload_n 0, 1) := by decide +kernel
theorem d_Mo_flex_317 : decode b_Mo_flex 317 = .ok (.aload_n 2, 1) := by decide +kernel
theorem d_Mo_flex_318 : decode b_Mo_flex 318 = .ok (.bipush 6, 2) := by decide +kernel
theorem d_Mo_flex_320 : decode b_Mo_flex 320 = .ok (.iaload, 1) := by decide +kernel
theorem d_Mo_flex_321 : decode b_Mo_flex 321 = .ok (.aload_n 2, 1) := by decide +kernel
theorem d_Mo_flex_322 : decode b_Mo_flex 322 = .ok (.bipush 7, 2) := by decide +kernel
theorem d_Mo_flex_324 : decode b_Mo_flex 324 = .ok (.iaload, 1) := by decide +kernel
theorem d_Mo_flex_325 : decode b_Mo_flex 325 = .ok (.aload_n 2, 1) := by decide +kernel
theorem d_Mo_flex_326 : decode b_Mo_flex 326 = .ok (.bipush 8, 2) := by decide +kernel
theorem d_Mo_flex_328 : decode b_Mo_flex 328 = .ok (.iaload, 1) := by decide +kernel
theorem d_Mo_flex_329 : decode b_Mo_flex 329 = .ok (.aload_n 2, 1) := by decide +kernel
theorem d_Mo_flex_330 : decode b_Mo_flex 330 = .ok (.bipush 9, 2) := by decide +kernel
theorem d_Mo_flex_332 : decode b_Mo_flex 332 = .ok (.iaload, 1) := by decide +kernel
theorem d_Mo_flex_333 : decode b_Mo_flex 333 = .ok (.iload 5, 2) := by decide +kernel
theorem d_Mo_flex_335 : decode b_Mo_flex 335 = .ok (.ifCond .eq 10, 3) := by decide +kernel
theorem d_Mo_flex_338 : decode b_Mo_flex 338 = .ok (.aload_n 2, 1) := by decide +kernel
theorem d_Mo_flex_339 : decode b_Mo_flex 339 = .ok (.bipush 10, 2) := by decide +kernel
theorem d_Mo_flex_341 : decode b_Mo_flex 341 = .ok (.iaload, 1) := by decide +kernel
theorem d_Mo_flex_342 : decode b_Mo_flex 342 = .ok (.goto 5, 3) := by decide +kernel
theorem d_Mo_flex_345 : decode b_Mo_flex 345 = .ok (.iload_n 3, 1) := by decide +kernel
theorem d_Mo_flex_346 : decode b_Mo_flex 346 = .ok (.ineg, 1) := by decide +kernel
theorem d_Mo_flex_347 : decode b_Mo_flex 347 = .ok (.iload 5, 2) := by decide +kernel
theorem d_Mo_flex_349 : decode b_Mo_flex 349 = .ok (.ifCond .eq 9, 3) := by decide +kernel
theorem d_Mo_flex_352 : decode b_Mo_flex 352 = .ok (.iload 4, 2) := by decide +kernel
theorem d_Mo_flex_354 : decode b_Mo_flex 354 = .ok (.ineg, 1) := by decide +kernel
theorem d_Mo_flex_355 : decode b_Mo_flex 355 = .ok (.goto 7, 3) := by decide +kernel
theorem d_Mo_flex_358 : decode b_Mo_flex 358 = .ok (.aload_n 2, 1) := by decide +kernel
theorem d_Mo_flex_359 : decode b_Mo_flex 359 = .ok (.bipush 10, 2) := by decide +kernel
theorem d_Mo_flex_361 : decode b_Mo_flex 361 = .ok (.iaload, 1) := by decide +kernel
theorem d_Mo_flex_362 : decode b_Mo_flex 362 = .ok (.invokevirtual 172, 3) := by decide +kernel
theorem d_Mo_flex_365 : decode b_Mo_flex 365 = .ok (.return_, 1) := by decide +kernel
set_option maxRecDepth 100000 in
theorem ml_Mo_162 : (Jvm.Cond.methodLink "CharOutlinesModel" (162 : Nat) ({ cls := "CharOutlinesModel", name := "may", desc := "(Z)Z" } : Jvm.MethodName)) ∈ gd_tbl := List.mem_filter.mpr ⟨List.mem_of_getElem? (i := 917) rfl, rfl⟩
set_option maxRecDepth 100000 in
theorem ml_Mo_166 : (Jvm.Cond.methodLink "CharOutlinesModel" (166 : Nat) ({ cls := "CharOutlinesModel", name := "line", desc := "(II)V" } : Jvm.MethodName)) ∈ gd_tbl := List.mem_filter.mpr ⟨List.mem_of_getElem? (i := 1015) rfl, rfl⟩
set_option maxRecDepth 100000 in
theorem ml_Mo_169 : (Jvm.Cond.methodLink "CharOutlinesModel" (169 : Nat) ({ cls := "CharOutlinesModel", name := "six", desc := "(I)V" } : Jvm.MethodName)) ∈ gd_tbl := List.mem_filter.mpr ⟨List.mem_of_getElem? (i := 921) rfl, rfl⟩
set_option maxRecDepth 100000 in
theorem ml_Mo_172 : (Jvm.Cond.methodLink "CharOutlinesModel" (172 : Nat) ({ cls := "CharOutlinesModel", name := "two", desc := "(IIIIII)V" } : Jvm.MethodName)) ∈ gd_tbl := List.mem_filter.mpr ⟨List.mem_of_getElem? (i := 933) rfl, rfl⟩
set_option maxRecDepth 100000 in
theorem ml_Mo_175 : (Jvm.Cond.methodLink "CharOutlinesModel" (175 : Nat) ({ cls := "CharOutlinesModel", name := "sizeOf", desc := "(I)J" } : Jvm.MethodName)) ∈ gd_tbl := List.mem_filter.mpr ⟨List.mem_of_getElem? (i := 941) rfl, rfl⟩
set_option maxHeartbeats 1000000 in
set_option maxRecDepth 100000 in
theorem c_Mo_lines (l : Launch) (D : va_G) (cB cI cJ : ClassId) (mo m_row m_shelves m_many m_widths m_mark m_shownMark m_stack m_places m_kinds m_ats m_ends : Nat) (mk sp t d : Nat) (z_fault z_size z_shown z_wasRun z_wrong z_ended z_hints z_hasWidth z_width z_first z_moved z_deepest z_x z_y : Int32) (g_stack g_mark : Nat → Int32)  (hiv : t ≤ 48 ∧ d ≤ 10 ∧ mk ≤ 4000 ∧ sp ≤ 20000) : Tr l D classes (TY cB cI cJ) gd_tbl nx_tbl y_Mo_lines b_Mo_lines 2 none ({ frames := 3, cells := 0, slots := 0, locals := 69 }) [.ref mo] [(mo, .inr (8, [.int z_fault, .int z_size, .ref m_row, .ref m_shelves, .ref m_many, .ref m_widths, .int (nI mk), .ref m_mark, .int z_shown, .ref m_shownMark, .int z_wasRun, .int z_wrong, .int z_ended, .int (nI sp), .int z_hints, .int z_hasWidth, .int z_width, .int z_first, .int z_moved, .int z_deepest, .int z_x, .int z_y, .int (nI t), .ref m_stack, .ref m_places, .int (nI d), .ref m_kinds, .ref m_ats, .ref m_ends])), (m_stack, .inl (cI, 48, .inl g_stack)), (m_mark, .inl (cI, 28000, .inl g_mark))] (pV0 (fun w => ∃ (z_x' : Int32) (z_y' : Int32) (z_wrong' : Int32) (mk' : Nat) (t' : Nat) (g_mark' : Nat → Int32), w = [(mo, .inr (8, [.int z_fault, .int z_size, .ref m_row, .ref m_shelves, .ref m_many, .ref m_widths, .int (nI mk'), .ref m_mark, .int z_shown, .ref m_shownMark, .int z_wasRun, .int z_wrong', .int z_ended, .int (nI sp), .int z_hints, .int z_hasWidth, .int z_width, .int z_first, .int z_moved, .int z_deepest, .int z_x', .int z_y', .int (nI t'), .ref m_stack, .ref m_places, .int (nI d), .ref m_kinds, .ref m_ats, .ref m_ends])), (m_stack, .inl (cI, 48, .inl g_stack)), (m_mark, .inl (cI, 28000, .inl g_mark'))] ∧ (t' ≤ 48 ∧ d ≤ 10 ∧ mk' ≤ 4000 ∧ sp ≤ 20000))) := by
  refine Tr.intro (by decide +kernel) nx_ok (Nat.le_of_ble_eq_true rfl) ?_
  intro p_ e_ s_ m_ args_ below_ meth_ c_ A_ ls hx hb hml hown hts hr hlk hnm hZ hP hD hS hl
  have hl : lv_has ls 2 [(0, .ref mo)] := hl
  refine lv_aload_n hx hb d_Mo_lines_0 rfl (lv_at hl 0 rfl) ?_
  refine lv_aload_n hx hb d_Mo_lines_1 rfl (lv_at hl 0 rfl) ?_
  refine va_get (D := D) (ci := 8) (v := .int (nI t)) (C := R_Mo) (T := F_Mo) (N := 29) hx hb hts i_Mo hown hZ.1 hP 0 rfl rfl 22 (by decide) (hts _ fl_Mo_82) (fun _ h9 => h9) rfl d_Mo_lines_2 ?_
  refine lv_iconst (v := 2) hx hb d_Mo_lines_5 (by decide) ?_
  refine lv_icmp_lt (tgt := 22) hx hb d_Mo_lines_6 (by decide) (fun c_6 => ?_) (fun c_6 => ?_)
  · have n_6 : (t) < (2) := (nI_ltI (a := t) (b := 2) (by omega) (by omega)).mp c_6
    refine lv_iconst (v := 0) hx hb d_Mo_lines_22 (by decide) ?_
    have hC : Cut [(mo, .inr (8, [.int z_fault, .int z_size, .ref m_row, .ref m_shelves, .ref m_many, .ref m_widths, .int (nI mk), .ref m_mark, .int z_shown, .ref m_shownMark, .int z_wasRun, .int z_wrong, .int z_ended, .int (nI sp), .int z_hints, .int z_hasWidth, .int z_width, .int z_first, .int z_moved, .int z_deepest, .int z_x, .int z_y, .int (nI t), .ref m_stack, .ref m_places, .int (nI d), .ref m_kinds, .ref m_ats, .ref m_ends])), (m_stack, .inl (cI, 48, .inl g_stack)), (m_mark, .inl (cI, 28000, .inl g_mark))] [(mo, .inr (8, [.int z_fault, .int z_size, .ref m_row, .ref m_shelves, .ref m_many, .ref m_widths, .int (nI mk), .ref m_mark, .int z_shown, .ref m_shownMark, .int z_wasRun, .int z_wrong, .int z_ended, .int (nI sp), .int z_hints, .int z_hasWidth, .int z_width, .int z_first, .int z_moved, .int z_deepest, .int z_x, .int z_y, .int (nI t), .ref m_stack, .ref m_places, .int (nI d), .ref m_kinds, .ref m_ats, .ref m_ends]))] [(m_stack, .inl (cI, 48, .inl g_stack)), (m_mark, .inl (cI, 28000, .inl g_mark))] [0] [1, 2] := ⟨rfl, rfl, rfl, rfl, by decide⟩
    refine goI0 (trV (As := [.int 0]) (rest := []) ⟨hx, hb, hml, hown, hts⟩ gd_good (c_Mo_may l D cB cI cJ mo m_row m_shelves m_many m_widths m_mark m_shownMark m_stack m_places m_kinds m_ats m_ends mk sp t d z_fault z_size z_shown z_wasRun z_wrong z_ended z_hints z_hasWidth z_width z_first z_moved z_deepest z_x z_y 0 (by omega) ) cal_Mo_may ml_Mo_162 ⟨Nat.le_of_ble_eq_true rfl, Nat.le_of_ble_eq_true rfl⟩ hZ hP hD hC 0 (ci := 8) rfl rfl rfl rfl hl.1 rfl (Nat.le_of_ble_eq_true rfl) d_Mo_lines_23 ⟨Nat.le_of_ble_eq_true rfl, Nat.le_of_ble_eq_true rfl⟩) hZ hP hD hS hC (fun r_23 w1 H locs hq hP hD hS => ?_)
    obtain ⟨z_wrong_1, rfl, hv_1, hx_1, hz_1⟩ := hq
    have hP : va_P D classes [(m_stack, .inl (cI, 48, .inl g_stack)), (m_mark, .inl (cI, 28000, .inl g_mark)), (mo, .inr (8, [.int z_fault, .int z_size, .ref m_row, .ref m_shelves, .ref m_many, .ref m_widths, .int (nI mk), .ref m_mark, .int z_shown, .ref m_shownMark, .int z_wasRun, .int z_wrong_1, .int z_ended, .int (nI sp), .int z_hints, .int z_hasWidth, .int z_width, .int z_first, .int z_moved, .int z_deepest, .int z_x, .int z_y, .int (nI t), .ref m_stack, .ref m_places, .int (nI d), .ref m_kinds, .ref m_ats, .ref m_ends]))] H := hP
    have hD : va_D A_ [(m_stack, .inl (cI, 48, .inl g_stack)), (m_mark, .inl (cI, 28000, .inl g_mark)), (mo, .inr (8, [.int z_fault, .int z_size, .ref m_row, .ref m_shelves, .ref m_many, .ref m_widths, .int (nI mk), .ref m_mark, .int z_shown, .ref m_shownMark, .int z_wasRun, .int z_wrong_1, .int z_ended, .int (nI sp), .int z_hints, .int z_hasWidth, .int z_width, .int z_first, .int z_moved, .int z_deepest, .int z_x, .int z_y, .int (nI t), .ref m_stack, .ref m_places, .int (nI d), .ref m_kinds, .ref m_ats, .ref m_ends]))] := hD
    refine lv_if_eq (tgt := 74) hx hb d_Mo_lines_26 (by decide) (fun c_26 => ?_) (fun c_26 => ?_)
    · exact t_vret hx hb hr hlk d_Mo_lines_74 (hP.subm (ws' := [(mo, .inr (8, [.int z_fault, .int z_size, .ref m_row, .ref m_shelves, .ref m_many, .ref m_widths, .int (nI mk), .ref m_mark, .int z_shown, .ref m_shownMark, .int z_wasRun, .int z_wrong_1, .int z_ended, .int (nI sp), .int z_hints, .int z_hasWidth, .int z_width, .int z_first, .int z_moved, .int z_deepest, .int z_x, .int z_y, .int (nI t), .ref m_stack, .ref m_places, .int (nI d), .ref m_kinds, .ref m_ats, .ref m_ends])), (m_stack, .inl (cI, 48, .inl g_stack)), (m_mark, .inl (cI, 28000, .inl g_mark))]) [2, 0, 1] rfl) (hD.sub (ws' := [(mo, .inr (8, [.int z_fault, .int z_size, .ref m_row, .ref m_shelves, .ref m_many, .ref m_widths, .int (nI mk), .ref m_mark, .int z_shown, .ref m_shownMark, .int z_wasRun, .int z_wrong_1, .int z_ended, .int (nI sp), .int z_hints, .int z_hasWidth, .int z_width, .int z_first, .int z_moved, .int z_deepest, .int z_x, .int z_y, .int (nI t), .ref m_stack, .ref m_places, .int (nI d), .ref m_kinds, .ref m_ats, .ref m_ends])), (m_stack, .inl (cI, 48, .inl g_stack)), (m_mark, .inl (cI, 28000, .inl g_mark))]) [2, 0, 1] rfl rfl) hS ⟨rfl, rfl, rfl, _, _, _, mk, t, _, rfl, (by omega)⟩
    · refine lv_iconst (v := 0) hx hb d_Mo_lines_29 (by decide) ?_
      refine lv_istore_n (lv' := [(1, .int 0), (0, .ref mo)]) hx hb d_Mo_lines_30 rfl hl (by decide) rfl (fun ls hl => ?_)
      have lp_31 : ∀ (fu : Nat) (i : Nat) (xL : Int32) (yL : Int32) (wL : Int32) (mL : Nat) (gm : Nat → Int32) (H : Heap) (locs : List Loc) (ls : Array Slot), (mL ≤ 4000 ∧ i ≤ 60 ∧ i % 2 = 0) → (70 - i) < fu → va_P D classes [(mo, .inr (8, [.int z_fault, .int z_size, .ref m_row, .ref m_shelves, .ref m_many, .ref m_widths, .int (nI mL), .ref m_mark, .int z_shown, .ref m_shownMark, .int z_wasRun, .int wL, .int z_ended, .int (nI sp), .int z_hints, .int z_hasWidth, .int z_width, .int z_first, .int z_moved, .int z_deepest, .int xL, .int yL, .int (nI t), .ref m_stack, .ref m_places, .int (nI d), .ref m_kinds, .ref m_ats, .ref m_ends])), (m_stack, .inl (cI, 48, .inl g_stack)), (m_mark, .inl (cI, 28000, .inl gm))] H → va_D A_ [(mo, .inr (8, [.int z_fault, .int z_size, .ref m_row, .ref m_shelves, .ref m_many, .ref m_widths, .int (nI mL), .ref m_mark, .int z_shown, .ref m_shownMark, .int z_wasRun, .int wL, .int z_ended, .int (nI sp), .int z_hints, .int z_hasWidth, .int z_width, .int z_first, .int z_moved, .int z_deepest, .int xL, .int yL, .int (nI t), .ref m_stack, .ref m_places, .int (nI d), .ref m_kinds, .ref m_ats, .ref m_ends])), (m_stack, .inl (cI, 48, .inl g_stack)), (m_mark, .inl (cI, 28000, .inl gm))] → va_S A_ s_.heap H locs → lv_has ls 2 [(0, .ref mo), (1, .int (nI i))] → W p_ l e_ ({ frames := 3, cells := 0, slots := 0, locals := 69 }) s_ m_ args_ below_ meth_ c_ H locs (0) (0) (MQT below_ D classes A_ (pV0 (fun w => ∃ (z_x' : Int32) (z_y' : Int32) (z_wrong' : Int32) (mk' : Nat) (t' : Nat) (g_mark' : Nat → Int32), w = [(mo, .inr (8, [.int z_fault, .int z_size, .ref m_row, .ref m_shelves, .ref m_many, .ref m_widths, .int (nI mk'), .ref m_mark, .int z_shown, .ref m_shownMark, .int z_wasRun, .int z_wrong', .int z_ended, .int (nI sp), .int z_hints, .int z_hasWidth, .int z_width, .int z_first, .int z_moved, .int z_deepest, .int z_x', .int z_y', .int (nI t'), .ref m_stack, .ref m_places, .int (nI d), .ref m_kinds, .ref m_ats, .ref m_ends])), (m_stack, .inl (cI, 48, .inl g_stack)), (m_mark, .inl (cI, 28000, .inl g_mark'))] ∧ (t' ≤ 48 ∧ d ≤ 10 ∧ mk' ≤ 4000 ∧ sp ≤ 20000))) s_) (F0 m_ 31 ls []) := by
        intro fu
        induction fu with
        | zero => intro i xL yL wL mL gm H locs ls hinv hfu; exact absurd hfu (Nat.not_lt_zero _)
        | succ fu ih_31 =>
          intro i xL yL wL mL gm H locs ls hinv hfu hP hD hS hl
          obtain ⟨hmL, hi1, hi2⟩ := hinv
          refine lv_iload_n hx hb d_Mo_lines_31 rfl (lv_at hl 1 rfl) ?_
          refine lv_aload_n hx hb d_Mo_lines_32 rfl (lv_at hl 0 rfl) ?_
          refine va_get (D := D) (ci := 8) (v := .int (nI t)) (C := R_Mo) (T := F_Mo) (N := 29) hx hb hts i_Mo hown hZ.1 hP 0 rfl rfl 22 (by decide) (hts _ fl_Mo_82) (fun _ h9 => h9) rfl d_Mo_lines_33 ?_
          refine lv_icmp_ge (tgt := 70) hx hb d_Mo_lines_36 (by decide) (fun c_36 => ?_) (fun c_36 => ?_)
          · have n_36 : (t) ≤ (i) := (nI_leI (a := t) (b := i) (by omega) (by omega)).mp c_36
            refine lv_aload_n hx hb d_Mo_lines_70 rfl (lv_at hl 0 rfl) ?_
            have hC : Cut [(mo, .inr (8, [.int z_fault, .int z_size, .ref m_row, .ref m_shelves, .ref m_many, .ref m_widths, .int (nI mL), .ref m_mark, .int z_shown, .ref m_shownMark, .int z_wasRun, .int wL, .int z_ended, .int (nI sp), .int z_hints, .int z_hasWidth, .int z_width, .int z_first, .int z_moved, .int z_deepest, .int xL, .int yL, .int (nI t), .ref m_stack, .ref m_places, .int (nI d), .ref m_kinds, .ref m_ats, .ref m_ends])), (m_stack, .inl (cI, 48, .inl g_stack)), (m_mark, .inl (cI, 28000, .inl gm))] [(mo, .inr (8, [.int z_fault, .int z_size, .ref m_row, .ref m_shelves, .ref m_many, .ref m_widths, .int (nI mL), .ref m_mark, .int z_shown, .ref m_shownMark, .int z_wasRun, .int wL, .int z_ended, .int (nI sp), .int z_hints, .int z_hasWidth, .int z_width, .int z_first, .int z_moved, .int z_deepest, .int xL, .int yL, .int (nI t), .ref m_stack, .ref m_places, .int (nI d), .ref m_kinds, .ref m_ats, .ref m_ends]))] [(m_stack, .inl (cI, 48, .inl g_stack)), (m_mark, .inl (cI, 28000, .inl gm))] [0] [1, 2] := ⟨rfl, rfl, rfl, rfl, by decide⟩
            refine goV0 (trV (As := []) (rest := []) ⟨hx, hb, hml, hown, hts⟩ gd_good (c_Mo_take_V l D cB cI cJ mo m_row m_shelves m_many m_widths m_mark m_shownMark m_stack m_places m_kinds m_ats m_ends mL sp t d z_fault z_size z_shown z_wasRun wL z_ended z_hints z_hasWidth z_width z_first z_moved z_deepest xL yL (by omega) ) cal_Mo_take_V ml_Mo_155 ⟨Nat.le_of_ble_eq_true rfl, Nat.le_of_ble_eq_true rfl⟩ hZ hP hD hC 0 (ci := 8) rfl rfl rfl rfl hl.1 rfl (Nat.le_of_ble_eq_true rfl) d_Mo_lines_71 ⟨Nat.le_of_ble_eq_true rfl, Nat.le_of_ble_eq_true rfl⟩) hZ hP hD hS hC (fun w1 H locs hq hP hD hS => ?_)
            obtain ⟨t_2, rfl, hv_2⟩ := hq
            have hP : va_P D classes [(m_stack, .inl (cI, 48, .inl g_stack)), (m_mark, .inl (cI, 28000, .inl gm)), (mo, .inr (8, [.int z_fault, .int z_size, .ref m_row, .ref m_shelves, .ref m_many, .ref m_widths, .int (nI mL), .ref m_mark, .int z_shown, .ref m_shownMark, .int z_wasRun, .int wL, .int z_ended, .int (nI sp), .int z_hints, .int z_hasWidth, .int z_width, .int z_first, .int z_moved, .int z_deepest, .int xL, .int yL, .int (nI t_2), .ref m_stack, .ref m_places, .int (nI d), .ref m_kinds, .ref m_ats, .ref m_ends]))] H := hP
            have hD : va_D A_ [(m_stack, .inl (cI, 48, .inl g_stack)), (m_mark, .inl (cI, 28000, .inl gm)), (mo, .inr (8, [.int z_fault, .int z_size, .ref m_row, .ref m_shelves, .ref m_many, .ref m_widths, .int (nI mL), .ref m_mark, .int z_shown, .ref m_shownMark, .int z_wasRun, .int wL, .int z_ended, .int (nI sp), .int z_hints, .int z_hasWidth, .int z_width, .int z_first, .int z_moved, .int z_deepest, .int xL, .int yL, .int (nI t_2), .ref m_stack, .ref m_places, .int (nI d), .ref m_kinds, .ref m_ats, .ref m_ends]))] := hD
            exact t_vret hx hb hr hlk d_Mo_lines_74 (hP.subm (ws' := [(mo, .inr (8, [.int z_fault, .int z_size, .ref m_row, .ref m_shelves, .ref m_many, .ref m_widths, .int (nI mL), .ref m_mark, .int z_shown, .ref m_shownMark, .int z_wasRun, .int wL, .int z_ended, .int (nI sp), .int z_hints, .int z_hasWidth, .int z_width, .int z_first, .int z_moved, .int z_deepest, .int xL, .int yL, .int (nI t_2), .ref m_stack, .ref m_places, .int (nI d), .ref m_kinds, .ref m_ats, .ref m_ends])), (m_stack, .inl (cI, 48, .inl g_stack)), (m_mark, .inl (cI, 28000, .inl gm))]) [2, 0, 1] rfl) (hD.sub (ws' := [(mo, .inr (8, [.int z_fault, .int z_size, .ref m_row, .ref m_shelves, .ref m_many, .ref m_widths, .int (nI mL), .ref m_mark, .int z_shown, .ref m_shownMark, .int z_wasRun, .int wL, .int z_ended, .int (nI sp), .int z_hints, .int z_hasWidth, .int z_width, .int z_first, .int z_moved, .int z_deepest, .int xL, .int yL, .int (nI t_2), .ref m_stack, .ref m_places, .int (nI d), .ref m_kinds, .ref m_ats, .ref m_ends])), (m_stack, .inl (cI, 48, .inl g_stack)), (m_mark, .inl (cI, 28000, .inl gm))]) [2, 0, 1] rfl rfl) hS ⟨rfl, rfl, rfl, _, _, _, mL, t_2, _, rfl, (by omega)⟩
          · have n_36 : ¬ (t) ≤ (i) := fun z => c_36 ((nI_leI (a := t) (b := i) (by omega) (by omega)).mpr z)
            refine lv_aload_n hx hb d_Mo_lines_39 rfl (lv_at hl 0 rfl) ?_
            refine va_get (D := D) (ci := 8) (v := .int wL) (C := R_Mo) (T := F_Mo) (N := 29) hx hb hts i_Mo hown hZ.1 hP 0 rfl rfl 11 (by decide) (hts _ fl_Mo_75) (fun _ h9 => h9) rfl d_Mo_lines_40 ?_
            refine lv_if_ne (tgt := 70) hx hb d_Mo_lines_43 (by decide) (fun c_43 => ?_) (fun c_43 => ?_)
            · refine lv_aload_n hx hb d_Mo_lines_70 rfl (lv_at hl 0 rfl) ?_
              have hC : Cut [(mo, .inr (8, [.int z_fault, .int z_size, .ref m_row, .ref m_shelves, .ref m_many, .ref m_widths, .int (nI mL), .ref m_mark, .int z_shown, .ref m_shownMark, .int z_wasRun, .int wL, .int z_ended, .int (nI sp), .int z_hints, .int z_hasWidth, .int z_width, .int z_first, .int z_moved, .int z_deepest, .int xL, .int yL, .int (nI t), .ref m_stack, .ref m_places, .int (nI d), .ref m_kinds, .ref m_ats, .ref m_ends])), (m_stack, .inl (cI, 48, .inl g_stack)), (m_mark, .inl (cI, 28000, .inl gm))] [(mo, .inr (8, [.int z_fault, .int z_size, .ref m_row, .ref m_shelves, .ref m_many, .ref m_widths, .int (nI mL), .ref m_mark, .int z_shown, .ref m_shownMark, .int z_wasRun, .int wL, .int z_ended, .int (nI sp), .int z_hints, .int z_hasWidth, .int z_width, .int z_first, .int z_moved, .int z_deepest, .int xL, .int yL, .int (nI t), .ref m_stack, .ref m_places, .int (nI d), .ref m_kinds, .ref m_ats, .ref m_ends]))] [(m_stack, .inl (cI, 48, .inl g_stack)), (m_mark, .inl (cI, 28000, .inl gm))] [0] [1, 2] := ⟨rfl, rfl, rfl, rfl, by decide⟩
              refine goV0 (trV (As := []) (rest := []) ⟨hx, hb, hml, hown, hts⟩ gd_good (c_Mo_take_V l D cB cI cJ mo m_row m_shelves m_many m_widths m_mark m_shownMark m_stack m_places m_kinds m_ats m_ends mL sp t d z_fault z_size z_shown z_wasRun wL z_ended z_hints z_hasWidth z_width z_first z_moved z_deepest xL yL (by omega) ) cal_Mo_take_V ml_Mo_155 ⟨Nat.le_of_ble_eq_true rfl, Nat.le_of_ble_eq_true rfl⟩ hZ hP hD hC 0 (ci := 8) rfl rfl rfl rfl hl.1 rfl (Nat.le_of_ble_eq_true rfl) d_Mo_lines_71 ⟨Nat.le_of_ble_eq_true rfl, Nat.le_of_ble_eq_true rfl⟩) hZ hP hD hS hC (fun w1 H locs hq hP hD hS => ?_)
              obtain ⟨t_3, rfl, hv_3⟩ := hq
              have hP : va_P D classes [(m_stack, .inl (cI, 48, .inl g_stack)), (m_mark, .inl (cI, 28000, .inl gm)), (mo, .inr (8, [.int z_fault, .int z_size, .ref m_row, .ref m_shelves, .ref m_many, .ref m_widths, .int (nI mL), .ref m_mark, .int z_shown, .ref m_shownMark, .int z_wasRun, .int wL, .int z_ended, .int (nI sp), .int z_hints, .int z_hasWidth, .int z_width, .int z_first, .int z_moved, .int z_deepest, .int xL, .int yL, .int (nI t_3), .ref m_stack, .ref m_places, .int (nI d), .ref m_kinds, .ref m_ats, .ref m_ends]))] H := hP
              have hD : va_D A_ [(m_stack, .inl (cI, 48, .inl g_stack)), (m_mark, .inl (cI, 28000, .inl gm)), (mo, .inr (8, [.int z_fault, .int z_size, .ref m_row, .ref m_shelves, .ref m_many, .ref m_widths, .int (nI mL), .ref m_mark, .int z_shown, .ref m_shownMark, .int z_wasRun, .int wL, .int z_ended, .int (nI sp), .int z_hints, .int z_hasWidth, .int z_width, .int z_first, .int z_moved, .int z_deepest, .int xL, .int yL, .int (nI t_3), .ref m_stack, .ref m_places, .int (nI d), .ref m_kinds, .ref m_ats, .ref m_ends]))] := hD
              exact t_vret hx hb hr hlk d_Mo_lines_74 (hP.subm (ws' := [(mo, .inr (8, [.int z_fault, .int z_size, .ref m_row, .ref m_shelves, .ref m_many, .ref m_widths, .int (nI mL), .ref m_mark, .int z_shown, .ref m_shownMark, .int z_wasRun, .int wL, .int z_ended, .int (nI sp), .int z_hints, .int z_hasWidth, .int z_width, .int z_first, .int z_moved, .int z_deepest, .int xL, .int yL, .int (nI t_3), .ref m_stack, .ref m_places, .int (nI d), .ref m_kinds, .ref m_ats, .ref m_ends])), (m_stack, .inl (cI, 48, .inl g_stack)), (m_mark, .inl (cI, 28000, .inl gm))]) [2, 0, 1] rfl) (hD.sub (ws' := [(mo, .inr (8, [.int z_fault, .int z_size, .ref m_row, .ref m_shelves, .ref m_many, .ref m_widths, .int (nI mL), .ref m_mark, .int z_shown, .ref m_shownMark, .int z_wasRun, .int wL, .int z_ended, .int (nI sp), .int z_hints, .int z_hasWidth, .int z_width, .int z_first, .int z_moved, .int z_deepest, .int xL, .int yL, .int (nI t_3), .ref m_stack, .ref m_places, .int (nI d), .ref m_kinds, .ref m_ats, .ref m_ends])), (m_stack, .inl (cI, 48, .inl g_stack)), (m_mark, .inl (cI, 28000, .inl gm))]) [2, 0, 1] rfl rfl) hS ⟨rfl, rfl, rfl, _, _, _, mL, t_3, _, rfl, (by omega)⟩
            · refine lv_aload_n hx hb d_Mo_lines_46 rfl (lv_at hl 0 rfl) ?_
              refine lv_aload_n hx hb d_Mo_lines_47 rfl (lv_at hl 0 rfl) ?_
              refine va_get (D := D) (ci := 8) (v := .ref m_stack) (C := R_Mo) (T := F_Mo) (N := 29) hx hb hts i_Mo hown hZ.1 hP 0 rfl rfl 23 (by decide) (hts _ fl_Mo_29) (fun _ h9 => h9) rfl d_Mo_lines_48 ?_
              refine lv_iload_n hx hb d_Mo_lines_51 rfl (lv_at hl 1 rfl) ?_
              refine va_iald hx hb hZ.1 hP 1 1 rfl rfl (vp_in_nI (by omega) (by omega)) d_Mo_lines_52 ?_
              refine lv_tv (y := g_stack i) (by rw [nI_clamp (by omega)]) ?_
              refine lv_aload_n hx hb d_Mo_lines_53 rfl (lv_at hl 0 rfl) ?_
              refine va_get (D := D) (ci := 8) (v := .ref m_stack) (C := R_Mo) (T := F_Mo) (N := 29) hx hb hts i_Mo hown hZ.1 hP 0 rfl rfl 23 (by decide) (hts _ fl_Mo_29) (fun _ h9 => h9) rfl d_Mo_lines_54 ?_
              refine lv_iload_n hx hb d_Mo_lines_57 rfl (lv_at hl 1 rfl) ?_
              refine lv_iconst (v := 1) hx hb d_Mo_lines_58 (by decide) ?_
              refine lv_iadd hx hb d_Mo_lines_59 ?_
              refine lv_tv (y := nI (i + 1)) (nI_add i 1) ?_
              refine va_iald hx hb hZ.1 hP 1 1 rfl rfl (vp_in_nI (by omega) (by omega)) d_Mo_lines_60 ?_
              refine lv_tv (y := g_stack (i + 1)) (by rw [nI_clamp (by omega)]) ?_
              have hC : Cut [(mo, .inr (8, [.int z_fault, .int z_size, .ref m_row, .ref m_shelves, .ref m_many, .ref m_widths, .int (nI mL), .ref m_mark, .int z_shown, .ref m_shownMark, .int z_wasRun, .int wL, .int z_ended, .int (nI sp), .int z_hints, .int z_hasWidth, .int z_width, .int z_first, .int z_moved, .int z_deepest, .int xL, .int yL, .int (nI t), .ref m_stack, .ref m_places, .int (nI d), .ref m_kinds, .ref m_ats, .ref m_ends])), (m_stack, .inl (cI, 48, .inl g_stack)), (m_mark, .inl (cI, 28000, .inl gm))] [(mo, .inr (8, [.int z_fault, .int z_size, .ref m_row, .ref m_shelves, .ref m_many, .ref m_widths, .int (nI mL), .ref m_mark, .int z_shown, .ref m_shownMark, .int z_wasRun, .int wL, .int z_ended, .int (nI sp), .int z_hints, .int z_hasWidth, .int z_width, .int z_first, .int z_moved, .int z_deepest, .int xL, .int yL, .int (nI t), .ref m_stack, .ref m_places, .int (nI d), .ref m_kinds, .ref m_ats, .ref m_ends])), (m_mark, .inl (cI, 28000, .inl gm))] [(m_stack, .inl (cI, 48, .inl g_stack))] [0, 2] [1] := ⟨rfl, rfl, rfl, rfl, by decide⟩
              refine goV0 (trV (As := [.int (g_stack i), .int (g_stack (i + 1))]) (rest := []) ⟨hx, hb, hml, hown, hts⟩ gd_good (c_Mo_line l D cB cI cJ mo m_row m_shelves m_many m_widths m_mark m_shownMark m_stack m_places m_kinds m_ats m_ends mL sp t d z_fault z_size z_shown z_wasRun wL z_ended z_hints z_hasWidth z_width z_first z_moved z_deepest xL yL gm (g_stack i) (g_stack (i + 1)) (by omega) ) cal_Mo_line ml_Mo_166 ⟨Nat.le_of_ble_eq_true rfl, Nat.le_of_ble_eq_true rfl⟩ hZ hP hD hC 0 (ci := 8) rfl rfl rfl rfl hl.1 rfl (Nat.le_of_ble_eq_true rfl) d_Mo_lines_61 ⟨Nat.le_of_ble_eq_true rfl, Nat.le_of_ble_eq_true rfl⟩) hZ hP hD hS hC (fun w1 H locs hq hP hD hS => ?_)
              obtain ⟨z_x_4, z_y_4, z_wrong_4, mk_4, g_mark_4, rfl, hv_4⟩ := hq
              have hP : va_P D classes [(m_stack, .inl (cI, 48, .inl g_stack)), (mo, .inr (8, [.int z_fault, .int z_size, .ref m_row, .ref m_shelves, .ref m_many, .ref m_widths, .int (nI mk_4), .ref m_mark, .int z_shown, .ref m_shownMark, .int z_wasRun, .int z_wrong_4, .int z_ended, .int (nI sp), .int z_hints, .int z_hasWidth, .int z_width, .int z_first, .int z_moved, .int z_deepest, .int z_x_4, .int z_y_4, .int (nI t), .ref m_stack, .ref m_places, .int (nI d), .ref m_kinds, .ref m_ats, .ref m_ends])), (m_mark, .inl (cI, 28000, .inl g_mark_4))] H := hP
              have hD : va_D A_ [(m_stack, .inl (cI, 48, .inl g_stack)), (mo, .inr (8, [.int z_fault, .int z_size, .ref m_row, .ref m_shelves, .ref m_many, .ref m_widths, .int (nI mk_4), .ref m_mark, .int z_shown, .ref m_shownMark, .int z_wasRun, .int z_wrong_4, .int z_ended, .int (nI sp), .int z_hints, .int z_hasWidth, .int z_width, .int z_first, .int z_moved, .int z_deepest, .int z_x_4, .int z_y_4, .int (nI t), .ref m_stack, .ref m_places, .int (nI d), .ref m_kinds, .ref m_ats, .ref m_ends])), (m_mark, .inl (cI, 28000, .inl g_mark_4))] := hD
              refine lv_iinc (v := nI (i + 2)) (lv' := [(1, .int (nI (i + 2))), (0, .ref mo)]) hx hb d_Mo_lines_64 hl (k := 1) rfl (nI_add i 2) (by decide) rfl (fun ls hl => ?_)
              refine lv_goto (tgt := 31) hx hb d_Mo_lines_67 (by decide) ?_
              exact ih_31  (i + 2) z_x_4 z_y_4 z_wrong_4 mk_4 g_mark_4 _ _ _ ⟨by omega, by omega, by omega⟩ (by omega) (hP.subm [1, 0, 2] rfl) (hD.sub [1, 0, 2] rfl rfl) hS (lv_sub hl [1, 0] rfl)
      exact lp_31 _ 0 z_x z_y z_wrong_1 mk g_mark _ _ _ ⟨by omega, by omega, by omega⟩ (Nat.lt_succ_self _) (hP.subm [2, 0, 1] rfl) (hD.sub [2, 0, 1] rfl rfl) hS (lv_sub hl [1, 0] rfl)
  · have n_6 : ¬ (t) < (2) := fun z => c_6 ((nI_ltI (a := t) (b := 2) (by omega) (by omega)).mpr z)
    refine lv_aload_n hx hb d_Mo_lines_9 rfl (lv_at hl 0 rfl) ?_
    refine va_get (D := D) (ci := 8) (v := .int (nI t)) (C := R_Mo) (T := F_Mo) (N := 29) hx hb hts i_Mo hown hZ.1 hP 0 rfl rfl 22 (by decide) (hts _ fl_Mo_82) (fun _ h9 => h9) rfl d_Mo_lines_10 ?_
    refine lv_iconst (v := 2) hx hb d_Mo_lines_13 (by decide) ?_
    refine lv_irem hx hb d_Mo_lines_14 (by decide) ?_
    refine lv_tv (y := nI (t % 2)) (pk_rem (a := t) (d := 2) (by omega) (by omega) (by omega)) ?_
    refine lv_if_ne (tgt := 22) hx hb d_Mo_lines_15 (by decide) (fun c_15 => ?_) (fun c_15 => ?_)
    · have n_15 : ¬ (t % 2) = (0) := fun z => c_15 ((nI_eq (a := t % 2) (b := 0) (by omega) (by omega)).mpr z)
      refine lv_iconst (v := 0) hx hb d_Mo_lines_22 (by decide) ?_
      have hC : Cut [(mo, .inr (8, [.int z_fault, .int z_size, .ref m_row, .ref m_shelves, .ref m_many, .ref m_widths, .int (nI mk), .ref m_mark, .int z_shown, .ref m_shownMark, .int z_wasRun, .int z_wrong, .int z_ended, .int (nI sp), .int z_hints, .int z_hasWidth, .int z_width, .int z_first, .int z_moved, .int z_deepest, .int z_x, .int z_y, .int (nI t), .ref m_stack, .ref m_places, .int (nI d), .ref m_kinds, .ref m_ats, .ref m_ends])), (m_stack, .inl (cI, 48, .inl g_stack)), (m_mark, .inl (cI, 28000, .inl g_mark))] [(mo, .inr (8, [.int z_fault, .int z_size, .ref m_row, .ref m_shelves, .ref m_many, .ref m_widths, .int (nI mk), .ref m_mark, .int z_shown, .ref m_shownMark, .int z_wasRun, .int z_wrong, .int z_ended, .int (nI sp), .int z_hints, .int z_hasWidth, .int z_width, .int z_first, .int z_moved, .int z_deepest, .int z_x, .int z_y, .int (nI t), .ref m_stack, .ref m_places, .int (nI d), .ref m_kinds, .ref m_ats, .ref m_ends]))] [(m_stack, .inl (cI, 48, .inl g_stack)), (m_mark, .inl (cI, 28000, .inl g_mark))] [0] [1, 2] := ⟨rfl, rfl, rfl, rfl, by decide⟩
      refine goI0 (trV (As := [.int 0]) (rest := []) ⟨hx, hb, hml, hown, hts⟩ gd_good (c_Mo_may l D cB cI cJ mo m_row m_shelves m_many m_widths m_mark m_shownMark m_stack m_places m_kinds m_ats m_ends mk sp t d z_fault z_size z_shown z_wasRun z_wrong z_ended z_hints z_hasWidth z_width z_first z_moved z_deepest z_x z_y 0 (by omega) ) cal_Mo_may ml_Mo_162 ⟨Nat.le_of_ble_eq_true rfl, Nat.le_of_ble_eq_true rfl⟩ hZ hP hD hC 0 (ci := 8) rfl rfl rfl rfl hl.1 rfl (Nat.le_of_ble_eq_true rfl) d_Mo_lines_23 ⟨Nat.le_of_ble_eq_true rfl, Nat.le_of_ble_eq_true rfl⟩) hZ hP hD hS hC (fun r_23 w1 H locs hq hP hD hS => ?_)
      obtain ⟨z_wrong_5, rfl, hv_5, hx_5, hz_5⟩ := hq
      have hP : va_P D classes [(m_stack, .inl (cI, 48, .inl g_stack)), (m_mark, .inl (cI, 28000, .inl g_mark)), (mo, .inr (8, [.int z_fault, .int z_size, .ref m_row, .ref m_shelves, .ref m_many, .ref m_widths, .int (nI mk), .ref m_mark, .int z_shown, .ref m_shownMark, .int z_wasRun, .int z_wrong_5, .int z_ended, .int (nI sp), .int z_hints, .int z_hasWidth, .int z_width, .int z_first, .int z_moved, .int z_deepest, .int z_x, .int z_y, .int (nI t), .ref m_stack, .ref m_places, .int (nI d), .ref m_kinds, .ref m_ats, .ref m_ends]))] H := hP
      have hD : va_D A_ [(m_stack, .inl (cI, 48, .inl g_stack)), (m_mark, .inl (cI, 28000, .inl g_mark)), (mo, .inr (8, [.int z_fault, .int z_size, .ref m_row, .ref m_shelves, .ref m_many, .ref m_widths, .int (nI mk), .ref m_mark, .int z_shown, .ref m_shownMark, .int z_wasRun, .int z_wrong_5, .int z_ended, .int (nI sp), .int z_hints, .int z_hasWidth, .int z_width, .int z_first, .int z_moved, .int z_deepest, .int z_x, .int z_y, .int (nI t), .ref m_stack, .ref m_places, .int (nI d), .ref m_kinds, .ref m_ats, .ref m_ends]))] := hD
      refine lv_if_eq (tgt := 74) hx hb d_Mo_lines_26 (by decide) (fun c_26 => ?_) (fun c_26 => ?_)
      · exact t_vret hx hb hr hlk d_Mo_lines_74 (hP.subm (ws' := [(mo, .inr (8, [.int z_fault, .int z_size, .ref m_row, .ref m_shelves, .ref m_many, .ref m_widths, .int (nI mk), .ref m_mark, .int z_shown, .ref m_shownMark, .int z_wasRun, .int z_wrong_5, .int z_ended, .int (nI sp), .int z_hints, .int z_hasWidth, .int z_width, .int z_first, .int z_moved, .int z_deepest, .int z_x, .int z_y, .int (nI t), .ref m_stack, .ref m_places, .int (nI d), .ref m_kinds, .ref m_ats, .ref m_ends])), (m_stack, .inl (cI, 48, .inl g_stack)), (m_mark, .inl (cI, 28000, .inl g_mark))]) [2, 0, 1] rfl) (hD.sub (ws' := [(mo, .inr (8, [.int z_fault, .int z_size, .ref m_row, .ref m_shelves, .ref m_many, .ref m_widths, .int (nI mk), .ref m_mark, .int z_shown, .ref m_shownMark, .int z_wasRun, .int z_wrong_5, .int z_ended, .int (nI sp), .int z_hints, .int z_hasWidth, .int z_width, .int z_first, .int z_moved, .int z_deepest, .int z_x, .int z_y, .int (nI t), .ref m_stack, .ref m_places, .int (nI d), .ref m_kinds, .ref m_ats, .ref m_ends])), (m_stack, .inl (cI, 48, .inl g_stack)), (m_mark, .inl (cI, 28000, .inl g_mark))]) [2, 0, 1] rfl rfl) hS ⟨rfl, rfl, rfl, _, _, _, mk, t, _, rfl, (by omega)⟩
      · refine lv_iconst (v := 0) hx hb d_Mo_lines_29 (by decide) ?_
        refine lv_istore_n (lv' := [(1, .int 0), (0, .ref mo)]) hx hb d_Mo_lines_30 rfl hl (by decide) rfl (fun ls hl => ?_)
        have lp_31 : ∀ (fu : Nat) (i : Nat) (xL : Int32) (yL : Int32) (wL : Int32) (mL : Nat) (gm : Nat → Int32) (H : Heap) (locs : List Loc) (ls : Array Slot), (mL ≤ 4000 ∧ i ≤ 60 ∧ i % 2 = 0) → (70 - i) < fu → va_P D classes [(mo, .inr (8, [.int z_fault, .int z_size, .ref m_row, .ref m_shelves, .ref m_many, .ref m_widths, .int (nI mL), .ref m_mark, .int z_shown, .ref m_shownMark, .int z_wasRun, .int wL, .int z_ended, .int (nI sp), .int z_hints, .int z_hasWidth, .int z_width, .int z_first, .int z_moved, .int z_deepest, .int xL, .int yL, .int (nI t), .ref m_stack, .ref m_places, .int (nI d), .ref m_kinds, .ref m_ats, .ref m_ends])), (m_stack, .inl (cI, 48, .inl g_stack)), (m_mark, .inl (cI, 28000, .inl gm))] H → va_D A_ [(mo, .inr (8, [.int z_fault, .int z_size, .ref m_row, .ref m_shelves, .ref m_many, .ref m_widths, .int (nI mL), .ref m_mark, .int z_shown, .ref m_shownMark, .int z_wasRun, .int wL, .int z_ended, .int (nI sp), .int z_hints, .int z_hasWidth, .int z_width, .int z_first, .int z_moved, .int z_deepest, .int xL, .int yL, .int (nI t), .ref m_stack, .ref m_places, .int (nI d), .ref m_kinds, .ref m_ats, .ref m_ends])), (m_stack, .inl (cI, 48, .inl g_stack)), (m_mark, .inl (cI, 28000, .inl gm))] → va_S A_ s_.heap H locs → lv_has ls 2 [(0, .ref mo), (1, .int (nI i))] → W p_ l e_ ({ frames := 3, cells := 0, slots := 0, locals := 69 }) s_ m_ args_ below_ meth_ c_ H locs (0) (0) (MQT below_ D classes A_ (pV0 (fun w => ∃ (z_x' : Int32) (z_y' : Int32) (z_wrong' : Int32) (mk' : Nat) (t' : Nat) (g_mark' : Nat → Int32), w = [(mo, .inr (8, [.int z_fault, .int z_size, .ref m_row, .ref m_shelves, .ref m_many, .ref m_widths, .int (nI mk'), .ref m_mark, .int z_shown, .ref m_shownMark, .int z_wasRun, .int z_wrong', .int z_ended, .int (nI sp), .int z_hints, .int z_hasWidth, .int z_width, .int z_first, .int z_moved, .int z_deepest, .int z_x', .int z_y', .int (nI t'), .ref m_stack, .ref m_places, .int (nI d), .ref m_kinds, .ref m_ats, .ref m_ends])), (m_stack, .inl (cI, 48, .inl g_stack)), (m_mark, .inl (cI, 28000, .inl g_mark'))] ∧ (t' ≤ 48 ∧ d ≤ 10 ∧ mk' ≤ 4000 ∧ sp ≤ 20000))) s_) (F0 m_ 31 ls []) := by
          intro fu
          induction fu with
          | zero => intro i xL yL wL mL gm H locs ls hinv hfu; exact absurd hfu (Nat.not_lt_zero _)
          | succ fu ih_31 =>
            intro i xL yL wL mL gm H locs ls hinv hfu hP hD hS hl
            obtain ⟨hmL, hi1, hi2⟩ := hinv
            refine lv_iload_n hx hb d_Mo_lines_31 rfl (lv_at hl 1 rfl) ?_
            refine lv_aload_n hx hb d_Mo_lines_32 rfl (lv_at hl 0 rfl) ?_
            refine va_get (D := D) (ci := 8) (v := .int (nI t)) (C := R_Mo) (T := F_Mo) (N := 29) hx hb hts i_Mo hown hZ.1 hP 0 rfl rfl 22 (by decide) (hts _ fl_Mo_82) (fun _ h9 => h9) rfl d_Mo_lines_33 ?_
            refine lv_icmp_ge (tgt := 70) hx hb d_Mo_lines_36 (by decide) (fun c_36 => ?_) (fun c_36 => ?_)
            · have n_36 : (t) ≤ (i) := (nI_leI (a := t) (b := i) (by omega) (by omega)).mp c_36
              refine lv_aload_n hx hb d_Mo_lines_70 rfl (lv_at hl 0 rfl) ?_
              have hC : Cut [(mo, .inr (8, [.int z_fault, .int z_size, .ref m_row, .ref m_shelves, .ref m_many, .ref m_widths, .int (nI mL), .ref m_mark, .int z_shown, .ref m_shownMark, .int z_wasRun, .int wL, .int z_ended, .int (nI sp), .int z_hints, .int z_hasWidth, .int z_width, .int z_first, .int z_moved, .int z_deepest, .int xL, .int yL, .int (nI t), .ref m_stack, .ref m_places, .int (nI d), .ref m_kinds, .ref m_ats, .ref m_ends])), (m_stack, .inl (cI, 48, .inl g_stack)), (m_mark, .inl (cI, 28000, .inl gm))] [(mo, .inr (8, [.int z_fault, .int z_size, .ref m_row, .ref m_shelves, .ref m_many, .ref m_widths, .int (nI mL), .ref m_mark, .int z_shown, .ref m_shownMark, .int z_wasRun, .int wL, .int z_ended, .int (nI sp), .int z_hints, .int z_hasWidth, .int z_width, .int z_first, .int z_moved, .int z_deepest, .int xL, .int yL, .int (nI t), .ref m_stack, .ref m_places, .int (nI d), .ref m_kinds, .ref m_ats, .ref m_ends]))] [(m_stack, .inl (cI, 48, .inl g_stack)), (m_mark, .inl (cI, 28000, .inl gm))] [0] [1, 2] := ⟨rfl, rfl, rfl, rfl, by decide⟩
              refine goV0 (trV (As := []) (rest := []) ⟨hx, hb, hml, hown, hts⟩ gd_good (c_Mo_take_V l D cB cI cJ mo m_row m_shelves m_many m_widths m_mark m_shownMark m_stack m_places m_kinds m_ats m_ends mL sp t d z_fault z_size z_shown z_wasRun wL z_ended z_hints z_hasWidth z_width z_first z_moved z_deepest xL yL (by omega) ) cal_Mo_take_V ml_Mo_155 ⟨Nat.le_of_ble_eq_true rfl, Nat.le_of_ble_eq_true rfl⟩ hZ hP hD hC 0 (ci := 8) rfl rfl rfl rfl hl.1 rfl (Nat.le_of_ble_eq_true rfl) d_Mo_lines_71 ⟨Nat.le_of_ble_eq_true rfl, Nat.le_of_ble_eq_true rfl⟩) hZ hP hD hS hC (fun w1 H locs hq hP hD hS => ?_)
              obtain ⟨t_6, rfl, hv_6⟩ := hq
              have hP : va_P D classes [(m_stack, .inl (cI, 48, .inl g_stack)), (m_mark, .inl (cI, 28000, .inl gm)), (mo, .inr (8, [.int z_fault, .int z_size, .ref m_row, .ref m_shelves, .ref m_many, .ref m_widths, .int (nI mL), .ref m_mark, .int z_shown, .ref m_shownMark, .int z_wasRun, .int wL, .int z_ended, .int (nI sp), .int z_hints, .int z_hasWidth, .int z_width, .int z_first, .int z_moved, .int z_deepest, .int xL, .int yL, .int (nI t_6), .ref m_stack, .ref m_places, .int (nI d), .ref m_kinds, .ref m_ats, .ref m_ends]))] H := hP
              have hD : va_D A_ [(m_stack, .inl (cI, 48, .inl g_stack)), (m_mark, .inl (cI, 28000, .inl gm)), (mo, .inr (8, [.int z_fault, .int z_size, .ref m_row, .ref m_shelves, .ref m_many, .ref m_widths, .int (nI mL), .ref m_mark, .int z_shown, .ref m_shownMark, .int z_wasRun, .int wL, .int z_ended, .int (nI sp), .int z_hints, .int z_hasWidth, .int z_width, .int z_first, .int z_moved, .int z_deepest, .int xL, .int yL, .int (nI t_6), .ref m_stack, .ref m_places, .int (nI d), .ref m_kinds, .ref m_ats, .ref m_ends]))] := hD
              exact t_vret hx hb hr hlk d_Mo_lines_74 (hP.subm (ws' := [(mo, .inr (8, [.int z_fault, .int z_size, .ref m_row, .ref m_shelves, .ref m_many, .ref m_widths, .int (nI mL), .ref m_mark, .int z_shown, .ref m_shownMark, .int z_wasRun, .int wL, .int z_ended, .int (nI sp), .int z_hints, .int z_hasWidth, .int z_width, .int z_first, .int z_moved, .int z_deepest, .int xL, .int yL, .int (nI t_6), .ref m_stack, .ref m_places, .int (nI d), .ref m_kinds, .ref m_ats, .ref m_ends])), (m_stack, .inl (cI, 48, .inl g_stack)), (m_mark, .inl (cI, 28000, .inl gm))]) [2, 0, 1] rfl) (hD.sub (ws' := [(mo, .inr (8, [.int z_fault, .int z_size, .ref m_row, .ref m_shelves, .ref m_many, .ref m_widths, .int (nI mL), .ref m_mark, .int z_shown, .ref m_shownMark, .int z_wasRun, .int wL, .int z_ended, .int (nI sp), .int z_hints, .int z_hasWidth, .int z_width, .int z_first, .int z_moved, .int z_deepest, .int xL, .int yL, .int (nI t_6), .ref m_stack, .ref m_places, .int (nI d), .ref m_kinds, .ref m_ats, .ref m_ends])), (m_stack, .inl (cI, 48, .inl g_stack)), (m_mark, .inl (cI, 28000, .inl gm))]) [2, 0, 1] rfl rfl) hS ⟨rfl, rfl, rfl, _, _, _, mL, t_6, _, rfl, (by omega)⟩
            · have n_36 : ¬ (t) ≤ (i) := fun z => c_36 ((nI_leI (a := t) (b := i) (by omega) (by omega)).mpr z)
              refine lv_aload_n hx hb d_Mo_lines_39 rfl (lv_at hl 0 rfl) ?_
              refine va_get (D := D) (ci := 8) (v := .int wL) (C := R_Mo) (T := F_Mo) (N := 29) hx hb hts i_Mo hown hZ.1 hP 0 rfl rfl 11 (by decide) (hts _ fl_Mo_75) (fun _ h9 => h9) rfl d_Mo_lines_40 ?_
              refine lv_if_ne (tgt := 70) hx hb d_Mo_lines_43 (by decide) (fun c_43 => ?_) (fun c_43 => ?_)
              · refine lv_aload_n hx hb d_Mo_lines_70 rfl (lv_at hl 0 rfl) ?_
                have hC : Cut [(mo, .inr (8, [.int z_fault, .int z_size, .ref m_row, .ref m_shelves, .ref m_many, .ref m_widths, .int (nI mL), .ref m_mark, .int z_shown, .ref m_shownMark, .int z_wasRun, .int wL, .int z_ended, .int (nI sp), .int z_hints, .int z_hasWidth, .int z_width, .int z_first, .int z_moved, .int z_deepest, .int xL, .int yL, .int (nI t), .ref m_stack, .ref m_places, .int (nI d), .ref m_kinds, .ref m_ats, .ref m_ends])), (m_stack, .inl (cI, 48, .inl g_stack)), (m_mark, .inl (cI, 28000, .inl gm))] [(mo, .inr (8, [.int z_fault, .int z_size, .ref m_row, .ref m_shelves, .ref m_many, .ref m_widths, .int (nI mL), .ref m_mark, .int z_shown, .ref m_shownMark, .int z_wasRun, .int wL, .int z_ended, .int (nI sp), .int z_hints, .int z_hasWidth, .int z_width, .int z_first, .int z_moved, .int z_deepest, .int xL, .int yL, .int (nI t), .ref m_stack, .ref m_places, .int (nI d), .ref m_kinds, .ref m_ats, .ref m_ends]))] [(m_stack, .inl (cI, 48, .inl g_stack)), (m_mark, .inl (cI, 28000, .inl gm))] [0] [1, 2] := ⟨rfl, rfl, rfl, rfl, by decide⟩
                refine goV0 (trV (As := []) (rest := []) ⟨hx, hb, hml, hown, hts⟩ gd_good (c_Mo_take_V l D cB cI cJ mo m_row m_shelves m_many m_widths m_mark m_shownMark m_stack m_places m_kinds m_ats m_ends mL sp t d z_fault z_size z_shown z_wasRun wL z_ended z_hints z_hasWidth z_width z_first z_moved z_deepest xL yL (by omega) ) cal_Mo_take_V ml_Mo_155 ⟨Nat.le_of_ble_eq_true rfl, Nat.le_of_ble_eq_true rfl⟩ hZ hP hD hC 0 (ci := 8) rfl rfl rfl rfl hl.1 rfl (Nat.le_of_ble_eq_true rfl) d_Mo_lines_71 ⟨Nat.le_of_ble_eq_true rfl, Nat.le_of_ble_eq_true rfl⟩) hZ hP hD hS hC (fun w1 H locs hq hP hD hS => ?_)
                obtain ⟨t_7, rfl, hv_7⟩ := hq
                have hP : va_P D classes [(m_stack, .inl (cI, 48, .inl g_stack)), (m_mark, .inl (cI, 28000, .inl gm)), (mo, .inr (8, [.int z_fault, .int z_size, .ref m_row, .ref m_shelves, .ref m_many, .ref m_widths, .int (nI mL), .ref m_mark, .int z_shown, .ref m_shownMark, .int z_wasRun, .int wL, .int z_ended, .int (nI sp), .int z_hints, .int z_hasWidth, .int z_width, .int z_first, .int z_moved, .int z_deepest, .int xL, .int yL, .int (nI t_7), .ref m_stack, .ref m_places, .int (nI d), .ref m_kinds, .ref m_ats, .ref m_ends]))] H := hP
                have hD : va_D A_ [(m_stack, .inl (cI, 48, .inl g_stack)), (m_mark, .inl (cI, 28000, .inl gm)), (mo, .inr (8, [.int z_fault, .int z_size, .ref m_row, .ref m_shelves, .ref m_many, .ref m_widths, .int (nI mL), .ref m_mark, .int z_shown, .ref m_shownMark, .int z_wasRun, .int wL, .int z_ended, .int (nI sp), .int z_hints, .int z_hasWidth, .int z_width, .int z_first, .int z_moved, .int z_deepest, .int xL, .int yL, .int (nI t_7), .ref m_stack, .ref m_places, .int (nI d), .ref m_kinds, .ref m_ats, .ref m_ends]))] := hD
                exact t_vret hx hb hr hlk d_Mo_lines_74 (hP.subm (ws' := [(mo, .inr (8, [.int z_fault, .int z_size, .ref m_row, .ref m_shelves, .ref m_many, .ref m_widths, .int (nI mL), .ref m_mark, .int z_shown, .ref m_shownMark, .int z_wasRun, .int wL, .int z_ended, .int (nI sp), .int z_hints, .int z_hasWidth, .int z_width, .int z_first, .int z_moved, .int z_deepest, .int xL, .int yL, .int (nI t_7), .ref m_stack, .ref m_places, .int (nI d), .ref m_kinds, .ref m_ats, .ref m_ends])), (m_stack, .inl (cI, 48, .inl g_stack)), (m_mark, .inl (cI, 28000, .inl gm))]) [2, 0, 1] rfl) (hD.sub (ws' := [(mo, .inr (8, [.int z_fault, .int z_size, .ref m_row, .ref m_shelves, .ref m_many, .ref m_widths, .int (nI mL), .ref m_mark, .int z_shown, .ref m_shownMark, .int z_wasRun, .int wL, .int z_ended, .int (nI sp), .int z_hints, .int z_hasWidth, .int z_width, .int z_first, .int z_moved, .int z_deepest, .int xL, .int yL, .int (nI t_7), .ref m_stack, .ref m_places, .int (nI d), .ref m_kinds, .ref m_ats, .ref m_ends])), (m_stack, .inl (cI, 48, .inl g_stack)), (m_mark, .inl (cI, 28000, .inl gm))]) [2, 0, 1] rfl rfl) hS ⟨rfl, rfl, rfl, _, _, _, mL, t_7, _, rfl, (by omega)⟩
              · refine lv_aload_n hx hb d_Mo_lines_46 rfl (lv_at hl 0 rfl) ?_
                refine lv_aload_n hx hb d_Mo_lines_47 rfl (lv_at hl 0 rfl) ?_
                refine va_get (D := D) (ci := 8) (v := .ref m_stack) (C := R_Mo) (T := F_Mo) (N := 29) hx hb hts i_Mo hown hZ.1 hP 0 rfl rfl 23 (by decide) (hts _ fl_Mo_29) (fun _ h9 => h9) rfl d_Mo_lines_48 ?_
                refine lv_iload_n hx hb d_Mo_lines_51 rfl (lv_at hl 1 rfl) ?_
                refine va_iald hx hb hZ.1 hP 1 1 rfl rfl (vp_in_nI (by omega) (by omega)) d_Mo_lines_52 ?_
                refine lv_tv (y := g_stack i) (by rw [nI_clamp (by omega)]) ?_
                refine lv_aload_n hx hb d_Mo_lines_53 rfl (lv_at hl 0 rfl) ?_
                refine va_get (D := D) (ci := 8) (v := .ref m_stack) (C := R_Mo) (T := F_Mo) (N := 29) hx hb hts i_Mo hown hZ.1 hP 0 rfl rfl 23 (by decide) (hts _ fl_Mo_29) (fun _ h9 => h9) rfl d_Mo_lines_54 ?_
                refine lv_iload_n hx hb d_Mo_lines_57 rfl (lv_at hl 1 rfl) ?_
                refine lv_iconst (v := 1) hx hb d_Mo_lines_58 (by decide) ?_
                refine lv_iadd hx hb d_Mo_lines_59 ?_
                refine lv_tv (y := nI (i + 1)) (nI_add i 1) ?_
                refine va_iald hx hb hZ.1 hP 1 1 rfl rfl (vp_in_nI (by omega) (by omega)) d_Mo_lines_60 ?_
                refine lv_tv (y := g_stack (i + 1)) (by rw [nI_clamp (by omega)]) ?_
                have hC : Cut [(mo, .inr (8, [.int z_fault, .int z_size, .ref m_row, .ref m_shelves, .ref m_many, .ref m_widths, .int (nI mL), .ref m_mark, .int z_shown, .ref m_shownMark, .int z_wasRun, .int wL, .int z_ended, .int (nI sp), .int z_hints, .int z_hasWidth, .int z_width, .int z_first, .int z_moved, .int z_deepest, .int xL, .int yL, .int (nI t), .ref m_stack, .ref m_places, .int (nI d), .ref m_kinds, .ref m_ats, .ref m_ends])), (m_stack, .inl (cI, 48, .inl g_stack)), (m_mark, .inl (cI, 28000, .inl gm))] [(mo, .inr (8, [.int z_fault, .int z_size, .ref m_row, .ref m_shelves, .ref m_many, .ref m_widths, .int (nI mL), .ref m_mark, .int z_shown, .ref m_shownMark, .int z_wasRun, .int wL, .int z_ended, .int (nI sp), .int z_hints, .int z_hasWidth, .int z_width, .int z_first, .int z_moved, .int z_deepest, .int xL, .int yL, .int (nI t), .ref m_stack, .ref m_places, .int (nI d), .ref m_kinds, .ref m_ats, .ref m_ends])), (m_mark, .inl (cI, 28000, .inl gm))] [(m_stack, .inl (cI, 48, .inl g_stack))] [0, 2] [1] := ⟨rfl, rfl, rfl, rfl, by decide⟩
                refine goV0 (trV (As := [.int (g_stack i), .int (g_stack (i + 1))]) (rest := []) ⟨hx, hb, hml, hown, hts⟩ gd_good (c_Mo_line l D cB cI cJ mo m_row m_shelves m_many m_widths m_mark m_shownMark m_stack m_places m_kinds m_ats m_ends mL sp t d z_fault z_size z_shown z_wasRun wL z_ended z_hints z_hasWidth z_width z_first z_moved z_deepest xL yL gm (g_stack i) (g_stack (i + 1)) (by omega) ) cal_Mo_line ml_Mo_166 ⟨Nat.le_of_ble_eq_true rfl, Nat.le_of_ble_eq_true rfl⟩ hZ hP hD hC 0 (ci := 8) rfl rfl rfl rfl hl.1 rfl (Nat.le_of_ble_eq_true rfl) d_Mo_lines_61 ⟨Nat.le_of_ble_eq_true rfl, Nat.le_of_ble_eq_true rfl⟩) hZ hP hD hS hC (fun w1 H locs hq hP hD hS => ?_)
                obtain ⟨z_x_8, z_y_8, z_wrong_8, mk_8, g_mark_8, rfl, hv_8⟩ := hq
                have hP : va_P D classes [(m_stack, .inl (cI, 48, .inl g_stack)), (mo, .inr (8, [.int z_fault, .int z_size, .ref m_row, .ref m_shelves, .ref m_many, .ref m_widths, .int (nI mk_8), .ref m_mark, .int z_shown, .ref m_shownMark, .int z_wasRun, .int z_wrong_8, .int z_ended, .int (nI sp), .int z_hints, .int z_hasWidth, .int z_width, .int z_first, .int z_moved, .int z_deepest, .int z_x_8, .int z_y_8, .int (nI t), .ref m_stack, .ref m_places, .int (nI d), .ref m_kinds, .ref m_ats, .ref m_ends])), (m_mark, .inl (cI, 28000, .inl g_mark_8))] H := hP
                have hD : va_D A_ [(m_stack, .inl (cI, 48, .inl g_stack)), (mo, .inr (8, [.int z_fault, .int z_size, .ref m_row, .ref m_shelves, .ref m_many, .ref m_widths, .int (nI mk_8), .ref m_mark, .int z_shown, .ref m_shownMark, .int z_wasRun, .int z_wrong_8, .int z_ended, .int (nI sp), .int z_hints, .int z_hasWidth, .int z_width, .int z_first, .int z_moved, .int z_deepest, .int z_x_8, .int z_y_8, .int (nI t), .ref m_stack, .ref m_places, .int (nI d), .ref m_kinds, .ref m_ats, .ref m_ends])), (m_mark, .inl (cI, 28000, .inl g_mark_8))] := hD
                refine lv_iinc (v := nI (i + 2)) (lv' := [(1, .int (nI (i + 2))), (0, .ref mo)]) hx hb d_Mo_lines_64 hl (k := 1) rfl (nI_add i 2) (by decide) rfl (fun ls hl => ?_)
                refine lv_goto (tgt := 31) hx hb d_Mo_lines_67 (by decide) ?_
                exact ih_31  (i + 2) z_x_8 z_y_8 z_wrong_8 mk_8 g_mark_8 _ _ _ ⟨by omega, by omega, by omega⟩ (by omega) (hP.subm [1, 0, 2] rfl) (hD.sub [1, 0, 2] rfl rfl) hS (lv_sub hl [1, 0] rfl)
        exact lp_31 _ 0 z_x z_y z_wrong_5 mk g_mark _ _ _ ⟨by omega, by omega, by omega⟩ (Nat.lt_succ_self _) (hP.subm [2, 0, 1] rfl) (hD.sub [2, 0, 1] rfl rfl) hS (lv_sub hl [1, 0] rfl)
    · have n_15 : (t % 2) = (0) := (nI_eq (a := t % 2) (b := 0) (by omega) (by omega)).mp c_15
      refine lv_iconst (v := 1) hx hb d_Mo_lines_18 (by decide) ?_
      refine lv_goto (tgt := 23) hx hb d_Mo_lines_19 (by decide) ?_
      have hC : Cut [(mo, .inr (8, [.int z_fault, .int z_size, .ref m_row, .ref m_shelves, .ref m_many, .ref m_widths, .int (nI mk), .ref m_mark, .int z_shown, .ref m_shownMark, .int z_wasRun, .int z_wrong, .int z_ended, .int (nI sp), .int z_hints, .int z_hasWidth, .int z_width, .int z_first, .int z_moved, .int z_deepest, .int z_x, .int z_y, .int (nI t), .ref m_stack, .ref m_places, .int (nI d), .ref m_kinds, .ref m_ats, .ref m_ends])), (m_stack, .inl (cI, 48, .inl g_stack)), (m_mark, .inl (cI, 28000, .inl g_mark))] [(mo, .inr (8, [.int z_fault, .int z_size, .ref m_row, .ref m_shelves, .ref m_many, .ref m_widths, .int (nI mk), .ref m_mark, .int z_shown, .ref m_shownMark, .int z_wasRun, .int z_wrong, .int z_ended, .int (nI sp), .int z_hints, .int z_hasWidth, .int z_width, .int z_first, .int z_moved, .int z_deepest, .int z_x, .int z_y, .int (nI t), .ref m_stack, .ref m_places, .int (nI d), .ref m_kinds, .ref m_ats, .ref m_ends]))] [(m_stack, .inl (cI, 48, .inl g_stack)), (m_mark, .inl (cI, 28000, .inl g_mark))] [0] [1, 2] := ⟨rfl, rfl, rfl, rfl, by decide⟩
      refine goI0 (trV (As := [.int 1]) (rest := []) ⟨hx, hb, hml, hown, hts⟩ gd_good (c_Mo_may l D cB cI cJ mo m_row m_shelves m_many m_widths m_mark m_shownMark m_stack m_places m_kinds m_ats m_ends mk sp t d z_fault z_size z_shown z_wasRun z_wrong z_ended z_hints z_hasWidth z_width z_first z_moved z_deepest z_x z_y 1 (by omega) ) cal_Mo_may ml_Mo_162 ⟨Nat.le_of_ble_eq_true rfl, Nat.le_of_ble_eq_true rfl⟩ hZ hP hD hC 0 (ci := 8) rfl rfl rfl rfl hl.1 rfl (Nat.le_of_ble_eq_true rfl) d_Mo_lines_23 ⟨Nat.le_of_ble_eq_true rfl, Nat.le_of_ble_eq_true rfl⟩) hZ hP hD hS hC (fun r_23 w1 H locs hq hP hD hS => ?_)
      obtain ⟨z_wrong_9, rfl, hv_9, hx_9, hz_9⟩ := hq
      have hP : va_P D classes [(m_stack, .inl (cI, 48, .inl g_stack)), (m_mark, .inl (cI, 28000, .inl g_mark)), (mo, .inr (8, [.int z_fault, .int z_size, .ref m_row, .ref m_shelves, .ref m_many, .ref m_widths, .int (nI mk), .ref m_mark, .int z_shown, .ref m_shownMark, .int z_wasRun, .int z_wrong_9, .int z_ended, .int (nI sp), .int z_hints, .int z_hasWidth, .int z_width, .int z_first, .int z_moved, .int z_deepest, .int z_x, .int z_y, .int (nI t), .ref m_stack, .ref m_places, .int (nI d), .ref m_kinds, .ref m_ats, .ref m_ends]))] H := hP
      have hD : va_D A_ [(m_stack, .inl (cI, 48, .inl g_stack)), (m_mark, .inl (cI, 28000, .inl g_mark)), (mo, .inr (8, [.int z_fault, .int z_size, .ref m_row, .ref m_shelves, .ref m_many, .ref m_widths, .int (nI mk), .ref m_mark, .int z_shown, .ref m_shownMark, .int z_wasRun, .int z_wrong_9, .int z_ended, .int (nI sp), .int z_hints, .int z_hasWidth, .int z_width, .int z_first, .int z_moved, .int z_deepest, .int z_x, .int z_y, .int (nI t), .ref m_stack, .ref m_places, .int (nI d), .ref m_kinds, .ref m_ats, .ref m_ends]))] := hD
      refine lv_if_eq (tgt := 74) hx hb d_Mo_lines_26 (by decide) (fun c_26 => ?_) (fun c_26 => ?_)
      · exact t_vret hx hb hr hlk d_Mo_lines_74 (hP.subm (ws' := [(mo, .inr (8, [.int z_fault, .int z_size, .ref m_row, .ref m_shelves, .ref m_many, .ref m_widths, .int (nI mk), .ref m_mark, .int z_shown, .ref m_shownMark, .int z_wasRun, .int z_wrong_9, .int z_ended, .int (nI sp), .int z_hints, .int z_hasWidth, .int z_width, .int z_first, .int z_moved, .int z_deepest, .int z_x, .int z_y, .int (nI t), .ref m_stack, .ref m_places, .int (nI d), .ref m_kinds, .ref m_ats, .ref m_ends])), (m_stack, .inl (cI, 48, .inl g_stack)), (m_mark, .inl (cI, 28000, .inl g_mark))]) [2, 0, 1] rfl) (hD.sub (ws' := [(mo, .inr (8, [.int z_fault, .int z_size, .ref m_row, .ref m_shelves, .ref m_many, .ref m_widths, .int (nI mk), .ref m_mark, .int z_shown, .ref m_shownMark, .int z_wasRun, .int z_wrong_9, .int z_ended, .int (nI sp), .int z_hints, .int z_hasWidth, .int z_width, .int z_first, .int z_moved, .int z_deepest, .int z_x, .int z_y, .int (nI t), .ref m_stack, .ref m_places, .int (nI d), .ref m_kinds, .ref m_ats, .ref m_ends])), (m_stack, .inl (cI, 48, .inl g_stack)), (m_mark, .inl (cI, 28000, .inl g_mark))]) [2, 0, 1] rfl rfl) hS ⟨rfl, rfl, rfl, _, _, _, mk, t, _, rfl, (by omega)⟩
      · refine lv_iconst (v := 0) hx hb d_Mo_lines_29 (by decide) ?_
        refine lv_istore_n (lv' := [(1, .int 0), (0, .ref mo)]) hx hb d_Mo_lines_30 rfl hl (by decide) rfl (fun ls hl => ?_)
        have lp_31 : ∀ (fu : Nat) (i : Nat) (xL : Int32) (yL : Int32) (wL : Int32) (mL : Nat) (gm : Nat → Int32) (H : Heap) (locs : List Loc) (ls : Array Slot), (mL ≤ 4000 ∧ i ≤ 60 ∧ i % 2 = 0) → (70 - i) < fu → va_P D classes [(mo, .inr (8, [.int z_fault, .int z_size, .ref m_row, .ref m_shelves, .ref m_many, .ref m_widths, .int (nI mL), .ref m_mark, .int z_shown, .ref m_shownMark, .int z_wasRun, .int wL, .int z_ended, .int (nI sp), .int z_hints, .int z_hasWidth, .int z_width, .int z_first, .int z_moved, .int z_deepest, .int xL, .int yL, .int (nI t), .ref m_stack, .ref m_places, .int (nI d), .ref m_kinds, .ref m_ats, .ref m_ends])), (m_stack, .inl (cI, 48, .inl g_stack)), (m_mark, .inl (cI, 28000, .inl gm))] H → va_D A_ [(mo, .inr (8, [.int z_fault, .int z_size, .ref m_row, .ref m_shelves, .ref m_many, .ref m_widths, .int (nI mL), .ref m_mark, .int z_shown, .ref m_shownMark, .int z_wasRun, .int wL, .int z_ended, .int (nI sp), .int z_hints, .int z_hasWidth, .int z_width, .int z_first, .int z_moved, .int z_deepest, .int xL, .int yL, .int (nI t), .ref m_stack, .ref m_places, .int (nI d), .ref m_kinds, .ref m_ats, .ref m_ends])), (m_stack, .inl (cI, 48, .inl g_stack)), (m_mark, .inl (cI, 28000, .inl gm))] → va_S A_ s_.heap H locs → lv_has ls 2 [(0, .ref mo), (1, .int (nI i))] → W p_ l e_ ({ frames := 3, cells := 0, slots := 0, locals := 69 }) s_ m_ args_ below_ meth_ c_ H locs (0) (0) (MQT below_ D classes A_ (pV0 (fun w => ∃ (z_x' : Int32) (z_y' : Int32) (z_wrong' : Int32) (mk' : Nat) (t' : Nat) (g_mark' : Nat → Int32), w = [(mo, .inr (8, [.int z_fault, .int z_size, .ref m_row, .ref m_shelves, .ref m_many, .ref m_widths, .int (nI mk'), .ref m_mark, .int z_shown, .ref m_shownMark, .int z_wasRun, .int z_wrong', .int z_ended, .int (nI sp), .int z_hints, .int z_hasWidth, .int z_width, .int z_first, .int z_moved, .int z_deepest, .int z_x', .int z_y', .int (nI t'), .ref m_stack, .ref m_places, .int (nI d), .ref m_kinds, .ref m_ats, .ref m_ends])), (m_stack, .inl (cI, 48, .inl g_stack)), (m_mark, .inl (cI, 28000, .inl g_mark'))] ∧ (t' ≤ 48 ∧ d ≤ 10 ∧ mk' ≤ 4000 ∧ sp ≤ 20000))) s_) (F0 m_ 31 ls []) := by
          intro fu
          induction fu with
          | zero => intro i xL yL wL mL gm H locs ls hinv hfu; exact absurd hfu (Nat.not_lt_zero _)
          | succ fu ih_31 =>
            intro i xL yL wL mL gm H locs ls hinv hfu hP hD hS hl
            obtain ⟨hmL, hi1, hi2⟩ := hinv
            refine lv_iload_n hx hb d_Mo_lines_31 rfl (lv_at hl 1 rfl) ?_
            refine lv_aload_n hx hb d_Mo_lines_32 rfl (lv_at hl 0 rfl) ?_
            refine va_get (D := D) (ci := 8) (v := .int (nI t)) (C := R_Mo) (T := F_Mo) (N := 29) hx hb hts i_Mo hown hZ.1 hP 0 rfl rfl 22 (by decide) (hts _ fl_Mo_82) (fun _ h9 => h9) rfl d_Mo_lines_33 ?_
            refine lv_icmp_ge (tgt := 70) hx hb d_Mo_lines_36 (by decide) (fun c_36 => ?_) (fun c_36 => ?_)
            · have n_36 : (t) ≤ (i) := (nI_leI (a := t) (b := i) (by omega) (by omega)).mp c_36
              refine lv_aload_n hx hb d_Mo_lines_70 rfl (lv_at hl 0 rfl) ?_
              have hC : Cut [(mo, .inr (8, [.int z_fault, .int z_size, .ref m_row, .ref m_shelves, .ref m_many, .ref m_widths, .int (nI mL), .ref m_mark, .int z_shown, .ref m_shownMark, .int z_wasRun, .int wL, .int z_ended, .int (nI sp), .int z_hints, .int z_hasWidth, .int z_width, .int z_first, .int z_moved, .int z_deepest, .int xL, .int yL, .int (nI t), .ref m_stack, .ref m_places, .int (nI d), .ref m_kinds, .ref m_ats, .ref m_ends])), (m_stack, .inl (cI, 48, .inl g_stack)), (m_mark, .inl (cI, 28000, .inl gm))] [(mo, .inr (8, [.int z_fault, .int z_size, .ref m_row, .ref m_shelves, .ref m_many, .ref m_widths, .int (nI mL), .ref m_mark, .int z_shown, .ref m_shownMark, .int z_wasRun, .int wL, .int z_ended, .int (nI sp), .int z_hints, .int z_hasWidth, .int z_width, .int z_first, .int z_moved, .int z_deepest, .int xL, .int yL, .int (nI t), .ref m_stack, .ref m_places, .int (nI d), .ref m_kinds, .ref m_ats, .ref m_ends]))] [(m_stack, .inl (cI, 48, .inl g_stack)), (m_mark, .inl (cI, 28000, .inl gm))] [0] [1, 2] := ⟨rfl, rfl, rfl, rfl, by decide⟩
              refine goV0 (trV (As := []) (rest := []) ⟨hx, hb, hml, hown, hts⟩ gd_good (c_Mo_take_V l D cB cI cJ mo m_row m_shelves m_many m_widths m_mark m_shownMark m_stack m_places m_kinds m_ats m_ends mL sp t d z_fault z_size z_shown z_wasRun wL z_ended z_hints z_hasWidth z_width z_first z_moved z_deepest xL yL (by omega) ) cal_Mo_take_V ml_Mo_155 ⟨Nat.le_of_ble_eq_true rfl, Nat.le_of_ble_eq_true rfl⟩ hZ hP hD hC 0 (ci := 8) rfl rfl rfl rfl hl.1 rfl (Nat.le_of_ble_eq_true rfl) d_Mo_lines_71 ⟨Nat.le_of_ble_eq_true rfl, Nat.le_of_ble_eq_true rfl⟩) hZ hP hD hS hC (fun w1 H locs hq hP hD hS => ?_)
              obtain ⟨t_10, rfl, hv_10⟩ := hq
              have hP : va_P D classes [(m_stack, .inl (cI, 48, .inl g_stack)), (m_mark, .inl (cI, 28000, .inl gm)), (mo, .inr (8, [.int z_fault, .int z_size, .ref m_row, .ref m_shelves, .ref m_many, .ref m_widths, .int (nI mL), .ref m_mark, .int z_shown, .ref m_shownMark, .int z_wasRun, .int wL, .int z_ended, .int (nI sp), .int z_hints, .int z_hasWidth, .int z_width, .int z_first, .int z_moved, .int z_deepest, .int xL, .int yL, .int (nI t_10), .ref m_stack, .ref m_places, .int (nI d), .ref m_kinds, .ref m_ats, .ref m_ends]))] H := hP
              have hD : va_D A_ [(m_stack, .inl (cI, 48, .inl g_stack)), (m_mark, .inl (cI, 28000, .inl gm)), (mo, .inr (8, [.int z_fault, .int z_size, .ref m_row, .ref m_shelves, .ref m_many, .ref m_widths, .int (nI mL), .ref m_mark, .int z_shown, .ref m_shownMark, .int z_wasRun, .int wL, .int z_ended, .int (nI sp), .int z_hints, .int z_hasWidth, .int z_width, .int z_first, .int z_moved, .int z_deepest, .int xL, .int yL, .int (nI t_10), .ref m_stack, .ref m_places, .int (nI d), .ref m_kinds, .ref m_ats, .ref m_ends]))] := hD
              exact t_vret hx hb hr hlk d_Mo_lines_74 (hP.subm (ws' := [(mo, .inr (8, [.int z_fault, .int z_size, .ref m_row, .ref m_shelves, .ref m_many, .ref m_widths, .int (nI mL), .ref m_mark, .int z_shown, .ref m_shownMark, .int z_wasRun, .int wL, .int z_ended, .int (nI sp), .int z_hints, .int z_hasWidth, .int z_width, .int z_first, .int z_moved, .int z_deepest, .int xL, .int yL, .int (nI t_10), .ref m_stack, .ref m_places, .int (nI d), .ref m_kinds, .ref m_ats, .ref m_ends])), (m_stack, .inl (cI, 48, .inl g_stack)), (m_mark, .inl (cI, 28000, .inl gm))]) [2, 0, 1] rfl) (hD.sub (ws' := [(mo, .inr (8, [.int z_fault, .int z_size, .ref m_row, .ref m_shelves, .ref m_many, .ref m_widths, .int (nI mL), .ref m_mark, .int z_shown, .ref m_shownMark, .int z_wasRun, .int wL, .int z_ended, .int (nI sp), .int z_hints, .int z_hasWidth, .int z_width, .int z_first, .int z_moved, .int z_deepest, .int xL, .int yL, .int (nI t_10), .ref m_stack, .ref m_places, .int (nI d), .ref m_kinds, .ref m_ats, .ref m_ends])), (m_stack, .inl (cI, 48, .inl g_stack)), (m_mark, .inl (cI, 28000, .inl gm))]) [2, 0, 1] rfl rfl) hS ⟨rfl, rfl, rfl, _, _, _, mL, t_10, _, rfl, (by omega)⟩
            · have n_36 : ¬ (t) ≤ (i) := fun z => c_36 ((nI_leI (a := t) (b := i) (by omega) (by omega)).mpr z)
              refine lv_aload_n hx hb d_Mo_lines_39 rfl (lv_at hl 0 rfl) ?_
              refine va_get (D := D) (ci := 8) (v := .int wL) (C := R_Mo) (T := F_Mo) (N := 29) hx hb hts i_Mo hown hZ.1 hP 0 rfl rfl 11 (by decide) (hts _ fl_Mo_75) (fun _ h9 => h9) rfl d_Mo_lines_40 ?_
              refine lv_if_ne (tgt := 70) hx hb d_Mo_lines_43 (by decide) (fun c_43 => ?_) (fun c_43 => ?_)
              · refine lv_aload_n hx hb d_Mo_lines_70 rfl (lv_at hl 0 rfl) ?_
                have hC : Cut [(mo, .inr (8, [.int z_fault, .int z_size, .ref m_row, .ref m_shelves, .ref m_many, .ref m_widths, .int (nI mL), .ref m_mark, .int z_shown, .ref m_shownMark, .int z_wasRun, .int wL, .int z_ended, .int (nI sp), .int z_hints, .int z_hasWidth, .int z_width, .int z_first, .int z_moved, .int z_deepest, .int xL, .int yL, .int (nI t), .ref m_stack, .ref m_places, .int (nI d), .ref m_kinds, .ref m_ats, .ref m_ends])), (m_stack, .inl (cI, 48, .inl g_stack)), (m_mark, .inl (cI, 28000, .inl gm))] [(mo, .inr (8, [.int z_fault, .int z_size, .ref m_row, .ref m_shelves, .ref m_many, .ref m_widths, .int (nI mL), .ref m_mark, .int z_shown, .ref m_shownMark, .int z_wasRun, .int wL, .int z_ended, .int (nI sp), .int z_hints, .int z_hasWidth, .int z_width, .int z_first, .int z_moved, .int z_deepest, .int xL, .int yL, .int (nI t), .ref m_stack, .ref m_places, .int (nI d), .ref m_kinds, .ref m_ats, .ref m_ends]))] [(m_stack, .inl (cI, 48, .inl g_stack)), (m_mark, .inl (cI, 28000, .inl gm))] [0] [1, 2] := ⟨rfl, rfl, rfl, rfl, by decide⟩
                refine goV0 (trV (As := []) (rest := []) ⟨hx, hb, hml, hown, hts⟩ gd_good (c_Mo_take_V l D cB cI cJ mo m_row m_shelves m_many m_widths m_mark m_shownMark m_stack m_places m_kinds m_ats m_ends mL sp t d z_fault z_size z_shown z_wasRun wL z_ended z_hints z_hasWidth z_width z_first z_moved z_deepest xL yL (by omega) ) cal_Mo_take_V ml_Mo_155 ⟨Nat.le_of_ble_eq_true rfl, Nat.le_of_ble_eq_true rfl⟩ hZ hP hD hC 0 (ci := 8) rfl rfl rfl rfl hl.1 rfl (Nat.le_of_ble_eq_true rfl) d_Mo_lines_71 ⟨Nat.le_of_ble_eq_true rfl, Nat.le_of_ble_eq_true rfl⟩) hZ hP hD hS hC (fun w1 H locs hq hP hD hS => ?_)
                obtain ⟨t_11, rfl, hv_11⟩ := hq
                have hP : va_P D classes [(m_stack, .inl (cI, 48, .inl g_stack)), (m_mark, .inl (cI, 28000, .inl gm)), (mo, .inr (8, [.int z_fault, .int z_size, .ref m_row, .ref m_shelves, .ref m_many, .ref m_widths, .int (nI mL), .ref m_mark, .int z_shown, .ref m_shownMark, .int z_wasRun, .int wL, .int z_ended, .int (nI sp), .int z_hints, .int z_hasWidth, .int z_width, .int z_first, .int z_moved, .int z_deepest, .int xL, .int yL, .int (nI t_11), .ref m_stack, .ref m_places, .int (nI d), .ref m_kinds, .ref m_ats, .ref m_ends]))] H := hP
                have hD : va_D A_ [(m_stack, .inl (cI, 48, .inl g_stack)), (m_mark, .inl (cI, 28000, .inl gm)), (mo, .inr (8, [.int z_fault, .int z_size, .ref m_row, .ref m_shelves, .ref m_many, .ref m_widths, .int (nI mL), .ref m_mark, .int z_shown, .ref m_shownMark, .int z_wasRun, .int wL, .int z_ended, .int (nI sp), .int z_hints, .int z_hasWidth, .int z_width, .int z_first, .int z_moved, .int z_deepest, .int xL, .int yL, .int (nI t_11), .ref m_stack, .ref m_places, .int (nI d), .ref m_kinds, .ref m_ats, .ref m_ends]))] := hD
                exact t_vret hx hb hr hlk d_Mo_lines_74 (hP.subm (ws' := [(mo, .inr (8, [.int z_fault, .int z_size, .ref m_row, .ref m_shelves, .ref m_many, .ref m_widths, .int (nI mL), .ref m_mark, .int z_shown, .ref m_shownMark, .int z_wasRun, .int wL, .int z_ended, .int (nI sp), .int z_hints, .int z_hasWidth, .int z_width, .int z_first, .int z_moved, .int z_deepest, .int xL, .int yL, .int (nI t_11), .ref m_stack, .ref m_places, .int (nI d), .ref m_kinds, .ref m_ats, .ref m_ends])), (m_stack, .inl (cI, 48, .inl g_stack)), (m_mark, .inl (cI, 28000, .inl gm))]) [2, 0, 1] rfl) (hD.sub (ws' := [(mo, .inr (8, [.int z_fault, .int z_size, .ref m_row, .ref m_shelves, .ref m_many, .ref m_widths, .int (nI mL), .ref m_mark, .int z_shown, .ref m_shownMark, .int z_wasRun, .int wL, .int z_ended, .int (nI sp), .int z_hints, .int z_hasWidth, .int z_width, .int z_first, .int z_moved, .int z_deepest, .int xL, .int yL, .int (nI t_11), .ref m_stack, .ref m_places, .int (nI d), .ref m_kinds, .ref m_ats, .ref m_ends])), (m_stack, .inl (cI, 48, .inl g_stack)), (m_mark, .inl (cI, 28000, .inl gm))]) [2, 0, 1] rfl rfl) hS ⟨rfl, rfl, rfl, _, _, _, mL, t_11, _, rfl, (by omega)⟩
              · refine lv_aload_n hx hb d_Mo_lines_46 rfl (lv_at hl 0 rfl) ?_
                refine lv_aload_n hx hb d_Mo_lines_47 rfl (lv_at hl 0 rfl) ?_
                refine va_get (D := D) (ci := 8) (v := .ref m_stack) (C := R_Mo) (T := F_Mo) (N := 29) hx hb hts i_Mo hown hZ.1 hP 0 rfl rfl 23 (by decide) (hts _ fl_Mo_29) (fun _ h9 => h9) rfl d_Mo_lines_48 ?_
                refine lv_iload_n hx hb d_Mo_lines_51 rfl (lv_at hl 1 rfl) ?_
                refine va_iald hx hb hZ.1 hP 1 1 rfl rfl (vp_in_nI (by omega) (by omega)) d_Mo_lines_52 ?_
                refine lv_tv (y := g_stack i) (by rw [nI_clamp (by omega)]) ?_
                refine lv_aload_n hx hb d_Mo_lines_53 rfl (lv_at hl 0 rfl) ?_
                refine va_get (D := D) (ci := 8) (v := .ref m_stack) (C := R_Mo) (T := F_Mo) (N := 29) hx hb hts i_Mo hown hZ.1 hP 0 rfl rfl 23 (by decide) (hts _ fl_Mo_29) (fun _ h9 => h9) rfl d_Mo_lines_54 ?_
                refine lv_iload_n hx hb d_Mo_lines_57 rfl (lv_at hl 1 rfl) ?_
                refine lv_iconst (v := 1) hx hb d_Mo_lines_58 (by decide) ?_
                refine lv_iadd hx hb d_Mo_lines_59 ?_
                refine lv_tv (y := nI (i + 1)) (nI_add i 1) ?_
                refine va_iald hx hb hZ.1 hP 1 1 rfl rfl (vp_in_nI (by omega) (by omega)) d_Mo_lines_60 ?_
                refine lv_tv (y := g_stack (i + 1)) (by rw [nI_clamp (by omega)]) ?_
                have hC : Cut [(mo, .inr (8, [.int z_fault, .int z_size, .ref m_row, .ref m_shelves, .ref m_many, .ref m_widths, .int (nI mL), .ref m_mark, .int z_shown, .ref m_shownMark, .int z_wasRun, .int wL, .int z_ended, .int (nI sp), .int z_hints, .int z_hasWidth, .int z_width, .int z_first, .int z_moved, .int z_deepest, .int xL, .int yL, .int (nI t), .ref m_stack, .ref m_places, .int (nI d), .ref m_kinds, .ref m_ats, .ref m_ends])), (m_stack, .inl (cI, 48, .inl g_stack)), (m_mark, .inl (cI, 28000, .inl gm))] [(mo, .inr (8, [.int z_fault, .int z_size, .ref m_row, .ref m_shelves, .ref m_many, .ref m_widths, .int (nI mL), .ref m_mark, .int z_shown, .ref m_shownMark, .int z_wasRun, .int wL, .int z_ended, .int (nI sp), .int z_hints, .int z_hasWidth, .int z_width, .int z_first, .int z_moved, .int z_deepest, .int xL, .int yL, .int (nI t), .ref m_stack, .ref m_places, .int (nI d), .ref m_kinds, .ref m_ats, .ref m_ends])), (m_mark, .inl (cI, 28000, .inl gm))] [(m_stack, .inl (cI, 48, .inl g_stack))] [0, 2] [1] := ⟨rfl, rfl, rfl, rfl, by decide⟩
                refine goV0 (trV (As := [.int (g_stack i), .int (g_stack (i + 1))]) (rest := []) ⟨hx, hb, hml, hown, hts⟩ gd_good (c_Mo_line l D cB cI cJ mo m_row m_shelves m_many m_widths m_mark m_shownMark m_stack m_places m_kinds m_ats m_ends mL sp t d z_fault z_size z_shown z_wasRun wL z_ended z_hints z_hasWidth z_width z_first z_moved z_deepest xL yL gm (g_stack i) (g_stack (i + 1)) (by omega) ) cal_Mo_line ml_Mo_166 ⟨Nat.le_of_ble_eq_true rfl, Nat.le_of_ble_eq_true rfl⟩ hZ hP hD hC 0 (ci := 8) rfl rfl rfl rfl hl.1 rfl (Nat.le_of_ble_eq_true rfl) d_Mo_lines_61 ⟨Nat.le_of_ble_eq_true rfl, Nat.le_of_ble_eq_true rfl⟩) hZ hP hD hS hC (fun w1 H locs hq hP hD hS => ?_)
                obtain ⟨z_x_12, z_y_12, z_wrong_12, mk_12, g_mark_12, rfl, hv_12⟩ := hq
                have hP : va_P D classes [(m_stack, .inl (cI, 48, .inl g_stack)), (mo, .inr (8, [.int z_fault, .int z_size, .ref m_row, .ref m_shelves, .ref m_many, .ref m_widths, .int (nI mk_12), .ref m_mark, .int z_shown, .ref m_shownMark, .int z_wasRun, .int z_wrong_12, .int z_ended, .int (nI sp), .int z_hints, .int z_hasWidth, .int z_width, .int z_first, .int z_moved, .int z_deepest, .int z_x_12, .int z_y_12, .int (nI t), .ref m_stack, .ref m_places, .int (nI d), .ref m_kinds, .ref m_ats, .ref m_ends])), (m_mark, .inl (cI, 28000, .inl g_mark_12))] H := hP
                have hD : va_D A_ [(m_stack, .inl (cI, 48, .inl g_stack)), (mo, .inr (8, [.int z_fault, .int z_size, .ref m_row, .ref m_shelves, .ref m_many, .ref m_widths, .int (nI mk_12), .ref m_mark, .int z_shown, .ref m_shownMark, .int z_wasRun, .int z_wrong_12, .int z_ended, .int (nI sp), .int z_hints, .int z_hasWidth, .int z_width, .int z_first, .int z_moved, .int z_deepest, .int z_x_12, .int z_y_12, .int (nI t), .ref m_stack, .ref m_places, .int (nI d), .ref m_kinds, .ref m_ats, .ref m_ends])), (m_mark, .inl (cI, 28000, .inl g_mark_12))] := hD
                refine lv_iinc (v := nI (i + 2)) (lv' := [(1, .int (nI (i + 2))), (0, .ref mo)]) hx hb d_Mo_lines_64 hl (k := 1) rfl (nI_add i 2) (by decide) rfl (fun ls hl => ?_)
                refine lv_goto (tgt := 31) hx hb d_Mo_lines_67 (by decide) ?_
                exact ih_31  (i + 2) z_x_12 z_y_12 z_wrong_12 mk_12 g_mark_12 _ _ _ ⟨by omega, by omega, by omega⟩ (by omega) (hP.subm [1, 0, 2] rfl) (hD.sub [1, 0, 2] rfl rfl) hS (lv_sub hl [1, 0] rfl)
        exact lp_31 _ 0 z_x z_y z_wrong_9 mk g_mark _ _ _ ⟨by omega, by omega, by omega⟩ (Nat.lt_succ_self _) (hP.subm [2, 0, 1] rfl) (hD.sub [2, 0, 1] rfl rfl) hS (lv_sub hl [1, 0] rfl)
set_option maxHeartbeats 1000000 in
set_option maxRecDepth 100000 in
theorem c_Mo_turns (l : Launch) (D : va_G) (cB cI cJ : ClassId) (mo m_row m_shelves m_many m_widths m_mark m_shownMark m_stack m_places m_kinds m_ats m_ends : Nat) (mk sp t d : Nat) (z_fault z_size z_shown z_wasRun z_wrong z_ended z_hints z_hasWidth z_width z_first z_moved z_deepest z_x z_y : Int32) (g_stack g_mark : Nat → Int32) (c : Int32) (hiv : t ≤ 48 ∧ d ≤ 10 ∧ mk ≤ 4000 ∧ sp ≤ 20000) : Tr l D classes (TY cB cI cJ) gd_tbl nx_tbl y_Mo_turns b_Mo_turns 4 none ({ frames := 3, cells := 0, slots := 0, locals := 69 }) [.ref mo, .int c] [(mo, .inr (8, [.int z_fault, .int z_size, .ref m_row, .ref m_shelves, .ref m_many, .ref m_widths, .int (nI mk), .ref m_mark, .int z_shown, .ref m_shownMark, .int z_wasRun, .int z_wrong, .int z_ended, .int (nI sp), .int z_hints, .int z_hasWidth, .int z_width, .int z_first, .int z_moved, .int z_deepest, .int z_x, .int z_y, .int (nI t), .ref m_stack, .ref m_places, .int (nI d), .ref m_kinds, .ref m_ats, .ref m_ends])), (m_stack, .inl (cI, 48, .inl g_stack)), (m_mark, .inl (cI, 28000, .inl g_mark))] (pV0 (fun w => ∃ (z_x' : Int32) (z_y' : Int32) (z_wrong' : Int32) (mk' : Nat) (t' : Nat) (g_mark' : Nat → Int32), w = [(mo, .inr (8, [.int z_fault, .int z_size, .ref m_row, .ref m_shelves, .ref m_many, .ref m_widths, .int (nI mk'), .ref m_mark, .int z_shown, .ref m_shownMark, .int z_wasRun, .int z_wrong', .int z_ended, .int (nI sp), .int z_hints, .int z_hasWidth, .int z_width, .int z_first, .int z_moved, .int z_deepest, .int z_x', .int z_y', .int (nI t'), .ref m_stack, .ref m_places, .int (nI d), .ref m_kinds, .ref m_ats, .ref m_ends])), (m_stack, .inl (cI, 48, .inl g_stack)), (m_mark, .inl (cI, 28000, .inl g_mark'))] ∧ (t' ≤ 48 ∧ d ≤ 10 ∧ mk' ≤ 4000 ∧ sp ≤ 20000))) := by
  refine Tr.intro (by decide +kernel) nx_ok (Nat.le_of_ble_eq_true rfl) ?_
  intro p_ e_ s_ m_ args_ below_ meth_ c_ A_ ls hx hb hml hown hts hr hlk hnm hZ hP hD hS hl
  have hl : lv_has ls 4 [(0, .ref mo), (1, .int c)] := hl
  refine lv_aload_n hx hb d_Mo_turns_0 rfl (lv_at hl 0 rfl) ?_
  refine lv_aload_n hx hb d_Mo_turns_1 rfl (lv_at hl 0 rfl) ?_
  refine va_get (D := D) (ci := 8) (v := .int (nI t)) (C := R_Mo) (T := F_Mo) (N := 29) hx hb hts i_Mo hown hZ.1 hP 0 rfl rfl 22 (by decide) (hts _ fl_Mo_82) (fun _ h9 => h9) rfl d_Mo_turns_2 ?_
  refine lv_iconst (v := 1) hx hb d_Mo_turns_5 (by decide) ?_
  refine lv_icmp_lt (tgt := 13) hx hb d_Mo_turns_6 (by decide) (fun c_6 => ?_) (fun c_6 => ?_)
  · have n_6 : (t) < (1) := (nI_ltI (a := t) (b := 1) (by omega) (by omega)).mp c_6
    refine lv_iconst (v := 0) hx hb d_Mo_turns_13 (by decide) ?_
    have hC : Cut [(mo, .inr (8, [.int z_fault, .int z_size, .ref m_row, .ref m_shelves, .ref m_many, .ref m_widths, .int (nI mk), .ref m_mark, .int z_shown, .ref m_shownMark, .int z_wasRun, .int z_wrong, .int z_ended, .int (nI sp), .int z_hints, .int z_hasWidth, .int z_width, .int z_first, .int z_moved, .int z_deepest, .int z_x, .int z_y, .int (nI t), .ref m_stack, .ref m_places, .int (nI d), .ref m_kinds, .ref m_ats, .ref m_ends])), (m_stack, .inl (cI, 48, .inl g_stack)), (m_mark, .inl (cI, 28000, .inl g_mark))] [(mo, .inr (8, [.int z_fault, .int z_size, .ref m_row, .ref m_shelves, .ref m_many, .ref m_widths, .int (nI mk), .ref m_mark, .int z_shown, .ref m_shownMark, .int z_wasRun, .int z_wrong, .int z_ended, .int (nI sp), .int z_hints, .int z_hasWidth, .int z_width, .int z_first, .int z_moved, .int z_deepest, .int z_x, .int z_y, .int (nI t), .ref m_stack, .ref m_places, .int (nI d), .ref m_kinds, .ref m_ats, .ref m_ends]))] [(m_stack, .inl (cI, 48, .inl g_stack)), (m_mark, .inl (cI, 28000, .inl g_mark))] [0] [1, 2] := ⟨rfl, rfl, rfl, rfl, by decide⟩
    refine goI0 (trV (As := [.int 0]) (rest := []) ⟨hx, hb, hml, hown, hts⟩ gd_good (c_Mo_may l D cB cI cJ mo m_row m_shelves m_many m_widths m_mark m_shownMark m_stack m_places m_kinds m_ats m_ends mk sp t d z_fault z_size z_shown z_wasRun z_wrong z_ended z_hints z_hasWidth z_width z_first z_moved z_deepest z_x z_y 0 (by omega) ) cal_Mo_may ml_Mo_162 ⟨Nat.le_of_ble_eq_true rfl, Nat.le_of_ble_eq_true rfl⟩ hZ hP hD hC 0 (ci := 8) rfl rfl rfl rfl hl.1 rfl (Nat.le_of_ble_eq_true rfl) d_Mo_turns_14 ⟨Nat.le_of_ble_eq_true rfl, Nat.le_of_ble_eq_true rfl⟩) hZ hP hD hS hC (fun r_14 w1 H locs hq hP hD hS => ?_)
    obtain ⟨z_wrong_1, rfl, hv_1, hx_1, hz_1⟩ := hq
    have hP : va_P D classes [(m_stack, .inl (cI, 48, .inl g_stack)), (m_mark, .inl (cI, 28000, .inl g_mark)), (mo, .inr (8, [.int z_fault, .int z_size, .ref m_row, .ref m_shelves, .ref m_many, .ref m_widths, .int (nI mk), .ref m_mark, .int z_shown, .ref m_shownMark, .int z_wasRun, .int z_wrong_1, .int z_ended, .int (nI sp), .int z_hints, .int z_hasWidth, .int z_width, .int z_first, .int z_moved, .int z_deepest, .int z_x, .int z_y, .int (nI t), .ref m_stack, .ref m_places, .int (nI d), .ref m_kinds, .ref m_ats, .ref m_ends]))] H := hP
    have hD : va_D A_ [(m_stack, .inl (cI, 48, .inl g_stack)), (m_mark, .inl (cI, 28000, .inl g_mark)), (mo, .inr (8, [.int z_fault, .int z_size, .ref m_row, .ref m_shelves, .ref m_many, .ref m_widths, .int (nI mk), .ref m_mark, .int z_shown, .ref m_shownMark, .int z_wasRun, .int z_wrong_1, .int z_ended, .int (nI sp), .int z_hints, .int z_hasWidth, .int z_width, .int z_first, .int z_moved, .int z_deepest, .int z_x, .int z_y, .int (nI t), .ref m_stack, .ref m_places, .int (nI d), .ref m_kinds, .ref m_ats, .ref m_ends]))] := hD
    refine lv_if_eq (tgt := 100) hx hb d_Mo_turns_17 (by decide) (fun c_17 => ?_) (fun c_17 => ?_)
    · exact t_vret hx hb hr hlk d_Mo_turns_100 (hP.subm (ws' := [(mo, .inr (8, [.int z_fault, .int z_size, .ref m_row, .ref m_shelves, .ref m_many, .ref m_widths, .int (nI mk), .ref m_mark, .int z_shown, .ref m_shownMark, .int z_wasRun, .int z_wrong_1, .int z_ended, .int (nI sp), .int z_hints, .int z_hasWidth, .int z_width, .int z_first, .int z_moved, .int z_deepest, .int z_x, .int z_y, .int (nI t), .ref m_stack, .ref m_places, .int (nI d), .ref m_kinds, .ref m_ats, .ref m_ends])), (m_stack, .inl (cI, 48, .inl g_stack)), (m_mark, .inl (cI, 28000, .inl g_mark))]) [2, 0, 1] rfl) (hD.sub (ws' := [(mo, .inr (8, [.int z_fault, .int z_size, .ref m_row, .ref m_shelves, .ref m_many, .ref m_widths, .int (nI mk), .ref m_mark, .int z_shown, .ref m_shownMark, .int z_wasRun, .int z_wrong_1, .int z_ended, .int (nI sp), .int z_hints, .int z_hasWidth, .int z_width, .int z_first, .int z_moved, .int z_deepest, .int z_x, .int z_y, .int (nI t), .ref m_stack, .ref m_places, .int (nI d), .ref m_kinds, .ref m_ats, .ref m_ends])), (m_stack, .inl (cI, 48, .inl g_stack)), (m_mark, .inl (cI, 28000, .inl g_mark))]) [2, 0, 1] rfl rfl) hS ⟨rfl, rfl, rfl, _, _, _, mk, t, _, rfl, (by omega)⟩
    · refine lv_iconst (v := 0) hx hb d_Mo_turns_20 (by decide) ?_
      refine lv_istore_n (lv' := [(2, .int 0), (0, .ref mo), (1, .int c)]) hx hb d_Mo_turns_21 rfl hl (by decide) rfl (fun ls hl => ?_)
      have lp_22 : ∀ (fu : Nat) (i : Nat) (xL : Int32) (yL : Int32) (wL : Int32) (mL : Nat) (gm : Nat → Int32) (H : Heap) (locs : List Loc) (ls : Array Slot), (mL ≤ 4000 ∧ i ≤ 60) → (70 - i) < fu → va_P D classes [(mo, .inr (8, [.int z_fault, .int z_size, .ref m_row, .ref m_shelves, .ref m_many, .ref m_widths, .int (nI mL), .ref m_mark, .int z_shown, .ref m_shownMark, .int z_wasRun, .int wL, .int z_ended, .int (nI sp), .int z_hints, .int z_hasWidth, .int z_width, .int z_first, .int z_moved, .int z_deepest, .int xL, .int yL, .int (nI t), .ref m_stack, .ref m_places, .int (nI d), .ref m_kinds, .ref m_ats, .ref m_ends])), (m_stack, .inl (cI, 48, .inl g_stack)), (m_mark, .inl (cI, 28000, .inl gm))] H → va_D A_ [(mo, .inr (8, [.int z_fault, .int z_size, .ref m_row, .ref m_shelves, .ref m_many, .ref m_widths, .int (nI mL), .ref m_mark, .int z_shown, .ref m_shownMark, .int z_wasRun, .int wL, .int z_ended, .int (nI sp), .int z_hints, .int z_hasWidth, .int z_width, .int z_first, .int z_moved, .int z_deepest, .int xL, .int yL, .int (nI t), .ref m_stack, .ref m_places, .int (nI d), .ref m_kinds, .ref m_ats, .ref m_ends])), (m_stack, .inl (cI, 48, .inl g_stack)), (m_mark, .inl (cI, 28000, .inl gm))] → va_S A_ s_.heap H locs → lv_has ls 4 [(0, .ref mo), (1, .int c), (2, .int (nI i))] → W p_ l e_ ({ frames := 3, cells := 0, slots := 0, locals := 69 }) s_ m_ args_ below_ meth_ c_ H locs (0) (0) (MQT below_ D classes A_ (pV0 (fun w => ∃ (z_x' : Int32) (z_y' : Int32) (z_wrong' : Int32) (mk' : Nat) (t' : Nat) (g_mark' : Nat → Int32), w = [(mo, .inr (8, [.int z_fault, .int z_size, .ref m_row, .ref m_shelves, .ref m_many, .ref m_widths, .int (nI mk'), .ref m_mark, .int z_shown, .ref m_shownMark, .int z_wasRun, .int z_wrong', .int z_ended, .int (nI sp), .int z_hints, .int z_hasWidth, .int z_width, .int z_first, .int z_moved, .int z_deepest, .int z_x', .int z_y', .int (nI t'), .ref m_stack, .ref m_places, .int (nI d), .ref m_kinds, .ref m_ats, .ref m_ends])), (m_stack, .inl (cI, 48, .inl g_stack)), (m_mark, .inl (cI, 28000, .inl g_mark'))] ∧ (t' ≤ 48 ∧ d ≤ 10 ∧ mk' ≤ 4000 ∧ sp ≤ 20000))) s_) (F0 m_ 22 ls []) := by
        intro fu
        induction fu with
        | zero => intro i xL yL wL mL gm H locs ls hinv hfu; exact absurd hfu (Nat.not_lt_zero _)
        | succ fu ih_22 =>
          intro i xL yL wL mL gm H locs ls hinv hfu hP hD hS hl
          obtain ⟨hmL, hi1⟩ := hinv
          refine lv_iload_n hx hb d_Mo_turns_22 rfl (lv_at hl 2 rfl) ?_
          refine lv_aload_n hx hb d_Mo_turns_23 rfl (lv_at hl 0 rfl) ?_
          refine va_get (D := D) (ci := 8) (v := .int (nI t)) (C := R_Mo) (T := F_Mo) (N := 29) hx hb hts i_Mo hown hZ.1 hP 0 rfl rfl 22 (by decide) (hts _ fl_Mo_82) (fun _ h9 => h9) rfl d_Mo_turns_24 ?_
          refine lv_icmp_ge (tgt := 96) hx hb d_Mo_turns_27 (by decide) (fun c_27 => ?_) (fun c_27 => ?_)
          · have n_27 : (t) ≤ (i) := (nI_leI (a := t) (b := i) (by omega) (by omega)).mp c_27
            refine lv_aload_n hx hb d_Mo_turns_96 rfl (lv_at hl 0 rfl) ?_
            have hC : Cut [(mo, .inr (8, [.int z_fault, .int z_size, .ref m_row, .ref m_shelves, .ref m_many, .ref m_widths, .int (nI mL), .ref m_mark, .int z_shown, .ref m_shownMark, .int z_wasRun, .int wL, .int z_ended, .int (nI sp), .int z_hints, .int z_hasWidth, .int z_width, .int z_first, .int z_moved, .int z_deepest, .int xL, .int yL, .int (nI t), .ref m_stack, .ref m_places, .int (nI d), .ref m_kinds, .ref m_ats, .ref m_ends])), (m_stack, .inl (cI, 48, .inl g_stack)), (m_mark, .inl (cI, 28000, .inl gm))] [(mo, .inr (8, [.int z_fault, .int z_size, .ref m_row, .ref m_shelves, .ref m_many, .ref m_widths, .int (nI mL), .ref m_mark, .int z_shown, .ref m_shownMark, .int z_wasRun, .int wL, .int z_ended, .int (nI sp), .int z_hints, .int z_hasWidth, .int z_width, .int z_first, .int z_moved, .int z_deepest, .int xL, .int yL, .int (nI t), .ref m_stack, .ref m_places, .int (nI d), .ref m_kinds, .ref m_ats, .ref m_ends]))] [(m_stack, .inl (cI, 48, .inl g_stack)), (m_mark, .inl (cI, 28000, .inl gm))] [0] [1, 2] := ⟨rfl, rfl, rfl, rfl, by decide⟩
            refine goV0 (trV (As := []) (rest := []) ⟨hx, hb, hml, hown, hts⟩ gd_good (c_Mo_take_V l D cB cI cJ mo m_row m_shelves m_many m_widths m_mark m_shownMark m_stack m_places m_kinds m_ats m_ends mL sp t d z_fault z_size z_shown z_wasRun wL z_ended z_hints z_hasWidth z_width z_first z_moved z_deepest xL yL (by omega) ) cal_Mo_take_V ml_Mo_155 ⟨Nat.le_of_ble_eq_true rfl, Nat.le_of_ble_eq_true rfl⟩ hZ hP hD hC 0 (ci := 8) rfl rfl rfl rfl hl.1 rfl (Nat.le_of_ble_eq_true rfl) d_Mo_turns_97 ⟨Nat.le_of_ble_eq_true rfl, Nat.le_of_ble_eq_true rfl⟩) hZ hP hD hS hC (fun w1 H locs hq hP hD hS => ?_)
            obtain ⟨t_2, rfl, hv_2⟩ := hq
            have hP : va_P D classes [(m_stack, .inl (cI, 48, .inl g_stack)), (m_mark, .inl (cI, 28000, .inl gm)), (mo, .inr (8, [.int z_fault, .int z_size, .ref m_row, .ref m_shelves, .ref m_many, .ref m_widths, .int (nI mL), .ref m_mark, .int z_shown, .ref m_shownMark, .int z_wasRun, .int wL, .int z_ended, .int (nI sp), .int z_hints, .int z_hasWidth, .int z_width, .int z_first, .int z_moved, .int z_deepest, .int xL, .int yL, .int (nI t_2), .ref m_stack, .ref m_places, .int (nI d), .ref m_kinds, .ref m_ats, .ref m_ends]))] H := hP
            have hD : va_D A_ [(m_stack, .inl (cI, 48, .inl g_stack)), (m_mark, .inl (cI, 28000, .inl gm)), (mo, .inr (8, [.int z_fault, .int z_size, .ref m_row, .ref m_shelves, .ref m_many, .ref m_widths, .int (nI mL), .ref m_mark, .int z_shown, .ref m_shownMark, .int z_wasRun, .int wL, .int z_ended, .int (nI sp), .int z_hints, .int z_hasWidth, .int z_width, .int z_first, .int z_moved, .int z_deepest, .int xL, .int yL, .int (nI t_2), .ref m_stack, .ref m_places, .int (nI d), .ref m_kinds, .ref m_ats, .ref m_ends]))] := hD
            exact t_vret hx hb hr hlk d_Mo_turns_100 (hP.subm (ws' := [(mo, .inr (8, [.int z_fault, .int z_size, .ref m_row, .ref m_shelves, .ref m_many, .ref m_widths, .int (nI mL), .ref m_mark, .int z_shown, .ref m_shownMark, .int z_wasRun, .int wL, .int z_ended, .int (nI sp), .int z_hints, .int z_hasWidth, .int z_width, .int z_first, .int z_moved, .int z_deepest, .int xL, .int yL, .int (nI t_2), .ref m_stack, .ref m_places, .int (nI d), .ref m_kinds, .ref m_ats, .ref m_ends])), (m_stack, .inl (cI, 48, .inl g_stack)), (m_mark, .inl (cI, 28000, .inl gm))]) [2, 0, 1] rfl) (hD.sub (ws' := [(mo, .inr (8, [.int z_fault, .int z_size, .ref m_row, .ref m_shelves, .ref m_many, .ref m_widths, .int (nI mL), .ref m_mark, .int z_shown, .ref m_shownMark, .int z_wasRun, .int wL, .int z_ended, .int (nI sp), .int z_hints, .int z_hasWidth, .int z_width, .int z_first, .int z_moved, .int z_deepest, .int xL, .int yL, .int (nI t_2), .ref m_stack, .ref m_places, .int (nI d), .ref m_kinds, .ref m_ats, .ref m_ends])), (m_stack, .inl (cI, 48, .inl g_stack)), (m_mark, .inl (cI, 28000, .inl gm))]) [2, 0, 1] rfl rfl) hS ⟨rfl, rfl, rfl, _, _, _, mL, t_2, _, rfl, (by omega)⟩
          · have n_27 : ¬ (t) ≤ (i) := fun z => c_27 ((nI_leI (a := t) (b := i) (by omega) (by omega)).mpr z)
            refine lv_aload_n hx hb d_Mo_turns_30 rfl (lv_at hl 0 rfl) ?_
            refine va_get (D := D) (ci := 8) (v := .int wL) (C := R_Mo) (T := F_Mo) (N := 29) hx hb hts i_Mo hown hZ.1 hP 0 rfl rfl 11 (by decide) (hts _ fl_Mo_75) (fun _ h9 => h9) rfl d_Mo_turns_31 ?_
            refine lv_if_ne (tgt := 96) hx hb d_Mo_turns_34 (by decide) (fun c_34 => ?_) (fun c_34 => ?_)
            · refine lv_aload_n hx hb d_Mo_turns_96 rfl (lv_at hl 0 rfl) ?_
              have hC : Cut [(mo, .inr (8, [.int z_fault, .int z_size, .ref m_row, .ref m_shelves, .ref m_many, .ref m_widths, .int (nI mL), .ref m_mark, .int z_shown, .ref m_shownMark, .int z_wasRun, .int wL, .int z_ended, .int (nI sp), .int z_hints, .int z_hasWidth, .int z_width, .int z_first, .int z_moved, .int z_deepest, .int xL, .int yL, .int (nI t), .ref m_stack, .ref m_places, .int (nI d), .ref m_kinds, .ref m_ats, .ref m_ends])), (m_stack, .inl (cI, 48, .inl g_stack)), (m_mark, .inl (cI, 28000, .inl gm))] [(mo, .inr (8, [.int z_fault, .int z_size, .ref m_row, .ref m_shelves, .ref m_many, .ref m_widths, .int (nI mL), .ref m_mark, .int z_shown, .ref m_shownMark, .int z_wasRun, .int wL, .int z_ended, .int (nI sp), .int z_hints, .int z_hasWidth, .int z_width, .int z_first, .int z_moved, .int z_deepest, .int xL, .int yL, .int (nI t), .ref m_stack, .ref m_places, .int (nI d), .ref m_kinds, .ref m_ats, .ref m_ends]))] [(m_stack, .inl (cI, 48, .inl g_stack)), (m_mark, .inl (cI, 28000, .inl gm))] [0] [1, 2] := ⟨rfl, rfl, rfl, rfl, by decide⟩
              refine goV0 (trV (As := []) (rest := []) ⟨hx, hb, hml, hown, hts⟩ gd_good (c_Mo_take_V l D cB cI cJ mo m_row m_shelves m_many m_widths m_mark m_shownMark m_stack m_places m_kinds m_ats m_ends mL sp t d z_fault z_size z_shown z_wasRun wL z_ended z_hints z_hasWidth z_width z_first z_moved z_deepest xL yL (by omega) ) cal_Mo_take_V ml_Mo_155 ⟨Nat.le_of_ble_eq_true rfl, Nat.le_of_ble_eq_true rfl⟩ hZ hP hD hC 0 (ci := 8) rfl rfl rfl rfl hl.1 rfl (Nat.le_of_ble_eq_true rfl) d_Mo_turns_97 ⟨Nat.le_of_ble_eq_true rfl, Nat.le_of_ble_eq_true rfl⟩) hZ hP hD hS hC (fun w1 H locs hq hP hD hS => ?_)
              obtain ⟨t_3, rfl, hv_3⟩ := hq
              have hP : va_P D classes [(m_stack, .inl (cI, 48, .inl g_stack)), (m_mark, .inl (cI, 28000, .inl gm)), (mo, .inr (8, [.int z_fault, .int z_size, .ref m_row, .ref m_shelves, .ref m_many, .ref m_widths, .int (nI mL), .ref m_mark, .int z_shown, .ref m_shownMark, .int z_wasRun, .int wL, .int z_ended, .int (nI sp), .int z_hints, .int z_hasWidth, .int z_width, .int z_first, .int z_moved, .int z_deepest, .int xL, .int yL, .int (nI t_3), .ref m_stack, .ref m_places, .int (nI d), .ref m_kinds, .ref m_ats, .ref m_ends]))] H := hP
              have hD : va_D A_ [(m_stack, .inl (cI, 48, .inl g_stack)), (m_mark, .inl (cI, 28000, .inl gm)), (mo, .inr (8, [.int z_fault, .int z_size, .ref m_row, .ref m_shelves, .ref m_many, .ref m_widths, .int (nI mL), .ref m_mark, .int z_shown, .ref m_shownMark, .int z_wasRun, .int wL, .int z_ended, .int (nI sp), .int z_hints, .int z_hasWidth, .int z_width, .int z_first, .int z_moved, .int z_deepest, .int xL, .int yL, .int (nI t_3), .ref m_stack, .ref m_places, .int (nI d), .ref m_kinds, .ref m_ats, .ref m_ends]))] := hD
              exact t_vret hx hb hr hlk d_Mo_turns_100 (hP.subm (ws' := [(mo, .inr (8, [.int z_fault, .int z_size, .ref m_row, .ref m_shelves, .ref m_many, .ref m_widths, .int (nI mL), .ref m_mark, .int z_shown, .ref m_shownMark, .int z_wasRun, .int wL, .int z_ended, .int (nI sp), .int z_hints, .int z_hasWidth, .int z_width, .int z_first, .int z_moved, .int z_deepest, .int xL, .int yL, .int (nI t_3), .ref m_stack, .ref m_places, .int (nI d), .ref m_kinds, .ref m_ats, .ref m_ends])), (m_stack, .inl (cI, 48, .inl g_stack)), (m_mark, .inl (cI, 28000, .inl gm))]) [2, 0, 1] rfl) (hD.sub (ws' := [(mo, .inr (8, [.int z_fault, .int z_size, .ref m_row, .ref m_shelves, .ref m_many, .ref m_widths, .int (nI mL), .ref m_mark, .int z_shown, .ref m_shownMark, .int z_wasRun, .int wL, .int z_ended, .int (nI sp), .int z_hints, .int z_hasWidth, .int z_width, .int z_first, .int z_moved, .int z_deepest, .int xL, .int yL, .int (nI t_3), .ref m_stack, .ref m_places, .int (nI d), .ref m_kinds, .ref m_ats, .ref m_ends])), (m_stack, .inl (cI, 48, .inl g_stack)), (m_mark, .inl (cI, 28000, .inl gm))]) [2, 0, 1] rfl rfl) hS ⟨rfl, rfl, rfl, _, _, _, mL, t_3, _, rfl, (by omega)⟩
            · refine lv_iload_n hx hb d_Mo_turns_37 rfl (lv_at hl 2 rfl) ?_
              refine lv_iconst (v := 2) hx hb d_Mo_turns_38 (by decide) ?_
              refine lv_irem hx hb d_Mo_turns_39 (by decide) ?_
              refine lv_tv (y := nI (i % 2)) (pk_rem (a := i) (d := 2) (by omega) (by omega) (by omega)) ?_
              refine lv_if_ne (tgt := 47) hx hb d_Mo_turns_40 (by decide) (fun c_40 => ?_) (fun c_40 => ?_)
              · have n_40 : ¬ (i % 2) = (0) := fun z => c_40 ((nI_eq (a := i % 2) (b := 0) (by omega) (by omega)).mpr z)
                refine lv_iconst (v := 0) hx hb d_Mo_turns_47 (by decide) ?_
                refine lv_iload_n hx hb d_Mo_turns_48 rfl (lv_at hl 1 rfl) ?_
                refine lv_icmp_ne (tgt := 56) hx hb d_Mo_turns_49 (by decide) (fun c_49 => ?_) (fun c_49 => ?_)
                · refine lv_iconst (v := 0) hx hb d_Mo_turns_56 (by decide) ?_
                  refine lv_istore_n (lv' := [(3, .int 0), (0, .ref mo), (1, .int c), (2, .int (nI i))]) hx hb d_Mo_turns_57 rfl hl (by decide) rfl (fun ls hl => ?_)
                  refine lv_aload_n hx hb d_Mo_turns_58 rfl (lv_at hl 1 rfl) ?_
                  refine lv_iload_n hx hb d_Mo_turns_59 rfl (lv_at hl 0 rfl) ?_
                  refine lv_if_eq (tgt := 72) hx hb d_Mo_turns_60 (by decide) (fun c_60 => ?_) (fun c_60 => absurd (by decide) c_60)
                  clear c_60
                  refine lv_iconst (v := 0) hx hb d_Mo_turns_72 (by decide) ?_
                  refine lv_iload_n hx hb d_Mo_turns_73 rfl (lv_at hl 0 rfl) ?_
                  refine lv_if_eq (tgt := 81) hx hb d_Mo_turns_74 (by decide) (fun c_74 => ?_) (fun c_74 => absurd (by decide) c_74)
                  clear c_74
                  refine lv_aload_n hx hb d_Mo_turns_81 rfl (lv_at hl 1 rfl) ?_
                  refine va_get (D := D) (ci := 8) (v := .ref m_stack) (C := R_Mo) (T := F_Mo) (N := 29) hx hb hts i_Mo hown hZ.1 hP 0 rfl rfl 23 (by decide) (hts _ fl_Mo_29) (fun _ h9 => h9) rfl d_Mo_turns_82 ?_
                  refine lv_iload_n hx hb d_Mo_turns_85 rfl (lv_at hl 3 rfl) ?_
                  refine va_iald hx hb hZ.1 hP 1 1 rfl rfl (vp_in_nI (by omega) (by omega)) d_Mo_turns_86 ?_
                  refine lv_tv (y := g_stack i) (by rw [nI_clamp (by omega)]) ?_
                  have hC : Cut [(mo, .inr (8, [.int z_fault, .int z_size, .ref m_row, .ref m_shelves, .ref m_many, .ref m_widths, .int (nI mL), .ref m_mark, .int z_shown, .ref m_shownMark, .int z_wasRun, .int wL, .int z_ended, .int (nI sp), .int z_hints, .int z_hasWidth, .int z_width, .int z_first, .int z_moved, .int z_deepest, .int xL, .int yL, .int (nI t), .ref m_stack, .ref m_places, .int (nI d), .ref m_kinds, .ref m_ats, .ref m_ends])), (m_stack, .inl (cI, 48, .inl g_stack)), (m_mark, .inl (cI, 28000, .inl gm))] [(mo, .inr (8, [.int z_fault, .int z_size, .ref m_row, .ref m_shelves, .ref m_many, .ref m_widths, .int (nI mL), .ref m_mark, .int z_shown, .ref m_shownMark, .int z_wasRun, .int wL, .int z_ended, .int (nI sp), .int z_hints, .int z_hasWidth, .int z_width, .int z_first, .int z_moved, .int z_deepest, .int xL, .int yL, .int (nI t), .ref m_stack, .ref m_places, .int (nI d), .ref m_kinds, .ref m_ats, .ref m_ends])), (m_mark, .inl (cI, 28000, .inl gm))] [(m_stack, .inl (cI, 48, .inl g_stack))] [0, 2] [1] := ⟨rfl, rfl, rfl, rfl, by decide⟩
                  refine goV0 (trV (As := [.int 0, .int (g_stack i)]) (rest := []) ⟨hx, hb, hml, hown, hts⟩ gd_good (c_Mo_line l D cB cI cJ mo m_row m_shelves m_many m_widths m_mark m_shownMark m_stack m_places m_kinds m_ats m_ends mL sp t d z_fault z_size z_shown z_wasRun wL z_ended z_hints z_hasWidth z_width z_first z_moved z_deepest xL yL gm 0 (g_stack i) (by omega) ) cal_Mo_line ml_Mo_166 ⟨Nat.le_of_ble_eq_true rfl, Nat.le_of_ble_eq_true rfl⟩ hZ hP hD hC 0 (ci := 8) rfl rfl rfl rfl hl.1 rfl (Nat.le_of_ble_eq_true rfl) d_Mo_turns_87 ⟨Nat.le_of_ble_eq_true rfl, Nat.le_of_ble_eq_true rfl⟩) hZ hP hD hS hC (fun w1 H locs hq hP hD hS => ?_)
                  obtain ⟨z_x_4, z_y_4, z_wrong_4, mk_4, g_mark_4, rfl, hv_4⟩ := hq
                  have hP : va_P D classes [(m_stack, .inl (cI, 48, .inl g_stack)), (mo, .inr (8, [.int z_fault, .int z_size, .ref m_row, .ref m_shelves, .ref m_many, .ref m_widths, .int (nI mk_4), .ref m_mark, .int z_shown, .ref m_shownMark, .int z_wasRun, .int z_wrong_4, .int z_ended, .int (nI sp), .int z_hints, .int z_hasWidth, .int z_width, .int z_first, .int z_moved, .int z_deepest, .int z_x_4, .int z_y_4, .int (nI t), .ref m_stack, .ref m_places, .int (nI d), .ref m_kinds, .ref m_ats, .ref m_ends])), (m_mark, .inl (cI, 28000, .inl g_mark_4))] H := hP
                  have hD : va_D A_ [(m_stack, .inl (cI, 48, .inl g_stack)), (mo, .inr (8, [.int z_fault, .int z_size, .ref m_row, .ref m_shelves, .ref m_many, .ref m_widths, .int (nI mk_4), .ref m_mark, .int z_shown, .ref m_shownMark, .int z_wasRun, .int z_wrong_4, .int z_ended, .int (nI sp), .int z_hints, .int z_hasWidth, .int z_width, .int z_first, .int z_moved, .int z_deepest, .int z_x_4, .int z_y_4, .int (nI t), .ref m_stack, .ref m_places, .int (nI d), .ref m_kinds, .ref m_ats, .ref m_ends])), (m_mark, .inl (cI, 28000, .inl g_mark_4))] := hD
                  refine lv_iinc (v := nI (i + 1)) (lv' := [(2, .int (nI (i + 1))), (3, .int 0), (0, .ref mo), (1, .int c)]) hx hb d_Mo_turns_90 hl (k := 3) rfl (nI_add i 1) (by decide) rfl (fun ls hl => ?_)
                  refine lv_goto (tgt := 22) hx hb d_Mo_turns_93 (by decide) ?_
                  exact ih_22  (i + 1) z_x_4 z_y_4 z_wrong_4 mk_4 g_mark_4 _ _ _ ⟨by omega, by omega⟩ (by omega) (hP.subm [1, 0, 2] rfl) (hD.sub [1, 0, 2] rfl rfl) hS (lv_sub hl [2, 3, 0] rfl)
                · refine lv_iconst (v := 1) hx hb d_Mo_turns_52 (by decide) ?_
                  refine lv_goto (tgt := 57) hx hb d_Mo_turns_53 (by decide) ?_
                  refine lv_istore_n (lv' := [(3, .int 1), (0, .ref mo), (1, .int c), (2, .int (nI i))]) hx hb d_Mo_turns_57 rfl hl (by decide) rfl (fun ls hl => ?_)
                  refine lv_aload_n hx hb d_Mo_turns_58 rfl (lv_at hl 1 rfl) ?_
                  refine lv_iload_n hx hb d_Mo_turns_59 rfl (lv_at hl 0 rfl) ?_
                  refine lv_if_eq (tgt := 72) hx hb d_Mo_turns_60 (by decide) (fun c_60 => absurd c_60 (by decide)) (fun c_60 => ?_)
                  clear c_60
                  refine lv_aload_n hx hb d_Mo_turns_63 rfl (lv_at hl 1 rfl) ?_
                  refine va_get (D := D) (ci := 8) (v := .ref m_stack) (C := R_Mo) (T := F_Mo) (N := 29) hx hb hts i_Mo hown hZ.1 hP 0 rfl rfl 23 (by decide) (hts _ fl_Mo_29) (fun _ h9 => h9) rfl d_Mo_turns_64 ?_
                  refine lv_iload_n hx hb d_Mo_turns_67 rfl (lv_at hl 3 rfl) ?_
                  refine va_iald hx hb hZ.1 hP 1 1 rfl rfl (vp_in_nI (by omega) (by omega)) d_Mo_turns_68 ?_
                  refine lv_tv (y := g_stack i) (by rw [nI_clamp (by omega)]) ?_
                  refine lv_goto (tgt := 73) hx hb d_Mo_turns_69 (by decide) ?_
                  refine lv_iload_n hx hb d_Mo_turns_73 rfl (lv_at hl 0 rfl) ?_
                  refine lv_if_eq (tgt := 81) hx hb d_Mo_turns_74 (by decide) (fun c_74 => absurd c_74 (by decide)) (fun c_74 => ?_)
                  clear c_74
                  refine lv_iconst (v := 0) hx hb d_Mo_turns_77 (by decide) ?_
                  refine lv_goto (tgt := 87) hx hb d_Mo_turns_78 (by decide) ?_
                  have hC : Cut [(mo, .inr (8, [.int z_fault, .int z_size, .ref m_row, .ref m_shelves, .ref m_many, .ref m_widths, .int (nI mL), .ref m_mark, .int z_shown, .ref m_shownMark, .int z_wasRun, .int wL, .int z_ended, .int (nI sp), .int z_hints, .int z_hasWidth, .int z_width, .int z_first, .int z_moved, .int z_deepest, .int xL, .int yL, .int (nI t), .ref m_stack, .ref m_places, .int (nI d), .ref m_kinds, .ref m_ats, .ref m_ends])), (m_stack, .inl (cI, 48, .inl g_stack)), (m_mark, .inl (cI, 28000, .inl gm))] [(mo, .inr (8, [.int z_fault, .int z_size, .ref m_row, .ref m_shelves, .ref m_many, .ref m_widths, .int (nI mL), .ref m_mark, .int z_shown, .ref m_shownMark, .int z_wasRun, .int wL, .int z_ended, .int (nI sp), .int z_hints, .int z_hasWidth, .int z_width, .int z_first, .int z_moved, .int z_deepest, .int xL, .int yL, .int (nI t), .ref m_stack, .ref m_places, .int (nI d), .ref m_kinds, .ref m_ats, .ref m_ends])), (m_mark, .inl (cI, 28000, .inl gm))] [(m_stack, .inl (cI, 48, .inl g_stack))] [0, 2] [1] := ⟨rfl, rfl, rfl, rfl, by decide⟩
                  refine goV0 (trV (As := [.int (g_stack i), .int 0]) (rest := []) ⟨hx, hb, hml, hown, hts⟩ gd_good (c_Mo_line l D cB cI cJ mo m_row m_shelves m_many m_widths m_mark m_shownMark m_stack m_places m_kinds m_ats m_ends mL sp t d z_fault z_size z_shown z_wasRun wL z_ended z_hints z_hasWidth z_width z_first z_moved z_deepest xL yL gm (g_stack i) 0 (by omega) ) cal_Mo_line ml_Mo_166 ⟨Nat.le_of_ble_eq_true rfl, Nat.le_of_ble_eq_true rfl⟩ hZ hP hD hC 0 (ci := 8) rfl rfl rfl rfl hl.1 rfl (Nat.le_of_ble_eq_true rfl) d_Mo_turns_87 ⟨Nat.le_of_ble_eq_true rfl, Nat.le_of_ble_eq_true rfl⟩) hZ hP hD hS hC (fun w1 H locs hq hP hD hS => ?_)
                  obtain ⟨z_x_5, z_y_5, z_wrong_5, mk_5, g_mark_5, rfl, hv_5⟩ := hq
                  have hP : va_P D classes [(m_stack, .inl (cI, 48, .inl g_stack)), (mo, .inr (8, [.int z_fault, .int z_size, .ref m_row, .ref m_shelves, .ref m_many, .ref m_widths, .int (nI mk_5), .ref m_mark, .int z_shown, .ref m_shownMark, .int z_wasRun, .int z_wrong_5, .int z_ended, .int (nI sp), .int z_hints, .int z_hasWidth, .int z_width, .int z_first, .int z_moved, .int z_deepest, .int z_x_5, .int z_y_5, .int (nI t), .ref m_stack, .ref m_places, .int (nI d), .ref m_kinds, .ref m_ats, .ref m_ends])), (m_mark, .inl (cI, 28000, .inl g_mark_5))] H := hP
                  have hD : va_D A_ [(m_stack, .inl (cI, 48, .inl g_stack)), (mo, .inr (8, [.int z_fault, .int z_size, .ref m_row, .ref m_shelves, .ref m_many, .ref m_widths, .int (nI mk_5), .ref m_mark, .int z_shown, .ref m_shownMark, .int z_wasRun, .int z_wrong_5, .int z_ended, .int (nI sp), .int z_hints, .int z_hasWidth, .int z_width, .int z_first, .int z_moved, .int z_deepest, .int z_x_5, .int z_y_5, .int (nI t), .ref m_stack, .ref m_places, .int (nI d), .ref m_kinds, .ref m_ats, .ref m_ends])), (m_mark, .inl (cI, 28000, .inl g_mark_5))] := hD
                  refine lv_iinc (v := nI (i + 1)) (lv' := [(2, .int (nI (i + 1))), (3, .int 1), (0, .ref mo), (1, .int c)]) hx hb d_Mo_turns_90 hl (k := 3) rfl (nI_add i 1) (by decide) rfl (fun ls hl => ?_)
                  refine lv_goto (tgt := 22) hx hb d_Mo_turns_93 (by decide) ?_
                  exact ih_22  (i + 1) z_x_5 z_y_5 z_wrong_5 mk_5 g_mark_5 _ _ _ ⟨by omega, by omega⟩ (by omega) (hP.subm [1, 0, 2] rfl) (hD.sub [1, 0, 2] rfl rfl) hS (lv_sub hl [2, 3, 0] rfl)
              · have n_40 : (i % 2) = (0) := (nI_eq (a := i % 2) (b := 0) (by omega) (by omega)).mp c_40
                refine lv_iconst (v := 1) hx hb d_Mo_turns_43 (by decide) ?_
                refine lv_goto (tgt := 48) hx hb d_Mo_turns_44 (by decide) ?_
                refine lv_iload_n hx hb d_Mo_turns_48 rfl (lv_at hl 1 rfl) ?_
                refine lv_icmp_ne (tgt := 56) hx hb d_Mo_turns_49 (by decide) (fun c_49 => ?_) (fun c_49 => ?_)
                · refine lv_iconst (v := 0) hx hb d_Mo_turns_56 (by decide) ?_
                  refine lv_istore_n (lv' := [(3, .int 0), (0, .ref mo), (1, .int c), (2, .int (nI i))]) hx hb d_Mo_turns_57 rfl hl (by decide) rfl (fun ls hl => ?_)
                  refine lv_aload_n hx hb d_Mo_turns_58 rfl (lv_at hl 1 rfl) ?_
                  refine lv_iload_n hx hb d_Mo_turns_59 rfl (lv_at hl 0 rfl) ?_
                  refine lv_if_eq (tgt := 72) hx hb d_Mo_turns_60 (by decide) (fun c_60 => ?_) (fun c_60 => absurd (by decide) c_60)
                  clear c_60
                  refine lv_iconst (v := 0) hx hb d_Mo_turns_72 (by decide) ?_
                  refine lv_iload_n hx hb d_Mo_turns_73 rfl (lv_at hl 0 rfl) ?_
                  refine lv_if_eq (tgt := 81) hx hb d_Mo_turns_74 (by decide) (fun c_74 => ?_) (fun c_74 => absurd (by decide) c_74)
                  clear c_74
                  refine lv_aload_n hx hb d_Mo_turns_81 rfl (lv_at hl 1 rfl) ?_
                  refine va_get (D := D) (ci := 8) (v := .ref m_stack) (C := R_Mo) (T := F_Mo) (N := 29) hx hb hts i_Mo hown hZ.1 hP 0 rfl rfl 23 (by decide) (hts _ fl_Mo_29) (fun _ h9 => h9) rfl d_Mo_turns_82 ?_
                  refine lv_iload_n hx hb d_Mo_turns_85 rfl (lv_at hl 3 rfl) ?_
                  refine va_iald hx hb hZ.1 hP 1 1 rfl rfl (vp_in_nI (by omega) (by omega)) d_Mo_turns_86 ?_
                  refine lv_tv (y := g_stack i) (by rw [nI_clamp (by omega)]) ?_
                  have hC : Cut [(mo, .inr (8, [.int z_fault, .int z_size, .ref m_row, .ref m_shelves, .ref m_many, .ref m_widths, .int (nI mL), .ref m_mark, .int z_shown, .ref m_shownMark, .int z_wasRun, .int wL, .int z_ended, .int (nI sp), .int z_hints, .int z_hasWidth, .int z_width, .int z_first, .int z_moved, .int z_deepest, .int xL, .int yL, .int (nI t), .ref m_stack, .ref m_places, .int (nI d), .ref m_kinds, .ref m_ats, .ref m_ends])), (m_stack, .inl (cI, 48, .inl g_stack)), (m_mark, .inl (cI, 28000, .inl gm))] [(mo, .inr (8, [.int z_fault, .int z_size, .ref m_row, .ref m_shelves, .ref m_many, .ref m_widths, .int (nI mL), .ref m_mark, .int z_shown, .ref m_shownMark, .int z_wasRun, .int wL, .int z_ended, .int (nI sp), .int z_hints, .int z_hasWidth, .int z_width, .int z_first, .int z_moved, .int z_deepest, .int xL, .int yL, .int (nI t), .ref m_stack, .ref m_places, .int (nI d), .ref m_kinds, .ref m_ats, .ref m_ends])), (m_mark, .inl (cI, 28000, .inl gm))] [(m_stack, .inl (cI, 48, .inl g_stack))] [0, 2] [1] := ⟨rfl, rfl, rfl, rfl, by decide⟩
                  refine goV0 (trV (As := [.int 0, .int (g_stack i)]) (rest := []) ⟨hx, hb, hml, hown, hts⟩ gd_good (c_Mo_line l D cB cI cJ mo m_row m_shelves m_many m_widths m_mark m_shownMark m_stack m_places m_kinds m_ats m_ends mL sp t d z_fault z_size z_shown z_wasRun wL z_ended z_hints z_hasWidth z_width z_first z_moved z_deepest xL yL gm 0 (g_stack i) (by omega) ) cal_Mo_line ml_Mo_166 ⟨Nat.le_of_ble_eq_true rfl, Nat.le_of_ble_eq_true rfl⟩ hZ hP hD hC 0 (ci := 8) rfl rfl rfl rfl hl.1 rfl (Nat.le_of_ble_eq_true rfl) d_Mo_turns_87 ⟨Nat.le_of_ble_eq_true rfl, Nat.le_of_ble_eq_true rfl⟩) hZ hP hD hS hC (fun w1 H locs hq hP hD hS => ?_)
                  obtain ⟨z_x_6, z_y_6, z_wrong_6, mk_6, g_mark_6, rfl, hv_6⟩ := hq
                  have hP : va_P D classes [(m_stack, .inl (cI, 48, .inl g_stack)), (mo, .inr (8, [.int z_fault, .int z_size, .ref m_row, .ref m_shelves, .ref m_many, .ref m_widths, .int (nI mk_6), .ref m_mark, .int z_shown, .ref m_shownMark, .int z_wasRun, .int z_wrong_6, .int z_ended, .int (nI sp), .int z_hints, .int z_hasWidth, .int z_width, .int z_first, .int z_moved, .int z_deepest, .int z_x_6, .int z_y_6, .int (nI t), .ref m_stack, .ref m_places, .int (nI d), .ref m_kinds, .ref m_ats, .ref m_ends])), (m_mark, .inl (cI, 28000, .inl g_mark_6))] H := hP
                  have hD : va_D A_ [(m_stack, .inl (cI, 48, .inl g_stack)), (mo, .inr (8, [.int z_fault, .int z_size, .ref m_row, .ref m_shelves, .ref m_many, .ref m_widths, .int (nI mk_6), .ref m_mark, .int z_shown, .ref m_shownMark, .int z_wasRun, .int z_wrong_6, .int z_ended, .int (nI sp), .int z_hints, .int z_hasWidth, .int z_width, .int z_first, .int z_moved, .int z_deepest, .int z_x_6, .int z_y_6, .int (nI t), .ref m_stack, .ref m_places, .int (nI d), .ref m_kinds, .ref m_ats, .ref m_ends])), (m_mark, .inl (cI, 28000, .inl g_mark_6))] := hD
                  refine lv_iinc (v := nI (i + 1)) (lv' := [(2, .int (nI (i + 1))), (3, .int 0), (0, .ref mo), (1, .int c)]) hx hb d_Mo_turns_90 hl (k := 3) rfl (nI_add i 1) (by decide) rfl (fun ls hl => ?_)
                  refine lv_goto (tgt := 22) hx hb d_Mo_turns_93 (by decide) ?_
                  exact ih_22  (i + 1) z_x_6 z_y_6 z_wrong_6 mk_6 g_mark_6 _ _ _ ⟨by omega, by omega⟩ (by omega) (hP.subm [1, 0, 2] rfl) (hD.sub [1, 0, 2] rfl rfl) hS (lv_sub hl [2, 3, 0] rfl)
                · refine lv_iconst (v := 1) hx hb d_Mo_turns_52 (by decide) ?_
                  refine lv_goto (tgt := 57) hx hb d_Mo_turns_53 (by decide) ?_
                  refine lv_istore_n (lv' := [(3, .int 1), (0, .ref mo), (1, .int c), (2, .int (nI i))]) hx hb d_Mo_turns_57 rfl hl (by decide) rfl (fun ls hl => ?_)
                  refine lv_aload_n hx hb d_Mo_turns_58 rfl (lv_at hl 1 rfl) ?_
                  refine lv_iload_n hx hb d_Mo_turns_59 rfl (lv_at hl 0 rfl) ?_
                  refine lv_if_eq (tgt := 72) hx hb d_Mo_turns_60 (by decide) (fun c_60 => absurd c_60 (by decide)) (fun c_60 => ?_)
                  clear c_60
                  refine lv_aload_n hx hb d_Mo_turns_63 rfl (lv_at hl 1 rfl) ?_
                  refine va_get (D := D) (ci := 8) (v := .ref m_stack) (C := R_Mo) (T := F_Mo) (N := 29) hx hb hts i_Mo hown hZ.1 hP 0 rfl rfl 23 (by decide) (hts _ fl_Mo_29) (fun _ h9 => h9) rfl d_Mo_turns_64 ?_
                  refine lv_iload_n hx hb d_Mo_turns_67 rfl (lv_at hl 3 rfl) ?_
                  refine va_iald hx hb hZ.1 hP 1 1 rfl rfl (vp_in_nI (by omega) (by omega)) d_Mo_turns_68 ?_
                  refine lv_tv (y := g_stack i) (by rw [nI_clamp (by omega)]) ?_
                  refine lv_goto (tgt := 73) hx hb d_Mo_turns_69 (by decide) ?_
                  refine lv_iload_n hx hb d_Mo_turns_73 rfl (lv_at hl 0 rfl) ?_
                  refine lv_if_eq (tgt := 81) hx hb d_Mo_turns_74 (by decide) (fun c_74 => absurd c_74 (by decide)) (fun c_74 => ?_)
                  clear c_74
                  refine lv_iconst (v := 0) hx hb d_Mo_turns_77 (by decide) ?_
                  refine lv_goto (tgt := 87) hx hb d_Mo_turns_78 (by decide) ?_
                  have hC : Cut [(mo, .inr (8, [.int z_fault, .int z_size, .ref m_row, .ref m_shelves, .ref m_many, .ref m_widths, .int (nI mL), .ref m_mark, .int z_shown, .ref m_shownMark, .int z_wasRun, .int wL, .int z_ended, .int (nI sp), .int z_hints, .int z_hasWidth, .int z_width, .int z_first, .int z_moved, .int z_deepest, .int xL, .int yL, .int (nI t), .ref m_stack, .ref m_places, .int (nI d), .ref m_kinds, .ref m_ats, .ref m_ends])), (m_stack, .inl (cI, 48, .inl g_stack)), (m_mark, .inl (cI, 28000, .inl gm))] [(mo, .inr (8, [.int z_fault, .int z_size, .ref m_row, .ref m_shelves, .ref m_many, .ref m_widths, .int (nI mL), .ref m_mark, .int z_shown, .ref m_shownMark, .int z_wasRun, .int wL, .int z_ended, .int (nI sp), .int z_hints, .int z_hasWidth, .int z_width, .int z_first, .int z_moved, .int z_deepest, .int xL, .int yL, .int (nI t), .ref m_stack, .ref m_places, .int (nI d), .ref m_kinds, .ref m_ats, .ref m_ends])), (m_mark, .inl (cI, 28000, .inl gm))] [(m_stack, .inl (cI, 48, .inl g_stack))] [0, 2] [1] := ⟨rfl, rfl, rfl, rfl, by decide⟩
                  refine goV0 (trV (As := [.int (g_stack i), .int 0]) (rest := []) ⟨hx, hb, hml, hown, hts⟩ gd_good (c_Mo_line l D cB cI cJ mo m_row m_shelves m_many m_widths m_mark m_shownMark m_stack m_places m_kinds m_ats m_ends mL sp t d z_fault z_size z_shown z_wasRun wL z_ended z_hints z_hasWidth z_width z_first z_moved z_deepest xL yL gm (g_stack i) 0 (by omega) ) cal_Mo_line ml_Mo_166 ⟨Nat.le_of_ble_eq_true rfl, Nat.le_of_ble_eq_true rfl⟩ hZ hP hD hC 0 (ci := 8) rfl rfl rfl rfl hl.1 rfl (Nat.le_of_ble_eq_true rfl) d_Mo_turns_87 ⟨Nat.le_of_ble_eq_true rfl, Nat.le_of_ble_eq_true rfl⟩) hZ hP hD hS hC (fun w1 H locs hq hP hD hS => ?_)
                  obtain ⟨z_x_7, z_y_7, z_wrong_7, mk_7, g_mark_7, rfl, hv_7⟩ := hq
                  have hP : va_P D classes [(m_stack, .inl (cI, 48, .inl g_stack)), (mo, .inr (8, [.int z_fault, .int z_size, .ref m_row, .ref m_shelves, .ref m_many, .ref m_widths, .int (nI mk_7), .ref m_mark, .int z_shown, .ref m_shownMark, .int z_wasRun, .int z_wrong_7, .int z_ended, .int (nI sp), .int z_hints, .int z_hasWidth, .int z_width, .int z_first, .int z_moved, .int z_deepest, .int z_x_7, .int z_y_7, .int (nI t), .ref m_stack, .ref m_places, .int (nI d), .ref m_kinds, .ref m_ats, .ref m_ends])), (m_mark, .inl (cI, 28000, .inl g_mark_7))] H := hP
                  have hD : va_D A_ [(m_stack, .inl (cI, 48, .inl g_stack)), (mo, .inr (8, [.int z_fault, .int z_size, .ref m_row, .ref m_shelves, .ref m_many, .ref m_widths, .int (nI mk_7), .ref m_mark, .int z_shown, .ref m_shownMark, .int z_wasRun, .int z_wrong_7, .int z_ended, .int (nI sp), .int z_hints, .int z_hasWidth, .int z_width, .int z_first, .int z_moved, .int z_deepest, .int z_x_7, .int z_y_7, .int (nI t), .ref m_stack, .ref m_places, .int (nI d), .ref m_kinds, .ref m_ats, .ref m_ends])), (m_mark, .inl (cI, 28000, .inl g_mark_7))] := hD
                  refine lv_iinc (v := nI (i + 1)) (lv' := [(2, .int (nI (i + 1))), (3, .int 1), (0, .ref mo), (1, .int c)]) hx hb d_Mo_turns_90 hl (k := 3) rfl (nI_add i 1) (by decide) rfl (fun ls hl => ?_)
                  refine lv_goto (tgt := 22) hx hb d_Mo_turns_93 (by decide) ?_
                  exact ih_22  (i + 1) z_x_7 z_y_7 z_wrong_7 mk_7 g_mark_7 _ _ _ ⟨by omega, by omega⟩ (by omega) (hP.subm [1, 0, 2] rfl) (hD.sub [1, 0, 2] rfl rfl) hS (lv_sub hl [2, 3, 0] rfl)
      exact lp_22 _ 0 z_x z_y z_wrong_1 mk g_mark _ _ _ ⟨by omega, by omega⟩ (Nat.lt_succ_self _) (hP.subm [2, 0, 1] rfl) (hD.sub [2, 0, 1] rfl rfl) hS (lv_sub hl [1, 2, 0] rfl)
  · have n_6 : ¬ (t) < (1) := fun z => c_6 ((nI_ltI (a := t) (b := 1) (by omega) (by omega)).mpr z)
    refine lv_iconst (v := 1) hx hb d_Mo_turns_9 (by decide) ?_
    refine lv_goto (tgt := 14) hx hb d_Mo_turns_10 (by decide) ?_
    have hC : Cut [(mo, .inr (8, [.int z_fault, .int z_size, .ref m_row, .ref m_shelves, .ref m_many, .ref m_widths, .int (nI mk), .ref m_mark, .int z_shown, .ref m_shownMark, .int z_wasRun, .int z_wrong, .int z_ended, .int (nI sp), .int z_hints, .int z_hasWidth, .int z_width, .int z_first, .int z_moved, .int z_deepest, .int z_x, .int z_y, .int (nI t), .ref m_stack, .ref m_places, .int (nI d), .ref m_kinds, .ref m_ats, .ref m_ends])), (m_stack, .inl (cI, 48, .inl g_stack)), (m_mark, .inl (cI, 28000, .inl g_mark))] [(mo, .inr (8, [.int z_fault, .int z_size, .ref m_row, .ref m_shelves, .ref m_many, .ref m_widths, .int (nI mk), .ref m_mark, .int z_shown, .ref m_shownMark, .int z_wasRun, .int z_wrong, .int z_ended, .int (nI sp), .int z_hints, .int z_hasWidth, .int z_width, .int z_first, .int z_moved, .int z_deepest, .int z_x, .int z_y, .int (nI t), .ref m_stack, .ref m_places, .int (nI d), .ref m_kinds, .ref m_ats, .ref m_ends]))] [(m_stack, .inl (cI, 48, .inl g_stack)), (m_mark, .inl (cI, 28000, .inl g_mark))] [0] [1, 2] := ⟨rfl, rfl, rfl, rfl, by decide⟩
    refine goI0 (trV (As := [.int 1]) (rest := []) ⟨hx, hb, hml, hown, hts⟩ gd_good (c_Mo_may l D cB cI cJ mo m_row m_shelves m_many m_widths m_mark m_shownMark m_stack m_places m_kinds m_ats m_ends mk sp t d z_fault z_size z_shown z_wasRun z_wrong z_ended z_hints z_hasWidth z_width z_first z_moved z_deepest z_x z_y 1 (by omega) ) cal_Mo_may ml_Mo_162 ⟨Nat.le_of_ble_eq_true rfl, Nat.le_of_ble_eq_true rfl⟩ hZ hP hD hC 0 (ci := 8) rfl rfl rfl rfl hl.1 rfl (Nat.le_of_ble_eq_true rfl) d_Mo_turns_14 ⟨Nat.le_of_ble_eq_true rfl, Nat.le_of_ble_eq_true rfl⟩) hZ hP hD hS hC (fun r_14 w1 H locs hq hP hD hS => ?_)
    obtain ⟨z_wrong_8, rfl, hv_8, hx_8, hz_8⟩ := hq
    have hP : va_P D classes [(m_stack, .inl (cI, 48, .inl g_stack)), (m_mark, .inl (cI, 28000, .inl g_mark)), (mo, .inr (8, [.int z_fault, .int z_size, .ref m_row, .ref m_shelves, .ref m_many, .ref m_widths, .int (nI mk), .ref m_mark, .int z_shown, .ref m_shownMark, .int z_wasRun, .int z_wrong_8, .int z_ended, .int (nI sp), .int z_hints, .int z_hasWidth, .int z_width, .int z_first, .int z_moved, .int z_deepest, .int z_x, .int z_y, .int (nI t), .ref m_stack, .ref m_places, .int (nI d), .ref m_kinds, .ref m_ats, .ref m_ends]))] H := hP
    have hD : va_D A_ [(m_stack, .inl (cI, 48, .inl g_stack)), (m_mark, .inl (cI, 28000, .inl g_mark)), (mo, .inr (8, [.int z_fault, .int z_size, .ref m_row, .ref m_shelves, .ref m_many, .ref m_widths, .int (nI mk), .ref m_mark, .int z_shown, .ref m_shownMark, .int z_wasRun, .int z_wrong_8, .int z_ended, .int (nI sp), .int z_hints, .int z_hasWidth, .int z_width, .int z_first, .int z_moved, .int z_deepest, .int z_x, .int z_y, .int (nI t), .ref m_stack, .ref m_places, .int (nI d), .ref m_kinds, .ref m_ats, .ref m_ends]))] := hD
    refine lv_if_eq (tgt := 100) hx hb d_Mo_turns_17 (by decide) (fun c_17 => ?_) (fun c_17 => ?_)
    · exact t_vret hx hb hr hlk d_Mo_turns_100 (hP.subm (ws' := [(mo, .inr (8, [.int z_fault, .int z_size, .ref m_row, .ref m_shelves, .ref m_many, .ref m_widths, .int (nI mk), .ref m_mark, .int z_shown, .ref m_shownMark, .int z_wasRun, .int z_wrong_8, .int z_ended, .int (nI sp), .int z_hints, .int z_hasWidth, .int z_width, .int z_first, .int z_moved, .int z_deepest, .int z_x, .int z_y, .int (nI t), .ref m_stack, .ref m_places, .int (nI d), .ref m_kinds, .ref m_ats, .ref m_ends])), (m_stack, .inl (cI, 48, .inl g_stack)), (m_mark, .inl (cI, 28000, .inl g_mark))]) [2, 0, 1] rfl) (hD.sub (ws' := [(mo, .inr (8, [.int z_fault, .int z_size, .ref m_row, .ref m_shelves, .ref m_many, .ref m_widths, .int (nI mk), .ref m_mark, .int z_shown, .ref m_shownMark, .int z_wasRun, .int z_wrong_8, .int z_ended, .int (nI sp), .int z_hints, .int z_hasWidth, .int z_width, .int z_first, .int z_moved, .int z_deepest, .int z_x, .int z_y, .int (nI t), .ref m_stack, .ref m_places, .int (nI d), .ref m_kinds, .ref m_ats, .ref m_ends])), (m_stack, .inl (cI, 48, .inl g_stack)), (m_mark, .inl (cI, 28000, .inl g_mark))]) [2, 0, 1] rfl rfl) hS ⟨rfl, rfl, rfl, _, _, _, mk, t, _, rfl, (by omega)⟩
    · refine lv_iconst (v := 0) hx hb d_Mo_turns_20 (by decide) ?_
      refine lv_istore_n (lv' := [(2, .int 0), (0, .ref mo), (1, .int c)]) hx hb d_Mo_turns_21 rfl hl (by decide) rfl (fun ls hl => ?_)
      have lp_22 : ∀ (fu : Nat) (i : Nat) (xL : Int32) (yL : Int32) (wL : Int32) (mL : Nat) (gm : Nat → Int32) (H : Heap) (locs : List Loc) (ls : Array Slot), (mL ≤ 4000 ∧ i ≤ 60) → (70 - i) < fu → va_P D classes [(mo, .inr (8, [.int z_fault, .int z_size, .ref m_row, .ref m_shelves, .ref m_many, .ref m_widths, .int (nI mL), .ref m_mark, .int z_shown, .ref m_shownMark, .int z_wasRun, .int wL, .int z_ended, .int (nI sp), .int z_hints, .int z_hasWidth, .int z_width, .int z_first, .int z_moved, .int z_deepest, .int xL, .int yL, .int (nI t), .ref m_stack, .ref m_places, .int (nI d), .ref m_kinds, .ref m_ats, .ref m_ends])), (m_stack, .inl (cI, 48, .inl g_stack)), (m_mark, .inl (cI, 28000, .inl gm))] H → va_D A_ [(mo, .inr (8, [.int z_fault, .int z_size, .ref m_row, .ref m_shelves, .ref m_many, .ref m_widths, .int (nI mL), .ref m_mark, .int z_shown, .ref m_shownMark, .int z_wasRun, .int wL, .int z_ended, .int (nI sp), .int z_hints, .int z_hasWidth, .int z_width, .int z_first, .int z_moved, .int z_deepest, .int xL, .int yL, .int (nI t), .ref m_stack, .ref m_places, .int (nI d), .ref m_kinds, .ref m_ats, .ref m_ends])), (m_stack, .inl (cI, 48, .inl g_stack)), (m_mark, .inl (cI, 28000, .inl gm))] → va_S A_ s_.heap H locs → lv_has ls 4 [(0, .ref mo), (1, .int c), (2, .int (nI i))] → W p_ l e_ ({ frames := 3, cells := 0, slots := 0, locals := 69 }) s_ m_ args_ below_ meth_ c_ H locs (0) (0) (MQT below_ D classes A_ (pV0 (fun w => ∃ (z_x' : Int32) (z_y' : Int32) (z_wrong' : Int32) (mk' : Nat) (t' : Nat) (g_mark' : Nat → Int32), w = [(mo, .inr (8, [.int z_fault, .int z_size, .ref m_row, .ref m_shelves, .ref m_many, .ref m_widths, .int (nI mk'), .ref m_mark, .int z_shown, .ref m_shownMark, .int z_wasRun, .int z_wrong', .int z_ended, .int (nI sp), .int z_hints, .int z_hasWidth, .int z_width, .int z_first, .int z_moved, .int z_deepest, .int z_x', .int z_y', .int (nI t'), .ref m_stack, .ref m_places, .int (nI d), .ref m_kinds, .ref m_ats, .ref m_ends])), (m_stack, .inl (cI, 48, .inl g_stack)), (m_mark, .inl (cI, 28000, .inl g_mark'))] ∧ (t' ≤ 48 ∧ d ≤ 10 ∧ mk' ≤ 4000 ∧ sp ≤ 20000))) s_) (F0 m_ 22 ls []) := by
        intro fu
        induction fu with
        | zero => intro i xL yL wL mL gm H locs ls hinv hfu; exact absurd hfu (Nat.not_lt_zero _)
        | succ fu ih_22 =>
          intro i xL yL wL mL gm H locs ls hinv hfu hP hD hS hl
          obtain ⟨hmL, hi1⟩ := hinv
          refine lv_iload_n hx hb d_Mo_turns_22 rfl (lv_at hl 2 rfl) ?_
          refine lv_aload_n hx hb d_Mo_turns_23 rfl (lv_at hl 0 rfl) ?_
          refine va_get (D := D) (ci := 8) (v := .int (nI t)) (C := R_Mo) (T := F_Mo) (N := 29) hx hb hts i_Mo hown hZ.1 hP 0 rfl rfl 22 (by decide) (hts _ fl_Mo_82) (fun _ h9 => h9) rfl d_Mo_turns_24 ?_
          refine lv_icmp_ge (tgt := 96) hx hb d_Mo_turns_27 (by decide) (fun c_27 => ?_) (fun c_27 => ?_)
          · have n_27 : (t) ≤ (i) := (nI_leI (a := t) (b := i) (by omega) (by omega)).mp c_27
            refine lv_aload_n hx hb d_Mo_turns_96 rfl (lv_at hl 0 rfl) ?_
            have hC : Cut [(mo, .inr (8, [.int z_fault, .int z_size, .ref m_row, .ref m_shelves, .ref m_many, .ref m_widths, .int (nI mL), .ref m_mark, .int z_shown, .ref m_shownMark, .int z_wasRun, .int wL, .int z_ended, .int (nI sp), .int z_hints, .int z_hasWidth, .int z_width, .int z_first, .int z_moved, .int z_deepest, .int xL, .int yL, .int (nI t), .ref m_stack, .ref m_places, .int (nI d), .ref m_kinds, .ref m_ats, .ref m_ends])), (m_stack, .inl (cI, 48, .inl g_stack)), (m_mark, .inl (cI, 28000, .inl gm))] [(mo, .inr (8, [.int z_fault, .int z_size, .ref m_row, .ref m_shelves, .ref m_many, .ref m_widths, .int (nI mL), .ref m_mark, .int z_shown, .ref m_shownMark, .int z_wasRun, .int wL, .int z_ended, .int (nI sp), .int z_hints, .int z_hasWidth, .int z_width, .int z_first, .int z_moved, .int z_deepest, .int xL, .int yL, .int (nI t), .ref m_stack, .ref m_places, .int (nI d), .ref m_kinds, .ref m_ats, .ref m_ends]))] [(m_stack, .inl (cI, 48, .inl g_stack)), (m_mark, .inl (cI, 28000, .inl gm))] [0] [1, 2] := ⟨rfl, rfl, rfl, rfl, by decide⟩
            refine goV0 (trV (As := []) (rest := []) ⟨hx, hb, hml, hown, hts⟩ gd_good (c_Mo_take_V l D cB cI cJ mo m_row m_shelves m_many m_widths m_mark m_shownMark m_stack m_places m_kinds m_ats m_ends mL sp t d z_fault z_size z_shown z_wasRun wL z_ended z_hints z_hasWidth z_width z_first z_moved z_deepest xL yL (by omega) ) cal_Mo_take_V ml_Mo_155 ⟨Nat.le_of_ble_eq_true rfl, Nat.le_of_ble_eq_true rfl⟩ hZ hP hD hC 0 (ci := 8) rfl rfl rfl rfl hl.1 rfl (Nat.le_of_ble_eq_true rfl) d_Mo_turns_97 ⟨Nat.le_of_ble_eq_true rfl, Nat.le_of_ble_eq_true rfl⟩) hZ hP hD hS hC (fun w1 H locs hq hP hD hS => ?_)
            obtain ⟨t_9, rfl, hv_9⟩ := hq
            have hP : va_P D classes [(m_stack, .inl (cI, 48, .inl g_stack)), (m_mark, .inl (cI, 28000, .inl gm)), (mo, .inr (8, [.int z_fault, .int z_size, .ref m_row, .ref m_shelves, .ref m_many, .ref m_widths, .int (nI mL), .ref m_mark, .int z_shown, .ref m_shownMark, .int z_wasRun, .int wL, .int z_ended, .int (nI sp), .int z_hints, .int z_hasWidth, .int z_width, .int z_first, .int z_moved, .int z_deepest, .int xL, .int yL, .int (nI t_9), .ref m_stack, .ref m_places, .int (nI d), .ref m_kinds, .ref m_ats, .ref m_ends]))] H := hP
            have hD : va_D A_ [(m_stack, .inl (cI, 48, .inl g_stack)), (m_mark, .inl (cI, 28000, .inl gm)), (mo, .inr (8, [.int z_fault, .int z_size, .ref m_row, .ref m_shelves, .ref m_many, .ref m_widths, .int (nI mL), .ref m_mark, .int z_shown, .ref m_shownMark, .int z_wasRun, .int wL, .int z_ended, .int (nI sp), .int z_hints, .int z_hasWidth, .int z_width, .int z_first, .int z_moved, .int z_deepest, .int xL, .int yL, .int (nI t_9), .ref m_stack, .ref m_places, .int (nI d), .ref m_kinds, .ref m_ats, .ref m_ends]))] := hD
            exact t_vret hx hb hr hlk d_Mo_turns_100 (hP.subm (ws' := [(mo, .inr (8, [.int z_fault, .int z_size, .ref m_row, .ref m_shelves, .ref m_many, .ref m_widths, .int (nI mL), .ref m_mark, .int z_shown, .ref m_shownMark, .int z_wasRun, .int wL, .int z_ended, .int (nI sp), .int z_hints, .int z_hasWidth, .int z_width, .int z_first, .int z_moved, .int z_deepest, .int xL, .int yL, .int (nI t_9), .ref m_stack, .ref m_places, .int (nI d), .ref m_kinds, .ref m_ats, .ref m_ends])), (m_stack, .inl (cI, 48, .inl g_stack)), (m_mark, .inl (cI, 28000, .inl gm))]) [2, 0, 1] rfl) (hD.sub (ws' := [(mo, .inr (8, [.int z_fault, .int z_size, .ref m_row, .ref m_shelves, .ref m_many, .ref m_widths, .int (nI mL), .ref m_mark, .int z_shown, .ref m_shownMark, .int z_wasRun, .int wL, .int z_ended, .int (nI sp), .int z_hints, .int z_hasWidth, .int z_width, .int z_first, .int z_moved, .int z_deepest, .int xL, .int yL, .int (nI t_9), .ref m_stack, .ref m_places, .int (nI d), .ref m_kinds, .ref m_ats, .ref m_ends])), (m_stack, .inl (cI, 48, .inl g_stack)), (m_mark, .inl (cI, 28000, .inl gm))]) [2, 0, 1] rfl rfl) hS ⟨rfl, rfl, rfl, _, _, _, mL, t_9, _, rfl, (by omega)⟩
          · have n_27 : ¬ (t) ≤ (i) := fun z => c_27 ((nI_leI (a := t) (b := i) (by omega) (by omega)).mpr z)
            refine lv_aload_n hx hb d_Mo_turns_30 rfl (lv_at hl 0 rfl) ?_
            refine va_get (D := D) (ci := 8) (v := .int wL) (C := R_Mo) (T := F_Mo) (N := 29) hx hb hts i_Mo hown hZ.1 hP 0 rfl rfl 11 (by decide) (hts _ fl_Mo_75) (fun _ h9 => h9) rfl d_Mo_turns_31 ?_
            refine lv_if_ne (tgt := 96) hx hb d_Mo_turns_34 (by decide) (fun c_34 => ?_) (fun c_34 => ?_)
            · refine lv_aload_n hx hb d_Mo_turns_96 rfl (lv_at hl 0 rfl) ?_
              have hC : Cut [(mo, .inr (8, [.int z_fault, .int z_size, .ref m_row, .ref m_shelves, .ref m_many, .ref m_widths, .int (nI mL), .ref m_mark, .int z_shown, .ref m_shownMark, .int z_wasRun, .int wL, .int z_ended, .int (nI sp), .int z_hints, .int z_hasWidth, .int z_width, .int z_first, .int z_moved, .int z_deepest, .int xL, .int yL, .int (nI t), .ref m_stack, .ref m_places, .int (nI d), .ref m_kinds, .ref m_ats, .ref m_ends])), (m_stack, .inl (cI, 48, .inl g_stack)), (m_mark, .inl (cI, 28000, .inl gm))] [(mo, .inr (8, [.int z_fault, .int z_size, .ref m_row, .ref m_shelves, .ref m_many, .ref m_widths, .int (nI mL), .ref m_mark, .int z_shown, .ref m_shownMark, .int z_wasRun, .int wL, .int z_ended, .int (nI sp), .int z_hints, .int z_hasWidth, .int z_width, .int z_first, .int z_moved, .int z_deepest, .int xL, .int yL, .int (nI t), .ref m_stack, .ref m_places, .int (nI d), .ref m_kinds, .ref m_ats, .ref m_ends]))] [(m_stack, .inl (cI, 48, .inl g_stack)), (m_mark, .inl (cI, 28000, .inl gm))] [0] [1, 2] := ⟨rfl, rfl, rfl, rfl, by decide⟩
              refine goV0 (trV (As := []) (rest := []) ⟨hx, hb, hml, hown, hts⟩ gd_good (c_Mo_take_V l D cB cI cJ mo m_row m_shelves m_many m_widths m_mark m_shownMark m_stack m_places m_kinds m_ats m_ends mL sp t d z_fault z_size z_shown z_wasRun wL z_ended z_hints z_hasWidth z_width z_first z_moved z_deepest xL yL (by omega) ) cal_Mo_take_V ml_Mo_155 ⟨Nat.le_of_ble_eq_true rfl, Nat.le_of_ble_eq_true rfl⟩ hZ hP hD hC 0 (ci := 8) rfl rfl rfl rfl hl.1 rfl (Nat.le_of_ble_eq_true rfl) d_Mo_turns_97 ⟨Nat.le_of_ble_eq_true rfl, Nat.le_of_ble_eq_true rfl⟩) hZ hP hD hS hC (fun w1 H locs hq hP hD hS => ?_)
              obtain ⟨t_10, rfl, hv_10⟩ := hq
              have hP : va_P D classes [(m_stack, .inl (cI, 48, .inl g_stack)), (m_mark, .inl (cI, 28000, .inl gm)), (mo, .inr (8, [.int z_fault, .int z_size, .ref m_row, .ref m_shelves, .ref m_many, .ref m_widths, .int (nI mL), .ref m_mark, .int z_shown, .ref m_shownMark, .int z_wasRun, .int wL, .int z_ended, .int (nI sp), .int z_hints, .int z_hasWidth, .int z_width, .int z_first, .int z_moved, .int z_deepest, .int xL, .int yL, .int (nI t_10), .ref m_stack, .ref m_places, .int (nI d), .ref m_kinds, .ref m_ats, .ref m_ends]))] H := hP
              have hD : va_D A_ [(m_stack, .inl (cI, 48, .inl g_stack)), (m_mark, .inl (cI, 28000, .inl gm)), (mo, .inr (8, [.int z_fault, .int z_size, .ref m_row, .ref m_shelves, .ref m_many, .ref m_widths, .int (nI mL), .ref m_mark, .int z_shown, .ref m_shownMark, .int z_wasRun, .int wL, .int z_ended, .int (nI sp), .int z_hints, .int z_hasWidth, .int z_width, .int z_first, .int z_moved, .int z_deepest, .int xL, .int yL, .int (nI t_10), .ref m_stack, .ref m_places, .int (nI d), .ref m_kinds, .ref m_ats, .ref m_ends]))] := hD
              exact t_vret hx hb hr hlk d_Mo_turns_100 (hP.subm (ws' := [(mo, .inr (8, [.int z_fault, .int z_size, .ref m_row, .ref m_shelves, .ref m_many, .ref m_widths, .int (nI mL), .ref m_mark, .int z_shown, .ref m_shownMark, .int z_wasRun, .int wL, .int z_ended, .int (nI sp), .int z_hints, .int z_hasWidth, .int z_width, .int z_first, .int z_moved, .int z_deepest, .int xL, .int yL, .int (nI t_10), .ref m_stack, .ref m_places, .int (nI d), .ref m_kinds, .ref m_ats, .ref m_ends])), (m_stack, .inl (cI, 48, .inl g_stack)), (m_mark, .inl (cI, 28000, .inl gm))]) [2, 0, 1] rfl) (hD.sub (ws' := [(mo, .inr (8, [.int z_fault, .int z_size, .ref m_row, .ref m_shelves, .ref m_many, .ref m_widths, .int (nI mL), .ref m_mark, .int z_shown, .ref m_shownMark, .int z_wasRun, .int wL, .int z_ended, .int (nI sp), .int z_hints, .int z_hasWidth, .int z_width, .int z_first, .int z_moved, .int z_deepest, .int xL, .int yL, .int (nI t_10), .ref m_stack, .ref m_places, .int (nI d), .ref m_kinds, .ref m_ats, .ref m_ends])), (m_stack, .inl (cI, 48, .inl g_stack)), (m_mark, .inl (cI, 28000, .inl gm))]) [2, 0, 1] rfl rfl) hS ⟨rfl, rfl, rfl, _, _, _, mL, t_10, _, rfl, (by omega)⟩
            · refine lv_iload_n hx hb d_Mo_turns_37 rfl (lv_at hl 2 rfl) ?_
              refine lv_iconst (v := 2) hx hb d_Mo_turns_38 (by decide) ?_
              refine lv_irem hx hb d_Mo_turns_39 (by decide) ?_
              refine lv_tv (y := nI (i % 2)) (pk_rem (a := i) (d := 2) (by omega) (by omega) (by omega)) ?_
              refine lv_if_ne (tgt := 47) hx hb d_Mo_turns_40 (by decide) (fun c_40 => ?_) (fun c_40 => ?_)
              · have n_40 : ¬ (i % 2) = (0) := fun z => c_40 ((nI_eq (a := i % 2) (b := 0) (by omega) (by omega)).mpr z)
                refine lv_iconst (v := 0) hx hb d_Mo_turns_47 (by decide) ?_
                refine lv_iload_n hx hb d_Mo_turns_48 rfl (lv_at hl 1 rfl) ?_
                refine lv_icmp_ne (tgt := 56) hx hb d_Mo_turns_49 (by decide) (fun c_49 => ?_) (fun c_49 => ?_)
                · refine lv_iconst (v := 0) hx hb d_Mo_turns_56 (by decide) ?_
                  refine lv_istore_n (lv' := [(3, .int 0), (0, .ref mo), (1, .int c), (2, .int (nI i))]) hx hb d_Mo_turns_57 rfl hl (by decide) rfl (fun ls hl => ?_)
                  refine lv_aload_n hx hb d_Mo_turns_58 rfl (lv_at hl 1 rfl) ?_
                  refine lv_iload_n hx hb d_Mo_turns_59 rfl (lv_at hl 0 rfl) ?_
                  refine lv_if_eq (tgt := 72) hx hb d_Mo_turns_60 (by decide) (fun c_60 => ?_) (fun c_60 => absurd (by decide) c_60)
                  clear c_60
                  refine lv_iconst (v := 0) hx hb d_Mo_turns_72 (by decide) ?_
                  refine lv_iload_n hx hb d_Mo_turns_73 rfl (lv_at hl 0 rfl) ?_
                  refine lv_if_eq (tgt := 81) hx hb d_Mo_turns_74 (by decide) (fun c_74 => ?_) (fun c_74 => absurd (by decide) c_74)
                  clear c_74
                  refine lv_aload_n hx hb d_Mo_turns_81 rfl (lv_at hl 1 rfl) ?_
                  refine va_get (D := D) (ci := 8) (v := .ref m_stack) (C := R_Mo) (T := F_Mo) (N := 29) hx hb hts i_Mo hown hZ.1 hP 0 rfl rfl 23 (by decide) (hts _ fl_Mo_29) (fun _ h9 => h9) rfl d_Mo_turns_82 ?_
                  refine lv_iload_n hx hb d_Mo_turns_85 rfl (lv_at hl 3 rfl) ?_
                  refine va_iald hx hb hZ.1 hP 1 1 rfl rfl (vp_in_nI (by omega) (by omega)) d_Mo_turns_86 ?_
                  refine lv_tv (y := g_stack i) (by rw [nI_clamp (by omega)]) ?_
                  have hC : Cut [(mo, .inr (8, [.int z_fault, .int z_size, .ref m_row, .ref m_shelves, .ref m_many, .ref m_widths, .int (nI mL), .ref m_mark, .int z_shown, .ref m_shownMark, .int z_wasRun, .int wL, .int z_ended, .int (nI sp), .int z_hints, .int z_hasWidth, .int z_width, .int z_first, .int z_moved, .int z_deepest, .int xL, .int yL, .int (nI t), .ref m_stack, .ref m_places, .int (nI d), .ref m_kinds, .ref m_ats, .ref m_ends])), (m_stack, .inl (cI, 48, .inl g_stack)), (m_mark, .inl (cI, 28000, .inl gm))] [(mo, .inr (8, [.int z_fault, .int z_size, .ref m_row, .ref m_shelves, .ref m_many, .ref m_widths, .int (nI mL), .ref m_mark, .int z_shown, .ref m_shownMark, .int z_wasRun, .int wL, .int z_ended, .int (nI sp), .int z_hints, .int z_hasWidth, .int z_width, .int z_first, .int z_moved, .int z_deepest, .int xL, .int yL, .int (nI t), .ref m_stack, .ref m_places, .int (nI d), .ref m_kinds, .ref m_ats, .ref m_ends])), (m_mark, .inl (cI, 28000, .inl gm))] [(m_stack, .inl (cI, 48, .inl g_stack))] [0, 2] [1] := ⟨rfl, rfl, rfl, rfl, by decide⟩
                  refine goV0 (trV (As := [.int 0, .int (g_stack i)]) (rest := []) ⟨hx, hb, hml, hown, hts⟩ gd_good (c_Mo_line l D cB cI cJ mo m_row m_shelves m_many m_widths m_mark m_shownMark m_stack m_places m_kinds m_ats m_ends mL sp t d z_fault z_size z_shown z_wasRun wL z_ended z_hints z_hasWidth z_width z_first z_moved z_deepest xL yL gm 0 (g_stack i) (by omega) ) cal_Mo_line ml_Mo_166 ⟨Nat.le_of_ble_eq_true rfl, Nat.le_of_ble_eq_true rfl⟩ hZ hP hD hC 0 (ci := 8) rfl rfl rfl rfl hl.1 rfl (Nat.le_of_ble_eq_true rfl) d_Mo_turns_87 ⟨Nat.le_of_ble_eq_true rfl, Nat.le_of_ble_eq_true rfl⟩) hZ hP hD hS hC (fun w1 H locs hq hP hD hS => ?_)
                  obtain ⟨z_x_11, z_y_11, z_wrong_11, mk_11, g_mark_11, rfl, hv_11⟩ := hq
                  have hP : va_P D classes [(m_stack, .inl (cI, 48, .inl g_stack)), (mo, .inr (8, [.int z_fault, .int z_size, .ref m_row, .ref m_shelves, .ref m_many, .ref m_widths, .int (nI mk_11), .ref m_mark, .int z_shown, .ref m_shownMark, .int z_wasRun, .int z_wrong_11, .int z_ended, .int (nI sp), .int z_hints, .int z_hasWidth, .int z_width, .int z_first, .int z_moved, .int z_deepest, .int z_x_11, .int z_y_11, .int (nI t), .ref m_stack, .ref m_places, .int (nI d), .ref m_kinds, .ref m_ats, .ref m_ends])), (m_mark, .inl (cI, 28000, .inl g_mark_11))] H := hP
                  have hD : va_D A_ [(m_stack, .inl (cI, 48, .inl g_stack)), (mo, .inr (8, [.int z_fault, .int z_size, .ref m_row, .ref m_shelves, .ref m_many, .ref m_widths, .int (nI mk_11), .ref m_mark, .int z_shown, .ref m_shownMark, .int z_wasRun, .int z_wrong_11, .int z_ended, .int (nI sp), .int z_hints, .int z_hasWidth, .int z_width, .int z_first, .int z_moved, .int z_deepest, .int z_x_11, .int z_y_11, .int (nI t), .ref m_stack, .ref m_places, .int (nI d), .ref m_kinds, .ref m_ats, .ref m_ends])), (m_mark, .inl (cI, 28000, .inl g_mark_11))] := hD
                  refine lv_iinc (v := nI (i + 1)) (lv' := [(2, .int (nI (i + 1))), (3, .int 0), (0, .ref mo), (1, .int c)]) hx hb d_Mo_turns_90 hl (k := 3) rfl (nI_add i 1) (by decide) rfl (fun ls hl => ?_)
                  refine lv_goto (tgt := 22) hx hb d_Mo_turns_93 (by decide) ?_
                  exact ih_22  (i + 1) z_x_11 z_y_11 z_wrong_11 mk_11 g_mark_11 _ _ _ ⟨by omega, by omega⟩ (by omega) (hP.subm [1, 0, 2] rfl) (hD.sub [1, 0, 2] rfl rfl) hS (lv_sub hl [2, 3, 0] rfl)
                · refine lv_iconst (v := 1) hx hb d_Mo_turns_52 (by decide) ?_
                  refine lv_goto (tgt := 57) hx hb d_Mo_turns_53 (by decide) ?_
                  refine lv_istore_n (lv' := [(3, .int 1), (0, .ref mo), (1, .int c), (2, .int (nI i))]) hx hb d_Mo_turns_57 rfl hl (by decide) rfl (fun ls hl => ?_)
                  refine lv_aload_n hx hb d_Mo_turns_58 rfl (lv_at hl 1 rfl) ?_
                  refine lv_iload_n hx hb d_Mo_turns_59 rfl (lv_at hl 0 rfl) ?_
                  refine lv_if_eq (tgt := 72) hx hb d_Mo_turns_60 (by decide) (fun c_60 => absurd c_60 (by decide)) (fun c_60 => ?_)
                  clear c_60
                  refine lv_aload_n hx hb d_Mo_turns_63 rfl (lv_at hl 1 rfl) ?_
                  refine va_get (D := D) (ci := 8) (v := .ref m_stack) (C := R_Mo) (T := F_Mo) (N := 29) hx hb hts i_Mo hown hZ.1 hP 0 rfl rfl 23 (by decide) (hts _ fl_Mo_29) (fun _ h9 => h9) rfl d_Mo_turns_64 ?_
                  refine lv_iload_n hx hb d_Mo_turns_67 rfl (lv_at hl 3 rfl) ?_
                  refine va_iald hx hb hZ.1 hP 1 1 rfl rfl (vp_in_nI (by omega) (by omega)) d_Mo_turns_68 ?_
                  refine lv_tv (y := g_stack i) (by rw [nI_clamp (by omega)]) ?_
                  refine lv_goto (tgt := 73) hx hb d_Mo_turns_69 (by decide) ?_
                  refine lv_iload_n hx hb d_Mo_turns_73 rfl (lv_at hl 0 rfl) ?_
                  refine lv_if_eq (tgt := 81) hx hb d_Mo_turns_74 (by decide) (fun c_74 => absurd c_74 (by decide)) (fun c_74 => ?_)
                  clear c_74
                  refine lv_iconst (v := 0) hx hb d_Mo_turns_77 (by decide) ?_
                  refine lv_goto (tgt := 87) hx hb d_Mo_turns_78 (by decide) ?_
                  have hC : Cut [(mo, .inr (8, [.int z_fault, .int z_size, .ref m_row, .ref m_shelves, .ref m_many, .ref m_widths, .int (nI mL), .ref m_mark, .int z_shown, .ref m_shownMark, .int z_wasRun, .int wL, .int z_ended, .int (nI sp), .int z_hints, .int z_hasWidth, .int z_width, .int z_first, .int z_moved, .int z_deepest, .int xL, .int yL, .int (nI t), .ref m_stack, .ref m_places, .int (nI d), .ref m_kinds, .ref m_ats, .ref m_ends])), (m_stack, .inl (cI, 48, .inl g_stack)), (m_mark, .inl (cI, 28000, .inl gm))] [(mo, .inr (8, [.int z_fault, .int z_size, .ref m_row, .ref m_shelves, .ref m_many, .ref m_widths, .int (nI mL), .ref m_mark, .int z_shown, .ref m_shownMark, .int z_wasRun, .int wL, .int z_ended, .int (nI sp), .int z_hints, .int z_hasWidth, .int z_width, .int z_first, .int z_moved, .int z_deepest, .int xL, .int yL, .int (nI t), .ref m_stack, .ref m_places, .int (nI d), .ref m_kinds, .ref m_ats, .ref m_ends])), (m_mark, .inl (cI, 28000, .inl gm))] [(m_stack, .inl (cI, 48, .inl g_stack))] [0, 2] [1] := ⟨rfl, rfl, rfl, rfl, by decide⟩
                  refine goV0 (trV (As := [.int (g_stack i), .int 0]) (rest := []) ⟨hx, hb, hml, hown, hts⟩ gd_good (c_Mo_line l D cB cI cJ mo m_row m_shelves m_many m_widths m_mark m_shownMark m_stack m_places m_kinds m_ats m_ends mL sp t d z_fault z_size z_shown z_wasRun wL z_ended z_hints z_hasWidth z_width z_first z_moved z_deepest xL yL gm (g_stack i) 0 (by omega) ) cal_Mo_line ml_Mo_166 ⟨Nat.le_of_ble_eq_true rfl, Nat.le_of_ble_eq_true rfl⟩ hZ hP hD hC 0 (ci := 8) rfl rfl rfl rfl hl.1 rfl (Nat.le_of_ble_eq_true rfl) d_Mo_turns_87 ⟨Nat.le_of_ble_eq_true rfl, Nat.le_of_ble_eq_true rfl⟩) hZ hP hD hS hC (fun w1 H locs hq hP hD hS => ?_)
                  obtain ⟨z_x_12, z_y_12, z_wrong_12, mk_12, g_mark_12, rfl, hv_12⟩ := hq
                  have hP : va_P D classes [(m_stack, .inl (cI, 48, .inl g_stack)), (mo, .inr (8, [.int z_fault, .int z_size, .ref m_row, .ref m_shelves, .ref m_many, .ref m_widths, .int (nI mk_12), .ref m_mark, .int z_shown, .ref m_shownMark, .int z_wasRun, .int z_wrong_12, .int z_ended, .int (nI sp), .int z_hints, .int z_hasWidth, .int z_width, .int z_first, .int z_moved, .int z_deepest, .int z_x_12, .int z_y_12, .int (nI t), .ref m_stack, .ref m_places, .int (nI d), .ref m_kinds, .ref m_ats, .ref m_ends])), (m_mark, .inl (cI, 28000, .inl g_mark_12))] H := hP
                  have hD : va_D A_ [(m_stack, .inl (cI, 48, .inl g_stack)), (mo, .inr (8, [.int z_fault, .int z_size, .ref m_row, .ref m_shelves, .ref m_many, .ref m_widths, .int (nI mk_12), .ref m_mark, .int z_shown, .ref m_shownMark, .int z_wasRun, .int z_wrong_12, .int z_ended, .int (nI sp), .int z_hints, .int z_hasWidth, .int z_width, .int z_first, .int z_moved, .int z_deepest, .int z_x_12, .int z_y_12, .int (nI t), .ref m_stack, .ref m_places, .int (nI d), .ref m_kinds, .ref m_ats, .ref m_ends])), (m_mark, .inl (cI, 28000, .inl g_mark_12))] := hD
                  refine lv_iinc (v := nI (i + 1)) (lv' := [(2, .int (nI (i + 1))), (3, .int 1), (0, .ref mo), (1, .int c)]) hx hb d_Mo_turns_90 hl (k := 3) rfl (nI_add i 1) (by decide) rfl (fun ls hl => ?_)
                  refine lv_goto (tgt := 22) hx hb d_Mo_turns_93 (by decide) ?_
                  exact ih_22  (i + 1) z_x_12 z_y_12 z_wrong_12 mk_12 g_mark_12 _ _ _ ⟨by omega, by omega⟩ (by omega) (hP.subm [1, 0, 2] rfl) (hD.sub [1, 0, 2] rfl rfl) hS (lv_sub hl [2, 3, 0] rfl)
              · have n_40 : (i % 2) = (0) := (nI_eq (a := i % 2) (b := 0) (by omega) (by omega)).mp c_40
                refine lv_iconst (v := 1) hx hb d_Mo_turns_43 (by decide) ?_
                refine lv_goto (tgt := 48) hx hb d_Mo_turns_44 (by decide) ?_
                refine lv_iload_n hx hb d_Mo_turns_48 rfl (lv_at hl 1 rfl) ?_
                refine lv_icmp_ne (tgt := 56) hx hb d_Mo_turns_49 (by decide) (fun c_49 => ?_) (fun c_49 => ?_)
                · refine lv_iconst (v := 0) hx hb d_Mo_turns_56 (by decide) ?_
                  refine lv_istore_n (lv' := [(3, .int 0), (0, .ref mo), (1, .int c), (2, .int (nI i))]) hx hb d_Mo_turns_57 rfl hl (by decide) rfl (fun ls hl => ?_)
                  refine lv_aload_n hx hb d_Mo_turns_58 rfl (lv_at hl 1 rfl) ?_
                  refine lv_iload_n hx hb d_Mo_turns_59 rfl (lv_at hl 0 rfl) ?_
                  refine lv_if_eq (tgt := 72) hx hb d_Mo_turns_60 (by decide) (fun c_60 => ?_) (fun c_60 => absurd (by decide) c_60)
                  clear c_60
                  refine lv_iconst (v := 0) hx hb d_Mo_turns_72 (by decide) ?_
                  refine lv_iload_n hx hb d_Mo_turns_73 rfl (lv_at hl 0 rfl) ?_
                  refine lv_if_eq (tgt := 81) hx hb d_Mo_turns_74 (by decide) (fun c_74 => ?_) (fun c_74 => absurd (by decide) c_74)
                  clear c_74
                  refine lv_aload_n hx hb d_Mo_turns_81 rfl (lv_at hl 1 rfl) ?_
                  refine va_get (D := D) (ci := 8) (v := .ref m_stack) (C := R_Mo) (T := F_Mo) (N := 29) hx hb hts i_Mo hown hZ.1 hP 0 rfl rfl 23 (by decide) (hts _ fl_Mo_29) (fun _ h9 => h9) rfl d_Mo_turns_82 ?_
                  refine lv_iload_n hx hb d_Mo_turns_85 rfl (lv_at hl 3 rfl) ?_
                  refine va_iald hx hb hZ.1 hP 1 1 rfl rfl (vp_in_nI (by omega) (by omega)) d_Mo_turns_86 ?_
                  refine lv_tv (y := g_stack i) (by rw [nI_clamp (by omega)]) ?_
                  have hC : Cut [(mo, .inr (8, [.int z_fault, .int z_size, .ref m_row, .ref m_shelves, .ref m_many, .ref m_widths, .int (nI mL), .ref m_mark, .int z_shown, .ref m_shownMark, .int z_wasRun, .int wL, .int z_ended, .int (nI sp), .int z_hints, .int z_hasWidth, .int z_width, .int z_first, .int z_moved, .int z_deepest, .int xL, .int yL, .int (nI t), .ref m_stack, .ref m_places, .int (nI d), .ref m_kinds, .ref m_ats, .ref m_ends])), (m_stack, .inl (cI, 48, .inl g_stack)), (m_mark, .inl (cI, 28000, .inl gm))] [(mo, .inr (8, [.int z_fault, .int z_size, .ref m_row, .ref m_shelves, .ref m_many, .ref m_widths, .int (nI mL), .ref m_mark, .int z_shown, .ref m_shownMark, .int z_wasRun, .int wL, .int z_ended, .int (nI sp), .int z_hints, .int z_hasWidth, .int z_width, .int z_first, .int z_moved, .int z_deepest, .int xL, .int yL, .int (nI t), .ref m_stack, .ref m_places, .int (nI d), .ref m_kinds, .ref m_ats, .ref m_ends])), (m_mark, .inl (cI, 28000, .inl gm))] [(m_stack, .inl (cI, 48, .inl g_stack))] [0, 2] [1] := ⟨rfl, rfl, rfl, rfl, by decide⟩
                  refine goV0 (trV (As := [.int 0, .int (g_stack i)]) (rest := []) ⟨hx, hb, hml, hown, hts⟩ gd_good (c_Mo_line l D cB cI cJ mo m_row m_shelves m_many m_widths m_mark m_shownMark m_stack m_places m_kinds m_ats m_ends mL sp t d z_fault z_size z_shown z_wasRun wL z_ended z_hints z_hasWidth z_width z_first z_moved z_deepest xL yL gm 0 (g_stack i) (by omega) ) cal_Mo_line ml_Mo_166 ⟨Nat.le_of_ble_eq_true rfl, Nat.le_of_ble_eq_true rfl⟩ hZ hP hD hC 0 (ci := 8) rfl rfl rfl rfl hl.1 rfl (Nat.le_of_ble_eq_true rfl) d_Mo_turns_87 ⟨Nat.le_of_ble_eq_true rfl, Nat.le_of_ble_eq_true rfl⟩) hZ hP hD hS hC (fun w1 H locs hq hP hD hS => ?_)
                  obtain ⟨z_x_13, z_y_13, z_wrong_13, mk_13, g_mark_13, rfl, hv_13⟩ := hq
                  have hP : va_P D classes [(m_stack, .inl (cI, 48, .inl g_stack)), (mo, .inr (8, [.int z_fault, .int z_size, .ref m_row, .ref m_shelves, .ref m_many, .ref m_widths, .int (nI mk_13), .ref m_mark, .int z_shown, .ref m_shownMark, .int z_wasRun, .int z_wrong_13, .int z_ended, .int (nI sp), .int z_hints, .int z_hasWidth, .int z_width, .int z_first, .int z_moved, .int z_deepest, .int z_x_13, .int z_y_13, .int (nI t), .ref m_stack, .ref m_places, .int (nI d), .ref m_kinds, .ref m_ats, .ref m_ends])), (m_mark, .inl (cI, 28000, .inl g_mark_13))] H := hP
                  have hD : va_D A_ [(m_stack, .inl (cI, 48, .inl g_stack)), (mo, .inr (8, [.int z_fault, .int z_size, .ref m_row, .ref m_shelves, .ref m_many, .ref m_widths, .int (nI mk_13), .ref m_mark, .int z_shown, .ref m_shownMark, .int z_wasRun, .int z_wrong_13, .int z_ended, .int (nI sp), .int z_hints, .int z_hasWidth, .int z_width, .int z_first, .int z_moved, .int z_deepest, .int z_x_13, .int z_y_13, .int (nI t), .ref m_stack, .ref m_places, .int (nI d), .ref m_kinds, .ref m_ats, .ref m_ends])), (m_mark, .inl (cI, 28000, .inl g_mark_13))] := hD
                  refine lv_iinc (v := nI (i + 1)) (lv' := [(2, .int (nI (i + 1))), (3, .int 0), (0, .ref mo), (1, .int c)]) hx hb d_Mo_turns_90 hl (k := 3) rfl (nI_add i 1) (by decide) rfl (fun ls hl => ?_)
                  refine lv_goto (tgt := 22) hx hb d_Mo_turns_93 (by decide) ?_
                  exact ih_22  (i + 1) z_x_13 z_y_13 z_wrong_13 mk_13 g_mark_13 _ _ _ ⟨by omega, by omega⟩ (by omega) (hP.subm [1, 0, 2] rfl) (hD.sub [1, 0, 2] rfl rfl) hS (lv_sub hl [2, 3, 0] rfl)
                · refine lv_iconst (v := 1) hx hb d_Mo_turns_52 (by decide) ?_
                  refine lv_goto (tgt := 57) hx hb d_Mo_turns_53 (by decide) ?_
                  refine lv_istore_n (lv' := [(3, .int 1), (0, .ref mo), (1, .int c), (2, .int (nI i))]) hx hb d_Mo_turns_57 rfl hl (by decide) rfl (fun ls hl => ?_)
                  refine lv_aload_n hx hb d_Mo_turns_58 rfl (lv_at hl 1 rfl) ?_
                  refine lv_iload_n hx hb d_Mo_turns_59 rfl (lv_at hl 0 rfl) ?_
                  refine lv_if_eq (tgt := 72) hx hb d_Mo_turns_60 (by decide) (fun c_60 => absurd c_60 (by decide)) (fun c_60 => ?_)
                  clear c_60
                  refine lv_aload_n hx hb d_Mo_turns_63 rfl (lv_at hl 1 rfl) ?_
                  refine va_get (D := D) (ci := 8) (v := .ref m_stack) (C := R_Mo) (T := F_Mo) (N := 29) hx hb hts i_Mo hown hZ.1 hP 0 rfl rfl 23 (by decide) (hts _ fl_Mo_29) (fun _ h9 => h9) rfl d_Mo_turns_64 ?_
                  refine lv_iload_n hx hb d_Mo_turns_67 rfl (lv_at hl 3 rfl) ?_
                  refine va_iald hx hb hZ.1 hP 1 1 rfl rfl (vp_in_nI (by omega) (by omega)) d_Mo_turns_68 ?_
                  refine lv_tv (y := g_stack i) (by rw [nI_clamp (by omega)]) ?_
                  refine lv_goto (tgt := 73) hx hb d_Mo_turns_69 (by decide) ?_
                  refine lv_iload_n hx hb d_Mo_turns_73 rfl (lv_at hl 0 rfl) ?_
                  refine lv_if_eq (tgt := 81) hx hb d_Mo_turns_74 (by decide) (fun c_74 => absurd c_74 (by decide)) (fun c_74 => ?_)
                  clear c_74
                  refine lv_iconst (v := 0) hx hb d_Mo_turns_77 (by decide) ?_
                  refine lv_goto (tgt := 87) hx hb d_Mo_turns_78 (by decide) ?_
                  have hC : Cut [(mo, .inr (8, [.int z_fault, .int z_size, .ref m_row, .ref m_shelves, .ref m_many, .ref m_widths, .int (nI mL), .ref m_mark, .int z_shown, .ref m_shownMark, .int z_wasRun, .int wL, .int z_ended, .int (nI sp), .int z_hints, .int z_hasWidth, .int z_width, .int z_first, .int z_moved, .int z_deepest, .int xL, .int yL, .int (nI t), .ref m_stack, .ref m_places, .int (nI d), .ref m_kinds, .ref m_ats, .ref m_ends])), (m_stack, .inl (cI, 48, .inl g_stack)), (m_mark, .inl (cI, 28000, .inl gm))] [(mo, .inr (8, [.int z_fault, .int z_size, .ref m_row, .ref m_shelves, .ref m_many, .ref m_widths, .int (nI mL), .ref m_mark, .int z_shown, .ref m_shownMark, .int z_wasRun, .int wL, .int z_ended, .int (nI sp), .int z_hints, .int z_hasWidth, .int z_width, .int z_first, .int z_moved, .int z_deepest, .int xL, .int yL, .int (nI t), .ref m_stack, .ref m_places, .int (nI d), .ref m_kinds, .ref m_ats, .ref m_ends])), (m_mark, .inl (cI, 28000, .inl gm))] [(m_stack, .inl (cI, 48, .inl g_stack))] [0, 2] [1] := ⟨rfl, rfl, rfl, rfl, by decide⟩
                  refine goV0 (trV (As := [.int (g_stack i), .int 0]) (rest := []) ⟨hx, hb, hml, hown, hts⟩ gd_good (c_Mo_line l D cB cI cJ mo m_row m_shelves m_many m_widths m_mark m_shownMark m_stack m_places m_kinds m_ats m_ends mL sp t d z_fault z_size z_shown z_wasRun wL z_ended z_hints z_hasWidth z_width z_first z_moved z_deepest xL yL gm (g_stack i) 0 (by omega) ) cal_Mo_line ml_Mo_166 ⟨Nat.le_of_ble_eq_true rfl, Nat.le_of_ble_eq_true rfl⟩ hZ hP hD hC 0 (ci := 8) rfl rfl rfl rfl hl.1 rfl (Nat.le_of_ble_eq_true rfl) d_Mo_turns_87 ⟨Nat.le_of_ble_eq_true rfl, Nat.le_of_ble_eq_true rfl⟩) hZ hP hD hS hC (fun w1 H locs hq hP hD hS => ?_)
                  obtain ⟨z_x_14, z_y_14, z_wrong_14, mk_14, g_mark_14, rfl, hv_14⟩ := hq
                  have hP : va_P D classes [(m_stack, .inl (cI, 48, .inl g_stack)), (mo, .inr (8, [.int z_fault, .int z_size, .ref m_row, .ref m_shelves, .ref m_many, .ref m_widths, .int (nI mk_14), .ref m_mark, .int z_shown, .ref m_shownMark, .int z_wasRun, .int z_wrong_14, .int z_ended, .int (nI sp), .int z_hints, .int z_hasWidth, .int z_width, .int z_first, .int z_moved, .int z_deepest, .int z_x_14, .int z_y_14, .int (nI t), .ref m_stack, .ref m_places, .int (nI d), .ref m_kinds, .ref m_ats, .ref m_ends])), (m_mark, .inl (cI, 28000, .inl g_mark_14))] H := hP
                  have hD : va_D A_ [(m_stack, .inl (cI, 48, .inl g_stack)), (mo, .inr (8, [.int z_fault, .int z_size, .ref m_row, .ref m_shelves, .ref m_many, .ref m_widths, .int (nI mk_14), .ref m_mark, .int z_shown, .ref m_shownMark, .int z_wasRun, .int z_wrong_14, .int z_ended, .int (nI sp), .int z_hints, .int z_hasWidth, .int z_width, .int z_first, .int z_moved, .int z_deepest, .int z_x_14, .int z_y_14, .int (nI t), .ref m_stack, .ref m_places, .int (nI d), .ref m_kinds, .ref m_ats, .ref m_ends])), (m_mark, .inl (cI, 28000, .inl g_mark_14))] := hD
                  refine lv_iinc (v := nI (i + 1)) (lv' := [(2, .int (nI (i + 1))), (3, .int 1), (0, .ref mo), (1, .int c)]) hx hb d_Mo_turns_90 hl (k := 3) rfl (nI_add i 1) (by decide) rfl (fun ls hl => ?_)
                  refine lv_goto (tgt := 22) hx hb d_Mo_turns_93 (by decide) ?_
                  exact ih_22  (i + 1) z_x_14 z_y_14 z_wrong_14 mk_14 g_mark_14 _ _ _ ⟨by omega, by omega⟩ (by omega) (hP.subm [1, 0, 2] rfl) (hD.sub [1, 0, 2] rfl rfl) hS (lv_sub hl [2, 3, 0] rfl)
      exact lp_22 _ 0 z_x z_y z_wrong_8 mk g_mark _ _ _ ⟨by omega, by omega⟩ (Nat.lt_succ_self _) (hP.subm [2, 0, 1] rfl) (hD.sub [2, 0, 1] rfl rfl) hS (lv_sub hl [1, 2, 0] rfl)
set_option maxHeartbeats 1000000 in
set_option maxRecDepth 100000 in
theorem c_Mo_curves (l : Launch) (D : va_G) (cB cI cJ : ClassId) (mo m_row m_shelves m_many m_widths m_mark m_shownMark m_stack m_places m_kinds m_ats m_ends : Nat) (mk sp t d : Nat) (z_fault z_size z_shown z_wasRun z_wrong z_ended z_hints z_hasWidth z_width z_first z_moved z_deepest z_x z_y : Int32) (g_stack g_mark : Nat → Int32)  (hiv : t ≤ 48 ∧ d ≤ 10 ∧ mk ≤ 4000 ∧ sp ≤ 20000) : Tr l D classes (TY cB cI cJ) gd_tbl nx_tbl y_Mo_curves b_Mo_curves 2 none ({ frames := 4, cells := 0, slots := 0, locals := 98 }) [.ref mo] [(mo, .inr (8, [.int z_fault, .int z_size, .ref m_row, .ref m_shelves, .ref m_many, .ref m_widths, .int (nI mk), .ref m_mark, .int z_shown, .ref m_shownMark, .int z_wasRun, .int z_wrong, .int z_ended, .int (nI sp), .int z_hints, .int z_hasWidth, .int z_width, .int z_first, .int z_moved, .int z_deepest, .int z_x, .int z_y, .int (nI t), .ref m_stack, .ref m_places, .int (nI d), .ref m_kinds, .ref m_ats, .ref m_ends])), (m_stack, .inl (cI, 48, .inl g_stack)), (m_mark, .inl (cI, 28000, .inl g_mark))] (pV0 (fun w => ∃ (z_x' : Int32) (z_y' : Int32) (z_wrong' : Int32) (mk' : Nat) (t' : Nat) (g_mark' : Nat → Int32), w = [(mo, .inr (8, [.int z_fault, .int z_size, .ref m_row, .ref m_shelves, .ref m_many, .ref m_widths, .int (nI mk'), .ref m_mark, .int z_shown, .ref m_shownMark, .int z_wasRun, .int z_wrong', .int z_ended, .int (nI sp), .int z_hints, .int z_hasWidth, .int z_width, .int z_first, .int z_moved, .int z_deepest, .int z_x', .int z_y', .int (nI t'), .ref m_stack, .ref m_places, .int (nI d), .ref m_kinds, .ref m_ats, .ref m_ends])), (m_stack, .inl (cI, 48, .inl g_stack)), (m_mark, .inl (cI, 28000, .inl g_mark'))] ∧ (t' ≤ 48 ∧ d ≤ 10 ∧ mk' ≤ 4000 ∧ sp ≤ 20000))) := by
  refine Tr.intro (by decide +kernel) nx_ok (Nat.le_of_ble_eq_true rfl) ?_
  intro p_ e_ s_ m_ args_ below_ meth_ c_ A_ ls hx hb hml hown hts hr hlk hnm hZ hP hD hS hl
  have hl : lv_has ls 2 [(0, .ref mo)] := hl
  refine lv_aload_n hx hb d_Mo_curves_0 rfl (lv_at hl 0 rfl) ?_
  refine lv_aload_n hx hb d_Mo_curves_1 rfl (lv_at hl 0 rfl) ?_
  refine va_get (D := D) (ci := 8) (v := .int (nI t)) (C := R_Mo) (T := F_Mo) (N := 29) hx hb hts i_Mo hown hZ.1 hP 0 rfl rfl 22 (by decide) (hts _ fl_Mo_82) (fun _ h9 => h9) rfl d_Mo_curves_2 ?_
  refine lv_bipush (v := 6) hx hb d_Mo_curves_5 (by decide) ?_
  refine lv_icmp_lt (tgt := 24) hx hb d_Mo_curves_7 (by decide) (fun c_7 => ?_) (fun c_7 => ?_)
  · have n_7 : (t) < (6) := (nI_ltI (a := t) (b := 6) (by omega) (by omega)).mp c_7
    refine lv_iconst (v := 0) hx hb d_Mo_curves_24 (by decide) ?_
    have hC : Cut [(mo, .inr (8, [.int z_fault, .int z_size, .ref m_row, .ref m_shelves, .ref m_many, .ref m_widths, .int (nI mk), .ref m_mark, .int z_shown, .ref m_shownMark, .int z_wasRun, .int z_wrong, .int z_ended, .int (nI sp), .int z_hints, .int z_hasWidth, .int z_width, .int z_first, .int z_moved, .int z_deepest, .int z_x, .int z_y, .int (nI t), .ref m_stack, .ref m_places, .int (nI d), .ref m_kinds, .ref m_ats, .ref m_ends])), (m_stack, .inl (cI, 48, .inl g_stack)), (m_mark, .inl (cI, 28000, .inl g_mark))] [(mo, .inr (8, [.int z_fault, .int z_size, .ref m_row, .ref m_shelves, .ref m_many, .ref m_widths, .int (nI mk), .ref m_mark, .int z_shown, .ref m_shownMark, .int z_wasRun, .int z_wrong, .int z_ended, .int (nI sp), .int z_hints, .int z_hasWidth, .int z_width, .int z_first, .int z_moved, .int z_deepest, .int z_x, .int z_y, .int (nI t), .ref m_stack, .ref m_places, .int (nI d), .ref m_kinds, .ref m_ats, .ref m_ends]))] [(m_stack, .inl (cI, 48, .inl g_stack)), (m_mark, .inl (cI, 28000, .inl g_mark))] [0] [1, 2] := ⟨rfl, rfl, rfl, rfl, by decide⟩
    refine goI0 (trV (As := [.int 0]) (rest := []) ⟨hx, hb, hml, hown, hts⟩ gd_good (c_Mo_may l D cB cI cJ mo m_row m_shelves m_many m_widths m_mark m_shownMark m_stack m_places m_kinds m_ats m_ends mk sp t d z_fault z_size z_shown z_wasRun z_wrong z_ended z_hints z_hasWidth z_width z_first z_moved z_deepest z_x z_y 0 (by omega) ) cal_Mo_may ml_Mo_162 ⟨Nat.le_of_ble_eq_true rfl, Nat.le_of_ble_eq_true rfl⟩ hZ hP hD hC 0 (ci := 8) rfl rfl rfl rfl hl.1 rfl (Nat.le_of_ble_eq_true rfl) d_Mo_curves_25 ⟨Nat.le_of_ble_eq_true rfl, Nat.le_of_ble_eq_true rfl⟩) hZ hP hD hS hC (fun r_25 w1 H locs hq hP hD hS => ?_)
    obtain ⟨z_wrong_1, rfl, hv_1, hx_1, hz_1⟩ := hq
    have hP : va_P D classes [(m_stack, .inl (cI, 48, .inl g_stack)), (m_mark, .inl (cI, 28000, .inl g_mark)), (mo, .inr (8, [.int z_fault, .int z_size, .ref m_row, .ref m_shelves, .ref m_many, .ref m_widths, .int (nI mk), .ref m_mark, .int z_shown, .ref m_shownMark, .int z_wasRun, .int z_wrong_1, .int z_ended, .int (nI sp), .int z_hints, .int z_hasWidth, .int z_width, .int z_first, .int z_moved, .int z_deepest, .int z_x, .int z_y, .int (nI t), .ref m_stack, .ref m_places, .int (nI d), .ref m_kinds, .ref m_ats, .ref m_ends]))] H := hP
    have hD : va_D A_ [(m_stack, .inl (cI, 48, .inl g_stack)), (m_mark, .inl (cI, 28000, .inl g_mark)), (mo, .inr (8, [.int z_fault, .int z_size, .ref m_row, .ref m_shelves, .ref m_many, .ref m_widths, .int (nI mk), .ref m_mark, .int z_shown, .ref m_shownMark, .int z_wasRun, .int z_wrong_1, .int z_ended, .int (nI sp), .int z_hints, .int z_hasWidth, .int z_width, .int z_first, .int z_moved, .int z_deepest, .int z_x, .int z_y, .int (nI t), .ref m_stack, .ref m_places, .int (nI d), .ref m_kinds, .ref m_ats, .ref m_ends]))] := hD
    refine lv_if_eq (tgt := 63) hx hb d_Mo_curves_28 (by decide) (fun c_28 => ?_) (fun c_28 => ?_)
    · exact t_vret hx hb hr hlk d_Mo_curves_63 (hP.subm (ws' := [(mo, .inr (8, [.int z_fault, .int z_size, .ref m_row, .ref m_shelves, .ref m_many, .ref m_widths, .int (nI mk), .ref m_mark, .int z_shown, .ref m_shownMark, .int z_wasRun, .int z_wrong_1, .int z_ended, .int (nI sp), .int z_hints, .int z_hasWidth, .int z_width, .int z_first, .int z_moved, .int z_deepest, .int z_x, .int z_y, .int (nI t), .ref m_stack, .ref m_places, .int (nI d), .ref m_kinds, .ref m_ats, .ref m_ends])), (m_stack, .inl (cI, 48, .inl g_stack)), (m_mark, .inl (cI, 28000, .inl g_mark))]) [2, 0, 1] rfl) (hD.sub (ws' := [(mo, .inr (8, [.int z_fault, .int z_size, .ref m_row, .ref m_shelves, .ref m_many, .ref m_widths, .int (nI mk), .ref m_mark, .int z_shown, .ref m_shownMark, .int z_wasRun, .int z_wrong_1, .int z_ended, .int (nI sp), .int z_hints, .int z_hasWidth, .int z_width, .int z_first, .int z_moved, .int z_deepest, .int z_x, .int z_y, .int (nI t), .ref m_stack, .ref m_places, .int (nI d), .ref m_kinds, .ref m_ats, .ref m_ends])), (m_stack, .inl (cI, 48, .inl g_stack)), (m_mark, .inl (cI, 28000, .inl g_mark))]) [2, 0, 1] rfl rfl) hS ⟨rfl, rfl, rfl, _, _, _, mk, t, _, rfl, (by omega)⟩
    · refine lv_iconst (v := 0) hx hb d_Mo_curves_31 (by decide) ?_
      refine lv_istore_n (lv' := [(1, .int 0), (0, .ref mo)]) hx hb d_Mo_curves_32 rfl hl (by decide) rfl (fun ls hl => ?_)
      have lp_33 : ∀ (fu : Nat) (i : Nat) (xL : Int32) (yL : Int32) (wL : Int32) (mL : Nat) (gm : Nat → Int32) (H : Heap) (locs : List Loc) (ls : Array Slot), (mL ≤ 4000 ∧ i ≤ 60 ∧ i % 6 = 0) → (70 - i) < fu → va_P D classes [(mo, .inr (8, [.int z_fault, .int z_size, .ref m_row, .ref m_shelves, .ref m_many, .ref m_widths, .int (nI mL), .ref m_mark, .int z_shown, .ref m_shownMark, .int z_wasRun, .int wL, .int z_ended, .int (nI sp), .int z_hints, .int z_hasWidth, .int z_width, .int z_first, .int z_moved, .int z_deepest, .int xL, .int yL, .int (nI t), .ref m_stack, .ref m_places, .int (nI d), .ref m_kinds, .ref m_ats, .ref m_ends])), (m_stack, .inl (cI, 48, .inl g_stack)), (m_mark, .inl (cI, 28000, .inl gm))] H → va_D A_ [(mo, .inr (8, [.int z_fault, .int z_size, .ref m_row, .ref m_shelves, .ref m_many, .ref m_widths, .int (nI mL), .ref m_mark, .int z_shown, .ref m_shownMark, .int z_wasRun, .int wL, .int z_ended, .int (nI sp), .int z_hints, .int z_hasWidth, .int z_width, .int z_first, .int z_moved, .int z_deepest, .int xL, .int yL, .int (nI t), .ref m_stack, .ref m_places, .int (nI d), .ref m_kinds, .ref m_ats, .ref m_ends])), (m_stack, .inl (cI, 48, .inl g_stack)), (m_mark, .inl (cI, 28000, .inl gm))] → va_S A_ s_.heap H locs → lv_has ls 2 [(0, .ref mo), (1, .int (nI i))] → W p_ l e_ ({ frames := 4, cells := 0, slots := 0, locals := 98 }) s_ m_ args_ below_ meth_ c_ H locs (0) (0) (MQT below_ D classes A_ (pV0 (fun w => ∃ (z_x' : Int32) (z_y' : Int32) (z_wrong' : Int32) (mk' : Nat) (t' : Nat) (g_mark' : Nat → Int32), w = [(mo, .inr (8, [.int z_fault, .int z_size, .ref m_row, .ref m_shelves, .ref m_many, .ref m_widths, .int (nI mk'), .ref m_mark, .int z_shown, .ref m_shownMark, .int z_wasRun, .int z_wrong', .int z_ended, .int (nI sp), .int z_hints, .int z_hasWidth, .int z_width, .int z_first, .int z_moved, .int z_deepest, .int z_x', .int z_y', .int (nI t'), .ref m_stack, .ref m_places, .int (nI d), .ref m_kinds, .ref m_ats, .ref m_ends])), (m_stack, .inl (cI, 48, .inl g_stack)), (m_mark, .inl (cI, 28000, .inl g_mark'))] ∧ (t' ≤ 48 ∧ d ≤ 10 ∧ mk' ≤ 4000 ∧ sp ≤ 20000))) s_) (F0 m_ 33 ls []) := by
        intro fu
        induction fu with
        | zero => intro i xL yL wL mL gm H locs ls hinv hfu; exact absurd hfu (Nat.not_lt_zero _)
        | succ fu ih_33 =>
          intro i xL yL wL mL gm H locs ls hinv hfu hP hD hS hl
          obtain ⟨hmL, hi1, hi2⟩ := hinv
          refine lv_iload_n hx hb d_Mo_curves_33 rfl (lv_at hl 1 rfl) ?_
          refine lv_aload_n hx hb d_Mo_curves_34 rfl (lv_at hl 0 rfl) ?_
          refine va_get (D := D) (ci := 8) (v := .int (nI t)) (C := R_Mo) (T := F_Mo) (N := 29) hx hb hts i_Mo hown hZ.1 hP 0 rfl rfl 22 (by decide) (hts _ fl_Mo_82) (fun _ h9 => h9) rfl d_Mo_curves_35 ?_
          refine lv_icmp_ge (tgt := 59) hx hb d_Mo_curves_38 (by decide) (fun c_38 => ?_) (fun c_38 => ?_)
          · have n_38 : (t) ≤ (i) := (nI_leI (a := t) (b := i) (by omega) (by omega)).mp c_38
            refine lv_aload_n hx hb d_Mo_curves_59 rfl (lv_at hl 0 rfl) ?_
            have hC : Cut [(mo, .inr (8, [.int z_fault, .int z_size, .ref m_row, .ref m_shelves, .ref m_many, .ref m_widths, .int (nI mL), .ref m_mark, .int z_shown, .ref m_shownMark, .int z_wasRun, .int wL, .int z_ended, .int (nI sp), .int z_hints, .int z_hasWidth, .int z_width, .int z_first, .int z_moved, .int z_deepest, .int xL, .int yL, .int (nI t), .ref m_stack, .ref m_places, .int (nI d), .ref m_kinds, .ref m_ats, .ref m_ends])), (m_stack, .inl (cI, 48, .inl g_stack)), (m_mark, .inl (cI, 28000, .inl gm))] [(mo, .inr (8, [.int z_fault, .int z_size, .ref m_row, .ref m_shelves, .ref m_many, .ref m_widths, .int (nI mL), .ref m_mark, .int z_shown, .ref m_shownMark, .int z_wasRun, .int wL, .int z_ended, .int (nI sp), .int z_hints, .int z_hasWidth, .int z_width, .int z_first, .int z_moved, .int z_deepest, .int xL, .int yL, .int (nI t), .ref m_stack, .ref m_places, .int (nI d), .ref m_kinds, .ref m_ats, .ref m_ends]))] [(m_stack, .inl (cI, 48, .inl g_stack)), (m_mark, .inl (cI, 28000, .inl gm))] [0] [1, 2] := ⟨rfl, rfl, rfl, rfl, by decide⟩
            refine goV0 (trV (As := []) (rest := []) ⟨hx, hb, hml, hown, hts⟩ gd_good (c_Mo_take_V l D cB cI cJ mo m_row m_shelves m_many m_widths m_mark m_shownMark m_stack m_places m_kinds m_ats m_ends mL sp t d z_fault z_size z_shown z_wasRun wL z_ended z_hints z_hasWidth z_width z_first z_moved z_deepest xL yL (by omega) ) cal_Mo_take_V ml_Mo_155 ⟨Nat.le_of_ble_eq_true rfl, Nat.le_of_ble_eq_true rfl⟩ hZ hP hD hC 0 (ci := 8) rfl rfl rfl rfl hl.1 rfl (Nat.le_of_ble_eq_true rfl) d_Mo_curves_60 ⟨Nat.le_of_ble_eq_true rfl, Nat.le_of_ble_eq_true rfl⟩) hZ hP hD hS hC (fun w1 H locs hq hP hD hS => ?_)
            obtain ⟨t_2, rfl, hv_2⟩ := hq
            have hP : va_P D classes [(m_stack, .inl (cI, 48, .inl g_stack)), (m_mark, .inl (cI, 28000, .inl gm)), (mo, .inr (8, [.int z_fault, .int z_size, .ref m_row, .ref m_shelves, .ref m_many, .ref m_widths, .int (nI mL), .ref m_mark, .int z_shown, .ref m_shownMark, .int z_wasRun, .int wL, .int z_ended, .int (nI sp), .int z_hints, .int z_hasWidth, .int z_width, .int z_first, .int z_moved, .int z_deepest, .int xL, .int yL, .int (nI t_2), .ref m_stack, .ref m_places, .int (nI d), .ref m_kinds, .ref m_ats, .ref m_ends]))] H := hP
            have hD : va_D A_ [(m_stack, .inl (cI, 48, .inl g_stack)), (m_mark, .inl (cI, 28000, .inl gm)), (mo, .inr (8, [.int z_fault, .int z_size, .ref m_row, .ref m_shelves, .ref m_many, .ref m_widths, .int (nI mL), .ref m_mark, .int z_shown, .ref m_shownMark, .int z_wasRun, .int wL, .int z_ended, .int (nI sp), .int z_hints, .int z_hasWidth, .int z_width, .int z_first, .int z_moved, .int z_deepest, .int xL, .int yL, .int (nI t_2), .ref m_stack, .ref m_places, .int (nI d), .ref m_kinds, .ref m_ats, .ref m_ends]))] := hD
            exact t_vret hx hb hr hlk d_Mo_curves_63 (hP.subm (ws' := [(mo, .inr (8, [.int z_fault, .int z_size, .ref m_row, .ref m_shelves, .ref m_many, .ref m_widths, .int (nI mL), .ref m_mark, .int z_shown, .ref m_shownMark, .int z_wasRun, .int wL, .int z_ended, .int (nI sp), .int z_hints, .int z_hasWidth, .int z_width, .int z_first, .int z_moved, .int z_deepest, .int xL, .int yL, .int (nI t_2), .ref m_stack, .ref m_places, .int (nI d), .ref m_kinds, .ref m_ats, .ref m_ends])), (m_stack, .inl (cI, 48, .inl g_stack)), (m_mark, .inl (cI, 28000, .inl gm))]) [2, 0, 1] rfl) (hD.sub (ws' := [(mo, .inr (8, [.int z_fault, .int z_size, .ref m_row, .ref m_shelves, .ref m_many, .ref m_widths, .int (nI mL), .ref m_mark, .int z_shown, .ref m_shownMark, .int z_wasRun, .int wL, .int z_ended, .int (nI sp), .int z_hints, .int z_hasWidth, .int z_width, .int z_first, .int z_moved, .int z_deepest, .int xL, .int yL, .int (nI t_2), .ref m_stack, .ref m_places, .int (nI d), .ref m_kinds, .ref m_ats, .ref m_ends])), (m_stack, .inl (cI, 48, .inl g_stack)), (m_mark, .inl (cI, 28000, .inl gm))]) [2, 0, 1] rfl rfl) hS ⟨rfl, rfl, rfl, _, _, _, mL, t_2, _, rfl, (by omega)⟩
          · have n_38 : ¬ (t) ≤ (i) := fun z => c_38 ((nI_leI (a := t) (b := i) (by omega) (by omega)).mpr z)
            refine lv_aload_n hx hb d_Mo_curves_41 rfl (lv_at hl 0 rfl) ?_
            refine va_get (D := D) (ci := 8) (v := .int wL) (C := R_Mo) (T := F_Mo) (N := 29) hx hb hts i_Mo hown hZ.1 hP 0 rfl rfl 11 (by decide) (hts _ fl_Mo_75) (fun _ h9 => h9) rfl d_Mo_curves_42 ?_
            refine lv_if_ne (tgt := 59) hx hb d_Mo_curves_45 (by decide) (fun c_45 => ?_) (fun c_45 => ?_)
            · refine lv_aload_n hx hb d_Mo_curves_59 rfl (lv_at hl 0 rfl) ?_
              have hC : Cut [(mo, .inr (8, [.int z_fault, .int z_size, .ref m_row, .ref m_shelves, .ref m_many, .ref m_widths, .int (nI mL), .ref m_mark, .int z_shown, .ref m_shownMark, .int z_wasRun, .int wL, .int z_ended, .int (nI sp), .int z_hints, .int z_hasWidth, .int z_width, .int z_first, .int z_moved, .int z_deepest, .int xL, .int yL, .int (nI t), .ref m_stack, .ref m_places, .int (nI d), .ref m_kinds, .ref m_ats, .ref m_ends])), (m_stack, .inl (cI, 48, .inl g_stack)), (m_mark, .inl (cI, 28000, .inl gm))] [(mo, .inr (8, [.int z_fault, .int z_size, .ref m_row, .ref m_shelves, .ref m_many, .ref m_widths, .int (nI mL), .ref m_mark, .int z_shown, .ref m_shownMark, .int z_wasRun, .int wL, .int z_ended, .int (nI sp), .int z_hints, .int z_hasWidth, .int z_width, .int z_first, .int z_moved, .int z_deepest, .int xL, .int yL, .int (nI t), .ref m_stack, .ref m_places, .int (nI d), .ref m_kinds, .ref m_ats, .ref m_ends]))] [(m_stack, .inl (cI, 48, .inl g_stack)), (m_mark, .inl (cI, 28000, .inl gm))] [0] [1, 2] := ⟨rfl, rfl, rfl, rfl, by decide⟩
              refine goV0 (trV (As := []) (rest := []) ⟨hx, hb, hml, hown, hts⟩ gd_good (c_Mo_take_V l D cB cI cJ mo m_row m_shelves m_many m_widths m_mark m_shownMark m_stack m_places m_kinds m_ats m_ends mL sp t d z_fault z_size z_shown z_wasRun wL z_ended z_hints z_hasWidth z_width z_first z_moved z_deepest xL yL (by omega) ) cal_Mo_take_V ml_Mo_155 ⟨Nat.le_of_ble_eq_true rfl, Nat.le_of_ble_eq_true rfl⟩ hZ hP hD hC 0 (ci := 8) rfl rfl rfl rfl hl.1 rfl (Nat.le_of_ble_eq_true rfl) d_Mo_curves_60 ⟨Nat.le_of_ble_eq_true rfl, Nat.le_of_ble_eq_true rfl⟩) hZ hP hD hS hC (fun w1 H locs hq hP hD hS => ?_)
              obtain ⟨t_3, rfl, hv_3⟩ := hq
              have hP : va_P D classes [(m_stack, .inl (cI, 48, .inl g_stack)), (m_mark, .inl (cI, 28000, .inl gm)), (mo, .inr (8, [.int z_fault, .int z_size, .ref m_row, .ref m_shelves, .ref m_many, .ref m_widths, .int (nI mL), .ref m_mark, .int z_shown, .ref m_shownMark, .int z_wasRun, .int wL, .int z_ended, .int (nI sp), .int z_hints, .int z_hasWidth, .int z_width, .int z_first, .int z_moved, .int z_deepest, .int xL, .int yL, .int (nI t_3), .ref m_stack, .ref m_places, .int (nI d), .ref m_kinds, .ref m_ats, .ref m_ends]))] H := hP
              have hD : va_D A_ [(m_stack, .inl (cI, 48, .inl g_stack)), (m_mark, .inl (cI, 28000, .inl gm)), (mo, .inr (8, [.int z_fault, .int z_size, .ref m_row, .ref m_shelves, .ref m_many, .ref m_widths, .int (nI mL), .ref m_mark, .int z_shown, .ref m_shownMark, .int z_wasRun, .int wL, .int z_ended, .int (nI sp), .int z_hints, .int z_hasWidth, .int z_width, .int z_first, .int z_moved, .int z_deepest, .int xL, .int yL, .int (nI t_3), .ref m_stack, .ref m_places, .int (nI d), .ref m_kinds, .ref m_ats, .ref m_ends]))] := hD
              exact t_vret hx hb hr hlk d_Mo_curves_63 (hP.subm (ws' := [(mo, .inr (8, [.int z_fault, .int z_size, .ref m_row, .ref m_shelves, .ref m_many, .ref m_widths, .int (nI mL), .ref m_mark, .int z_shown, .ref m_shownMark, .int z_wasRun, .int wL, .int z_ended, .int (nI sp), .int z_hints, .int z_hasWidth, .int z_width, .int z_first, .int z_moved, .int z_deepest, .int xL, .int yL, .int (nI t_3), .ref m_stack, .ref m_places, .int (nI d), .ref m_kinds, .ref m_ats, .ref m_ends])), (m_stack, .inl (cI, 48, .inl g_stack)), (m_mark, .inl (cI, 28000, .inl gm))]) [2, 0, 1] rfl) (hD.sub (ws' := [(mo, .inr (8, [.int z_fault, .int z_size, .ref m_row, .ref m_shelves, .ref m_many, .ref m_widths, .int (nI mL), .ref m_mark, .int z_shown, .ref m_shownMark, .int z_wasRun, .int wL, .int z_ended, .int (nI sp), .int z_hints, .int z_hasWidth, .int z_width, .int z_first, .int z_moved, .int z_deepest, .int xL, .int yL, .int (nI t_3), .ref m_stack, .ref m_places, .int (nI d), .ref m_kinds, .ref m_ats, .ref m_ends])), (m_stack, .inl (cI, 48, .inl g_stack)), (m_mark, .inl (cI, 28000, .inl gm))]) [2, 0, 1] rfl rfl) hS ⟨rfl, rfl, rfl, _, _, _, mL, t_3, _, rfl, (by omega)⟩
            · refine lv_aload_n hx hb d_Mo_curves_48 rfl (lv_at hl 0 rfl) ?_
              refine lv_iload_n hx hb d_Mo_curves_49 rfl (lv_at hl 1 rfl) ?_
              have hC : Cut [(mo, .inr (8, [.int z_fault, .int z_size, .ref m_row, .ref m_shelves, .ref m_many, .ref m_widths, .int (nI mL), .ref m_mark, .int z_shown, .ref m_shownMark, .int z_wasRun, .int wL, .int z_ended, .int (nI sp), .int z_hints, .int z_hasWidth, .int z_width, .int z_first, .int z_moved, .int z_deepest, .int xL, .int yL, .int (nI t), .ref m_stack, .ref m_places, .int (nI d), .ref m_kinds, .ref m_ats, .ref m_ends])), (m_stack, .inl (cI, 48, .inl g_stack)), (m_mark, .inl (cI, 28000, .inl gm))] [(mo, .inr (8, [.int z_fault, .int z_size, .ref m_row, .ref m_shelves, .ref m_many, .ref m_widths, .int (nI mL), .ref m_mark, .int z_shown, .ref m_shownMark, .int z_wasRun, .int wL, .int z_ended, .int (nI sp), .int z_hints, .int z_hasWidth, .int z_width, .int z_first, .int z_moved, .int z_deepest, .int xL, .int yL, .int (nI t), .ref m_stack, .ref m_places, .int (nI d), .ref m_kinds, .ref m_ats, .ref m_ends])), (m_stack, .inl (cI, 48, .inl g_stack)), (m_mark, .inl (cI, 28000, .inl gm))] [] [0, 1, 2] [] := ⟨rfl, rfl, rfl, rfl, by decide⟩
              refine goV0 (trV (As := [.int (nI i)]) (rest := []) ⟨hx, hb, hml, hown, hts⟩ gd_good (c_Mo_six l D cB cI cJ mo m_row m_shelves m_many m_widths m_mark m_shownMark m_stack m_places m_kinds m_ats m_ends mL sp t d z_fault z_size z_shown z_wasRun wL z_ended z_hints z_hasWidth z_width z_first z_moved z_deepest xL yL g_stack gm i (by omega) (by omega)) cal_Mo_six ml_Mo_169 ⟨Nat.le_of_ble_eq_true rfl, Nat.le_of_ble_eq_true rfl⟩ hZ hP hD hC 0 (ci := 8) rfl rfl rfl rfl hl.1 rfl (Nat.le_of_ble_eq_true rfl) d_Mo_curves_50 ⟨Nat.le_of_ble_eq_true rfl, Nat.le_of_ble_eq_true rfl⟩) hZ hP hD hS hC (fun w1 H locs hq hP hD hS => ?_)
              obtain ⟨z_x_4, z_y_4, z_wrong_4, mk_4, g_mark_4, rfl, hv_4⟩ := hq
              have hP : va_P D classes [(mo, .inr (8, [.int z_fault, .int z_size, .ref m_row, .ref m_shelves, .ref m_many, .ref m_widths, .int (nI mk_4), .ref m_mark, .int z_shown, .ref m_shownMark, .int z_wasRun, .int z_wrong_4, .int z_ended, .int (nI sp), .int z_hints, .int z_hasWidth, .int z_width, .int z_first, .int z_moved, .int z_deepest, .int z_x_4, .int z_y_4, .int (nI t), .ref m_stack, .ref m_places, .int (nI d), .ref m_kinds, .ref m_ats, .ref m_ends])), (m_stack, .inl (cI, 48, .inl g_stack)), (m_mark, .inl (cI, 28000, .inl g_mark_4))] H := hP
              have hD : va_D A_ [(mo, .inr (8, [.int z_fault, .int z_size, .ref m_row, .ref m_shelves, .ref m_many, .ref m_widths, .int (nI mk_4), .ref m_mark, .int z_shown, .ref m_shownMark, .int z_wasRun, .int z_wrong_4, .int z_ended, .int (nI sp), .int z_hints, .int z_hasWidth, .int z_width, .int z_first, .int z_moved, .int z_deepest, .int z_x_4, .int z_y_4, .int (nI t), .ref m_stack, .ref m_places, .int (nI d), .ref m_kinds, .ref m_ats, .ref m_ends])), (m_stack, .inl (cI, 48, .inl g_stack)), (m_mark, .inl (cI, 28000, .inl g_mark_4))] := hD
              refine lv_iinc (v := nI (i + 6)) (lv' := [(1, .int (nI (i + 6))), (0, .ref mo)]) hx hb d_Mo_curves_53 hl (k := 1) rfl (nI_add i 6) (by decide) rfl (fun ls hl => ?_)
              refine lv_goto (tgt := 33) hx hb d_Mo_curves_56 (by decide) ?_
              exact ih_33  (i + 6) z_x_4 z_y_4 z_wrong_4 mk_4 g_mark_4 _ _ _ ⟨by omega, by omega, by omega⟩ (by omega) (hP.subm [0, 1, 2] rfl) (hD.sub [0, 1, 2] rfl rfl) hS (lv_sub hl [1, 0] rfl)
      exact lp_33 _ 0 z_x z_y z_wrong_1 mk g_mark _ _ _ ⟨by omega, by omega, by omega⟩ (Nat.lt_succ_self _) (hP.subm [2, 0, 1] rfl) (hD.sub [2, 0, 1] rfl rfl) hS (lv_sub hl [1, 0] rfl)
  · have n_7 : ¬ (t) < (6) := fun z => c_7 ((nI_ltI (a := t) (b := 6) (by omega) (by omega)).mpr z)
    refine lv_aload_n hx hb d_Mo_curves_10 rfl (lv_at hl 0 rfl) ?_
    refine va_get (D := D) (ci := 8) (v := .int (nI t)) (C := R_Mo) (T := F_Mo) (N := 29) hx hb hts i_Mo hown hZ.1 hP 0 rfl rfl 22 (by decide) (hts _ fl_Mo_82) (fun _ h9 => h9) rfl d_Mo_curves_11 ?_
    refine lv_bipush (v := 6) hx hb d_Mo_curves_14 (by decide) ?_
    refine lv_irem hx hb d_Mo_curves_16 (by decide) ?_
    refine lv_tv (y := nI (t % 6)) (pk_rem (a := t) (d := 6) (by omega) (by omega) (by omega)) ?_
    refine lv_if_ne (tgt := 24) hx hb d_Mo_curves_17 (by decide) (fun c_17 => ?_) (fun c_17 => ?_)
    · have n_17 : ¬ (t % 6) = (0) := fun z => c_17 ((nI_eq (a := t % 6) (b := 0) (by omega) (by omega)).mpr z)
      refine lv_iconst (v := 0) hx hb d_Mo_curves_24 (by decide) ?_
      have hC : Cut [(mo, .inr (8, [.int z_fault, .int z_size, .ref m_row, .ref m_shelves, .ref m_many, .ref m_widths, .int (nI mk), .ref m_mark, .int z_shown, .ref m_shownMark, .int z_wasRun, .int z_wrong, .int z_ended, .int (nI sp), .int z_hints, .int z_hasWidth, .int z_width, .int z_first, .int z_moved, .int z_deepest, .int z_x, .int z_y, .int (nI t), .ref m_stack, .ref m_places, .int (nI d), .ref m_kinds, .ref m_ats, .ref m_ends])), (m_stack, .inl (cI, 48, .inl g_stack)), (m_mark, .inl (cI, 28000, .inl g_mark))] [(mo, .inr (8, [.int z_fault, .int z_size, .ref m_row, .ref m_shelves, .ref m_many, .ref m_widths, .int (nI mk), .ref m_mark, .int z_shown, .ref m_shownMark, .int z_wasRun, .int z_wrong, .int z_ended, .int (nI sp), .int z_hints, .int z_hasWidth, .int z_width, .int z_first, .int z_moved, .int z_deepest, .int z_x, .int z_y, .int (nI t), .ref m_stack, .ref m_places, .int (nI d), .ref m_kinds, .ref m_ats, .ref m_ends]))] [(m_stack, .inl (cI, 48, .inl g_stack)), (m_mark, .inl (cI, 28000, .inl g_mark))] [0] [1, 2] := ⟨rfl, rfl, rfl, rfl, by decide⟩
      refine goI0 (trV (As := [.int 0]) (rest := []) ⟨hx, hb, hml, hown, hts⟩ gd_good (c_Mo_may l D cB cI cJ mo m_row m_shelves m_many m_widths m_mark m_shownMark m_stack m_places m_kinds m_ats m_ends mk sp t d z_fault z_size z_shown z_wasRun z_wrong z_ended z_hints z_hasWidth z_width z_first z_moved z_deepest z_x z_y 0 (by omega) ) cal_Mo_may ml_Mo_162 ⟨Nat.le_of_ble_eq_true rfl, Nat.le_of_ble_eq_true rfl⟩ hZ hP hD hC 0 (ci := 8) rfl rfl rfl rfl hl.1 rfl (Nat.le_of_ble_eq_true rfl) d_Mo_curves_25 ⟨Nat.le_of_ble_eq_true rfl, Nat.le_of_ble_eq_true rfl⟩) hZ hP hD hS hC (fun r_25 w1 H locs hq hP hD hS => ?_)
      obtain ⟨z_wrong_5, rfl, hv_5, hx_5, hz_5⟩ := hq
      have hP : va_P D classes [(m_stack, .inl (cI, 48, .inl g_stack)), (m_mark, .inl (cI, 28000, .inl g_mark)), (mo, .inr (8, [.int z_fault, .int z_size, .ref m_row, .ref m_shelves, .ref m_many, .ref m_widths, .int (nI mk), .ref m_mark, .int z_shown, .ref m_shownMark, .int z_wasRun, .int z_wrong_5, .int z_ended, .int (nI sp), .int z_hints, .int z_hasWidth, .int z_width, .int z_first, .int z_moved, .int z_deepest, .int z_x, .int z_y, .int (nI t), .ref m_stack, .ref m_places, .int (nI d), .ref m_kinds, .ref m_ats, .ref m_ends]))] H := hP
      have hD : va_D A_ [(m_stack, .inl (cI, 48, .inl g_stack)), (m_mark, .inl (cI, 28000, .inl g_mark)), (mo, .inr (8, [.int z_fault, .int z_size, .ref m_row, .ref m_shelves, .ref m_many, .ref m_widths, .int (nI mk), .ref m_mark, .int z_shown, .ref m_shownMark, .int z_wasRun, .int z_wrong_5, .int z_ended, .int (nI sp), .int z_hints, .int z_hasWidth, .int z_width, .int z_first, .int z_moved, .int z_deepest, .int z_x, .int z_y, .int (nI t), .ref m_stack, .ref m_places, .int (nI d), .ref m_kinds, .ref m_ats, .ref m_ends]))] := hD
      refine lv_if_eq (tgt := 63) hx hb d_Mo_curves_28 (by decide) (fun c_28 => ?_) (fun c_28 => ?_)
      · exact t_vret hx hb hr hlk d_Mo_curves_63 (hP.subm (ws' := [(mo, .inr (8, [.int z_fault, .int z_size, .ref m_row, .ref m_shelves, .ref m_many, .ref m_widths, .int (nI mk), .ref m_mark, .int z_shown, .ref m_shownMark, .int z_wasRun, .int z_wrong_5, .int z_ended, .int (nI sp), .int z_hints, .int z_hasWidth, .int z_width, .int z_first, .int z_moved, .int z_deepest, .int z_x, .int z_y, .int (nI t), .ref m_stack, .ref m_places, .int (nI d), .ref m_kinds, .ref m_ats, .ref m_ends])), (m_stack, .inl (cI, 48, .inl g_stack)), (m_mark, .inl (cI, 28000, .inl g_mark))]) [2, 0, 1] rfl) (hD.sub (ws' := [(mo, .inr (8, [.int z_fault, .int z_size, .ref m_row, .ref m_shelves, .ref m_many, .ref m_widths, .int (nI mk), .ref m_mark, .int z_shown, .ref m_shownMark, .int z_wasRun, .int z_wrong_5, .int z_ended, .int (nI sp), .int z_hints, .int z_hasWidth, .int z_width, .int z_first, .int z_moved, .int z_deepest, .int z_x, .int z_y, .int (nI t), .ref m_stack, .ref m_places, .int (nI d), .ref m_kinds, .ref m_ats, .ref m_ends])), (m_stack, .inl (cI, 48, .inl g_stack)), (m_mark, .inl (cI, 28000, .inl g_mark))]) [2, 0, 1] rfl rfl) hS ⟨rfl, rfl, rfl, _, _, _, mk, t, _, rfl, (by omega)⟩
      · refine lv_iconst (v := 0) hx hb d_Mo_curves_31 (by decide) ?_
        refine lv_istore_n (lv' := [(1, .int 0), (0, .ref mo)]) hx hb d_Mo_curves_32 rfl hl (by decide) rfl (fun ls hl => ?_)
        have lp_33 : ∀ (fu : Nat) (i : Nat) (xL : Int32) (yL : Int32) (wL : Int32) (mL : Nat) (gm : Nat → Int32) (H : Heap) (locs : List Loc) (ls : Array Slot), (mL ≤ 4000 ∧ i ≤ 60 ∧ i % 6 = 0) → (70 - i) < fu → va_P D classes [(mo, .inr (8, [.int z_fault, .int z_size, .ref m_row, .ref m_shelves, .ref m_many, .ref m_widths, .int (nI mL), .ref m_mark, .int z_shown, .ref m_shownMark, .int z_wasRun, .int wL, .int z_ended, .int (nI sp), .int z_hints, .int z_hasWidth, .int z_width, .int z_first, .int z_moved, .int z_deepest, .int xL, .int yL, .int (nI t), .ref m_stack, .ref m_places, .int (nI d), .ref m_kinds, .ref m_ats, .ref m_ends])), (m_stack, .inl (cI, 48, .inl g_stack)), (m_mark, .inl (cI, 28000, .inl gm))] H → va_D A_ [(mo, .inr (8, [.int z_fault, .int z_size, .ref m_row, .ref m_shelves, .ref m_many, .ref m_widths, .int (nI mL), .ref m_mark, .int z_shown, .ref m_shownMark, .int z_wasRun, .int wL, .int z_ended, .int (nI sp), .int z_hints, .int z_hasWidth, .int z_width, .int z_first, .int z_moved, .int z_deepest, .int xL, .int yL, .int (nI t), .ref m_stack, .ref m_places, .int (nI d), .ref m_kinds, .ref m_ats, .ref m_ends])), (m_stack, .inl (cI, 48, .inl g_stack)), (m_mark, .inl (cI, 28000, .inl gm))] → va_S A_ s_.heap H locs → lv_has ls 2 [(0, .ref mo), (1, .int (nI i))] → W p_ l e_ ({ frames := 4, cells := 0, slots := 0, locals := 98 }) s_ m_ args_ below_ meth_ c_ H locs (0) (0) (MQT below_ D classes A_ (pV0 (fun w => ∃ (z_x' : Int32) (z_y' : Int32) (z_wrong' : Int32) (mk' : Nat) (t' : Nat) (g_mark' : Nat → Int32), w = [(mo, .inr (8, [.int z_fault, .int z_size, .ref m_row, .ref m_shelves, .ref m_many, .ref m_widths, .int (nI mk'), .ref m_mark, .int z_shown, .ref m_shownMark, .int z_wasRun, .int z_wrong', .int z_ended, .int (nI sp), .int z_hints, .int z_hasWidth, .int z_width, .int z_first, .int z_moved, .int z_deepest, .int z_x', .int z_y', .int (nI t'), .ref m_stack, .ref m_places, .int (nI d), .ref m_kinds, .ref m_ats, .ref m_ends])), (m_stack, .inl (cI, 48, .inl g_stack)), (m_mark, .inl (cI, 28000, .inl g_mark'))] ∧ (t' ≤ 48 ∧ d ≤ 10 ∧ mk' ≤ 4000 ∧ sp ≤ 20000))) s_) (F0 m_ 33 ls []) := by
          intro fu
          induction fu with
          | zero => intro i xL yL wL mL gm H locs ls hinv hfu; exact absurd hfu (Nat.not_lt_zero _)
          | succ fu ih_33 =>
            intro i xL yL wL mL gm H locs ls hinv hfu hP hD hS hl
            obtain ⟨hmL, hi1, hi2⟩ := hinv
            refine lv_iload_n hx hb d_Mo_curves_33 rfl (lv_at hl 1 rfl) ?_
            refine lv_aload_n hx hb d_Mo_curves_34 rfl (lv_at hl 0 rfl) ?_
            refine va_get (D := D) (ci := 8) (v := .int (nI t)) (C := R_Mo) (T := F_Mo) (N := 29) hx hb hts i_Mo hown hZ.1 hP 0 rfl rfl 22 (by decide) (hts _ fl_Mo_82) (fun _ h9 => h9) rfl d_Mo_curves_35 ?_
            refine lv_icmp_ge (tgt := 59) hx hb d_Mo_curves_38 (by decide) (fun c_38 => ?_) (fun c_38 => ?_)
            · have n_38 : (t) ≤ (i) := (nI_leI (a := t) (b := i) (by omega) (by omega)).mp c_38
              refine lv_aload_n hx hb d_Mo_curves_59 rfl (lv_at hl 0 rfl) ?_
              have hC : Cut [(mo, .inr (8, [.int z_fault, .int z_size, .ref m_row, .ref m_shelves, .ref m_many, .ref m_widths, .int (nI mL), .ref m_mark, .int z_shown, .ref m_shownMark, .int z_wasRun, .int wL, .int z_ended, .int (nI sp), .int z_hints, .int z_hasWidth, .int z_width, .int z_first, .int z_moved, .int z_deepest, .int xL, .int yL, .int (nI t), .ref m_stack, .ref m_places, .int (nI d), .ref m_kinds, .ref m_ats, .ref m_ends])), (m_stack, .inl (cI, 48, .inl g_stack)), (m_mark, .inl (cI, 28000, .inl gm))] [(mo, .inr (8, [.int z_fault, .int z_size, .ref m_row, .ref m_shelves, .ref m_many, .ref m_widths, .int (nI mL), .ref m_mark, .int z_shown, .ref m_shownMark, .int z_wasRun, .int wL, .int z_ended, .int (nI sp), .int z_hints, .int z_hasWidth, .int z_width, .int z_first, .int z_moved, .int z_deepest, .int xL, .int yL, .int (nI t), .ref m_stack, .ref m_places, .int (nI d), .ref m_kinds, .ref m_ats, .ref m_ends]))] [(m_stack, .inl (cI, 48, .inl g_stack)), (m_mark, .inl (cI, 28000, .inl gm))] [0] [1, 2] := ⟨rfl, rfl, rfl, rfl, by decide⟩
              refine goV0 (trV (As := []) (rest := []) ⟨hx, hb, hml, hown, hts⟩ gd_good (c_Mo_take_V l D cB cI cJ mo m_row m_shelves m_many m_widths m_mark m_shownMark m_stack m_places m_kinds m_ats m_ends mL sp t d z_fault z_size z_shown z_wasRun wL z_ended z_hints z_hasWidth z_width z_first z_moved z_deepest xL yL (by omega) ) cal_Mo_take_V ml_Mo_155 ⟨Nat.le_of_ble_eq_true rfl, Nat.le_of_ble_eq_true rfl⟩ hZ hP hD hC 0 (ci := 8) rfl rfl rfl rfl hl.1 rfl (Nat.le_of_ble_eq_true rfl) d_Mo_curves_60 ⟨Nat.le_of_ble_eq_true rfl, Nat.le_of_ble_eq_true rfl⟩) hZ hP hD hS hC (fun w1 H locs hq hP hD hS => ?_)
              obtain ⟨t_6, rfl, hv_6⟩ := hq
              have hP : va_P D classes [(m_stack, .inl (cI, 48, .inl g_stack)), (m_mark, .inl (cI, 28000, .inl gm)), (mo, .inr (8, [.int z_fault, .int z_size, .ref m_row, .ref m_shelves, .ref m_many, .ref m_widths, .int (nI mL), .ref m_mark, .int z_shown, .ref m_shownMark, .int z_wasRun, .int wL, .int z_ended, .int (nI sp), .int z_hints, .int z_hasWidth, .int z_width, .int z_first, .int z_moved, .int z_deepest, .int xL, .int yL, .int (nI t_6), .ref m_stack, .ref m_places, .int (nI d), .ref m_kinds, .ref m_ats, .ref m_ends]))] H := hP
              have hD : va_D A_ [(m_stack, .inl (cI, 48, .inl g_stack)), (m_mark, .inl (cI, 28000, .inl gm)), (mo, .inr (8, [.int z_fault, .int z_size, .ref m_row, .ref m_shelves, .ref m_many, .ref m_widths, .int (nI mL), .ref m_mark, .int z_shown, .ref m_shownMark, .int z_wasRun, .int wL, .int z_ended, .int (nI sp), .int z_hints, .int z_hasWidth, .int z_width, .int z_first, .int z_moved, .int z_deepest, .int xL, .int yL, .int (nI t_6), .ref m_stack, .ref m_places, .int (nI d), .ref m_kinds, .ref m_ats, .ref m_ends]))] := hD
              exact t_vret hx hb hr hlk d_Mo_curves_63 (hP.subm (ws' := [(mo, .inr (8, [.int z_fault, .int z_size, .ref m_row, .ref m_shelves, .ref m_many, .ref m_widths, .int (nI mL), .ref m_mark, .int z_shown, .ref m_shownMark, .int z_wasRun, .int wL, .int z_ended, .int (nI sp), .int z_hints, .int z_hasWidth, .int z_width, .int z_first, .int z_moved, .int z_deepest, .int xL, .int yL, .int (nI t_6), .ref m_stack, .ref m_places, .int (nI d), .ref m_kinds, .ref m_ats, .ref m_ends])), (m_stack, .inl (cI, 48, .inl g_stack)), (m_mark, .inl (cI, 28000, .inl gm))]) [2, 0, 1] rfl) (hD.sub (ws' := [(mo, .inr (8, [.int z_fault, .int z_size, .ref m_row, .ref m_shelves, .ref m_many, .ref m_widths, .int (nI mL), .ref m_mark, .int z_shown, .ref m_shownMark, .int z_wasRun, .int wL, .int z_ended, .int (nI sp), .int z_hints, .int z_hasWidth, .int z_width, .int z_first, .int z_moved, .int z_deepest, .int xL, .int yL, .int (nI t_6), .ref m_stack, .ref m_places, .int (nI d), .ref m_kinds, .ref m_ats, .ref m_ends])), (m_stack, .inl (cI, 48, .inl g_stack)), (m_mark, .inl (cI, 28000, .inl gm))]) [2, 0, 1] rfl rfl) hS ⟨rfl, rfl, rfl, _, _, _, mL, t_6, _, rfl, (by omega)⟩
            · have n_38 : ¬ (t) ≤ (i) := fun z => c_38 ((nI_leI (a := t) (b := i) (by omega) (by omega)).mpr z)
              refine lv_aload_n hx hb d_Mo_curves_41 rfl (lv_at hl 0 rfl) ?_
              refine va_get (D := D) (ci := 8) (v := .int wL) (C := R_Mo) (T := F_Mo) (N := 29) hx hb hts i_Mo hown hZ.1 hP 0 rfl rfl 11 (by decide) (hts _ fl_Mo_75) (fun _ h9 => h9) rfl d_Mo_curves_42 ?_
              refine lv_if_ne (tgt := 59) hx hb d_Mo_curves_45 (by decide) (fun c_45 => ?_) (fun c_45 => ?_)
              · refine lv_aload_n hx hb d_Mo_curves_59 rfl (lv_at hl 0 rfl) ?_
                have hC : Cut [(mo, .inr (8, [.int z_fault, .int z_size, .ref m_row, .ref m_shelves, .ref m_many, .ref m_widths, .int (nI mL), .ref m_mark, .int z_shown, .ref m_shownMark, .int z_wasRun, .int wL, .int z_ended, .int (nI sp), .int z_hints, .int z_hasWidth, .int z_width, .int z_first, .int z_moved, .int z_deepest, .int xL, .int yL, .int (nI t), .ref m_stack, .ref m_places, .int (nI d), .ref m_kinds, .ref m_ats, .ref m_ends])), (m_stack, .inl (cI, 48, .inl g_stack)), (m_mark, .inl (cI, 28000, .inl gm))] [(mo, .inr (8, [.int z_fault, .int z_size, .ref m_row, .ref m_shelves, .ref m_many, .ref m_widths, .int (nI mL), .ref m_mark, .int z_shown, .ref m_shownMark, .int z_wasRun, .int wL, .int z_ended, .int (nI sp), .int z_hints, .int z_hasWidth, .int z_width, .int z_first, .int z_moved, .int z_deepest, .int xL, .int yL, .int (nI t), .ref m_stack, .ref m_places, .int (nI d), .ref m_kinds, .ref m_ats, .ref m_ends]))] [(m_stack, .inl (cI, 48, .inl g_stack)), (m_mark, .inl (cI, 28000, .inl gm))] [0] [1, 2] := ⟨rfl, rfl, rfl, rfl, by decide⟩
                refine goV0 (trV (As := []) (rest := []) ⟨hx, hb, hml, hown, hts⟩ gd_good (c_Mo_take_V l D cB cI cJ mo m_row m_shelves m_many m_widths m_mark m_shownMark m_stack m_places m_kinds m_ats m_ends mL sp t d z_fault z_size z_shown z_wasRun wL z_ended z_hints z_hasWidth z_width z_first z_moved z_deepest xL yL (by omega) ) cal_Mo_take_V ml_Mo_155 ⟨Nat.le_of_ble_eq_true rfl, Nat.le_of_ble_eq_true rfl⟩ hZ hP hD hC 0 (ci := 8) rfl rfl rfl rfl hl.1 rfl (Nat.le_of_ble_eq_true rfl) d_Mo_curves_60 ⟨Nat.le_of_ble_eq_true rfl, Nat.le_of_ble_eq_true rfl⟩) hZ hP hD hS hC (fun w1 H locs hq hP hD hS => ?_)
                obtain ⟨t_7, rfl, hv_7⟩ := hq
                have hP : va_P D classes [(m_stack, .inl (cI, 48, .inl g_stack)), (m_mark, .inl (cI, 28000, .inl gm)), (mo, .inr (8, [.int z_fault, .int z_size, .ref m_row, .ref m_shelves, .ref m_many, .ref m_widths, .int (nI mL), .ref m_mark, .int z_shown, .ref m_shownMark, .int z_wasRun, .int wL, .int z_ended, .int (nI sp), .int z_hints, .int z_hasWidth, .int z_width, .int z_first, .int z_moved, .int z_deepest, .int xL, .int yL, .int (nI t_7), .ref m_stack, .ref m_places, .int (nI d), .ref m_kinds, .ref m_ats, .ref m_ends]))] H := hP
                have hD : va_D A_ [(m_stack, .inl (cI, 48, .inl g_stack)), (m_mark, .inl (cI, 28000, .inl gm)), (mo, .inr (8, [.int z_fault, .int z_size, .ref m_row, .ref m_shelves, .ref m_many, .ref m_widths, .int (nI mL), .ref m_mark, .int z_shown, .ref m_shownMark, .int z_wasRun, .int wL, .int z_ended, .int (nI sp), .int z_hints, .int z_hasWidth, .int z_width, .int z_first, .int z_moved, .int z_deepest, .int xL, .int yL, .int (nI t_7), .ref m_stack, .ref m_places, .int (nI d), .ref m_kinds, .ref m_ats, .ref m_ends]))] := hD
                exact t_vret hx hb hr hlk d_Mo_curves_63 (hP.subm (ws' := [(mo, .inr (8, [.int z_fault, .int z_size, .ref m_row, .ref m_shelves, .ref m_many, .ref m_widths, .int (nI mL), .ref m_mark, .int z_shown, .ref m_shownMark, .int z_wasRun, .int wL, .int z_ended, .int (nI sp), .int z_hints, .int z_hasWidth, .int z_width, .int z_first, .int z_moved, .int z_deepest, .int xL, .int yL, .int (nI t_7), .ref m_stack, .ref m_places, .int (nI d), .ref m_kinds, .ref m_ats, .ref m_ends])), (m_stack, .inl (cI, 48, .inl g_stack)), (m_mark, .inl (cI, 28000, .inl gm))]) [2, 0, 1] rfl) (hD.sub (ws' := [(mo, .inr (8, [.int z_fault, .int z_size, .ref m_row, .ref m_shelves, .ref m_many, .ref m_widths, .int (nI mL), .ref m_mark, .int z_shown, .ref m_shownMark, .int z_wasRun, .int wL, .int z_ended, .int (nI sp), .int z_hints, .int z_hasWidth, .int z_width, .int z_first, .int z_moved, .int z_deepest, .int xL, .int yL, .int (nI t_7), .ref m_stack, .ref m_places, .int (nI d), .ref m_kinds, .ref m_ats, .ref m_ends])), (m_stack, .inl (cI, 48, .inl g_stack)), (m_mark, .inl (cI, 28000, .inl gm))]) [2, 0, 1] rfl rfl) hS ⟨rfl, rfl, rfl, _, _, _, mL, t_7, _, rfl, (by omega)⟩
              · refine lv_aload_n hx hb d_Mo_curves_48 rfl (lv_at hl 0 rfl) ?_
                refine lv_iload_n hx hb d_Mo_curves_49 rfl (lv_at hl 1 rfl) ?_
                have hC : Cut [(mo, .inr (8, [.int z_fault, .int z_size, .ref m_row, .ref m_shelves, .ref m_many, .ref m_widths, .int (nI mL), .ref m_mark, .int z_shown, .ref m_shownMark, .int z_wasRun, .int wL, .int z_ended, .int (nI sp), .int z_hints, .int z_hasWidth, .int z_width, .int z_first, .int z_moved, .int z_deepest, .int xL, .int yL, .int (nI t), .ref m_stack, .ref m_places, .int (nI d), .ref m_kinds, .ref m_ats, .ref m_ends])), (m_stack, .inl (cI, 48, .inl g_stack)), (m_mark, .inl (cI, 28000, .inl gm))] [(mo, .inr (8, [.int z_fault, .int z_size, .ref m_row, .ref m_shelves, .ref m_many, .ref m_widths, .int (nI mL), .ref m_mark, .int z_shown, .ref m_shownMark, .int z_wasRun, .int wL, .int z_ended, .int (nI sp), .int z_hints, .int z_hasWidth, .int z_width, .int z_first, .int z_moved, .int z_deepest, .int xL, .int yL, .int (nI t), .ref m_stack, .ref m_places, .int (nI d), .ref m_kinds, .ref m_ats, .ref m_ends])), (m_stack, .inl (cI, 48, .inl g_stack)), (m_mark, .inl (cI, 28000, .inl gm))] [] [0, 1, 2] [] := ⟨rfl, rfl, rfl, rfl, by decide⟩
                refine goV0 (trV (As := [.int (nI i)]) (rest := []) ⟨hx, hb, hml, hown, hts⟩ gd_good (c_Mo_six l D cB cI cJ mo m_row m_shelves m_many m_widths m_mark m_shownMark m_stack m_places m_kinds m_ats m_ends mL sp t d z_fault z_size z_shown z_wasRun wL z_ended z_hints z_hasWidth z_width z_first z_moved z_deepest xL yL g_stack gm i (by omega) (by omega)) cal_Mo_six ml_Mo_169 ⟨Nat.le_of_ble_eq_true rfl, Nat.le_of_ble_eq_true rfl⟩ hZ hP hD hC 0 (ci := 8) rfl rfl rfl rfl hl.1 rfl (Nat.le_of_ble_eq_true rfl) d_Mo_curves_50 ⟨Nat.le_of_ble_eq_true rfl, Nat.le_of_ble_eq_true rfl⟩) hZ hP hD hS hC (fun w1 H locs hq hP hD hS => ?_)
                obtain ⟨z_x_8, z_y_8, z_wrong_8, mk_8, g_mark_8, rfl, hv_8⟩ := hq
                have hP : va_P D classes [(mo, .inr (8, [.int z_fault, .int z_size, .ref m_row, .ref m_shelves, .ref m_many, .ref m_widths, .int (nI mk_8), .ref m_mark, .int z_shown, .ref m_shownMark, .int z_wasRun, .int z_wrong_8, .int z_ended, .int (nI sp), .int z_hints, .int z_hasWidth, .int z_width, .int z_first, .int z_moved, .int z_deepest, .int z_x_8, .int z_y_8, .int (nI t), .ref m_stack, .ref m_places, .int (nI d), .ref m_kinds, .ref m_ats, .ref m_ends])), (m_stack, .inl (cI, 48, .inl g_stack)), (m_mark, .inl (cI, 28000, .inl g_mark_8))] H := hP
                have hD : va_D A_ [(mo, .inr (8, [.int z_fault, .int z_size, .ref m_row, .ref m_shelves, .ref m_many, .ref m_widths, .int (nI mk_8), .ref m_mark, .int z_shown, .ref m_shownMark, .int z_wasRun, .int z_wrong_8, .int z_ended, .int (nI sp), .int z_hints, .int z_hasWidth, .int z_width, .int z_first, .int z_moved, .int z_deepest, .int z_x_8, .int z_y_8, .int (nI t), .ref m_stack, .ref m_places, .int (nI d), .ref m_kinds, .ref m_ats, .ref m_ends])), (m_stack, .inl (cI, 48, .inl g_stack)), (m_mark, .inl (cI, 28000, .inl g_mark_8))] := hD
                refine lv_iinc (v := nI (i + 6)) (lv' := [(1, .int (nI (i + 6))), (0, .ref mo)]) hx hb d_Mo_curves_53 hl (k := 1) rfl (nI_add i 6) (by decide) rfl (fun ls hl => ?_)
                refine lv_goto (tgt := 33) hx hb d_Mo_curves_56 (by decide) ?_
                exact ih_33  (i + 6) z_x_8 z_y_8 z_wrong_8 mk_8 g_mark_8 _ _ _ ⟨by omega, by omega, by omega⟩ (by omega) (hP.subm [0, 1, 2] rfl) (hD.sub [0, 1, 2] rfl rfl) hS (lv_sub hl [1, 0] rfl)
        exact lp_33 _ 0 z_x z_y z_wrong_5 mk g_mark _ _ _ ⟨by omega, by omega, by omega⟩ (Nat.lt_succ_self _) (hP.subm [2, 0, 1] rfl) (hD.sub [2, 0, 1] rfl rfl) hS (lv_sub hl [1, 0] rfl)
    · have n_17 : (t % 6) = (0) := (nI_eq (a := t % 6) (b := 0) (by omega) (by omega)).mp c_17
      refine lv_iconst (v := 1) hx hb d_Mo_curves_20 (by decide) ?_
      refine lv_goto (tgt := 25) hx hb d_Mo_curves_21 (by decide) ?_
      have hC : Cut [(mo, .inr (8, [.int z_fault, .int z_size, .ref m_row, .ref m_shelves, .ref m_many, .ref m_widths, .int (nI mk), .ref m_mark, .int z_shown, .ref m_shownMark, .int z_wasRun, .int z_wrong, .int z_ended, .int (nI sp), .int z_hints, .int z_hasWidth, .int z_width, .int z_first, .int z_moved, .int z_deepest, .int z_x, .int z_y, .int (nI t), .ref m_stack, .ref m_places, .int (nI d), .ref m_kinds, .ref m_ats, .ref m_ends])), (m_stack, .inl (cI, 48, .inl g_stack)), (m_mark, .inl (cI, 28000, .inl g_mark))] [(mo, .inr (8, [.int z_fault, .int z_size, .ref m_row, .ref m_shelves, .ref m_many, .ref m_widths, .int (nI mk), .ref m_mark, .int z_shown, .ref m_shownMark, .int z_wasRun, .int z_wrong, .int z_ended, .int (nI sp), .int z_hints, .int z_hasWidth, .int z_width, .int z_first, .int z_moved, .int z_deepest, .int z_x, .int z_y, .int (nI t), .ref m_stack, .ref m_places, .int (nI d), .ref m_kinds, .ref m_ats, .ref m_ends]))] [(m_stack, .inl (cI, 48, .inl g_stack)), (m_mark, .inl (cI, 28000, .inl g_mark))] [0] [1, 2] := ⟨rfl, rfl, rfl, rfl, by decide⟩
      refine goI0 (trV (As := [.int 1]) (rest := []) ⟨hx, hb, hml, hown, hts⟩ gd_good (c_Mo_may l D cB cI cJ mo m_row m_shelves m_many m_widths m_mark m_shownMark m_stack m_places m_kinds m_ats m_ends mk sp t d z_fault z_size z_shown z_wasRun z_wrong z_ended z_hints z_hasWidth z_width z_first z_moved z_deepest z_x z_y 1 (by omega) ) cal_Mo_may ml_Mo_162 ⟨Nat.le_of_ble_eq_true rfl, Nat.le_of_ble_eq_true rfl⟩ hZ hP hD hC 0 (ci := 8) rfl rfl rfl rfl hl.1 rfl (Nat.le_of_ble_eq_true rfl) d_Mo_curves_25 ⟨Nat.le_of_ble_eq_true rfl, Nat.le_of_ble_eq_true rfl⟩) hZ hP hD hS hC (fun r_25 w1 H locs hq hP hD hS => ?_)
      obtain ⟨z_wrong_9, rfl, hv_9, hx_9, hz_9⟩ := hq
      have hP : va_P D classes [(m_stack, .inl (cI, 48, .inl g_stack)), (m_mark, .inl (cI, 28000, .inl g_mark)), (mo, .inr (8, [.int z_fault, .int z_size, .ref m_row, .ref m_shelves, .ref m_many, .ref m_widths, .int (nI mk), .ref m_mark, .int z_shown, .ref m_shownMark, .int z_wasRun, .int z_wrong_9, .int z_ended, .int (nI sp), .int z_hints, .int z_hasWidth, .int z_width, .int z_first, .int z_moved, .int z_deepest, .int z_x, .int z_y, .int (nI t), .ref m_stack, .ref m_places, .int (nI d), .ref m_kinds, .ref m_ats, .ref m_ends]))] H := hP
      have hD : va_D A_ [(m_stack, .inl (cI, 48, .inl g_stack)), (m_mark, .inl (cI, 28000, .inl g_mark)), (mo, .inr (8, [.int z_fault, .int z_size, .ref m_row, .ref m_shelves, .ref m_many, .ref m_widths, .int (nI mk), .ref m_mark, .int z_shown, .ref m_shownMark, .int z_wasRun, .int z_wrong_9, .int z_ended, .int (nI sp), .int z_hints, .int z_hasWidth, .int z_width, .int z_first, .int z_moved, .int z_deepest, .int z_x, .int z_y, .int (nI t), .ref m_stack, .ref m_places, .int (nI d), .ref m_kinds, .ref m_ats, .ref m_ends]))] := hD
      refine lv_if_eq (tgt := 63) hx hb d_Mo_curves_28 (by decide) (fun c_28 => ?_) (fun c_28 => ?_)
      · exact t_vret hx hb hr hlk d_Mo_curves_63 (hP.subm (ws' := [(mo, .inr (8, [.int z_fault, .int z_size, .ref m_row, .ref m_shelves, .ref m_many, .ref m_widths, .int (nI mk), .ref m_mark, .int z_shown, .ref m_shownMark, .int z_wasRun, .int z_wrong_9, .int z_ended, .int (nI sp), .int z_hints, .int z_hasWidth, .int z_width, .int z_first, .int z_moved, .int z_deepest, .int z_x, .int z_y, .int (nI t), .ref m_stack, .ref m_places, .int (nI d), .ref m_kinds, .ref m_ats, .ref m_ends])), (m_stack, .inl (cI, 48, .inl g_stack)), (m_mark, .inl (cI, 28000, .inl g_mark))]) [2, 0, 1] rfl) (hD.sub (ws' := [(mo, .inr (8, [.int z_fault, .int z_size, .ref m_row, .ref m_shelves, .ref m_many, .ref m_widths, .int (nI mk), .ref m_mark, .int z_shown, .ref m_shownMark, .int z_wasRun, .int z_wrong_9, .int z_ended, .int (nI sp), .int z_hints, .int z_hasWidth, .int z_width, .int z_first, .int z_moved, .int z_deepest, .int z_x, .int z_y, .int (nI t), .ref m_stack, .ref m_places, .int (nI d), .ref m_kinds, .ref m_ats, .ref m_ends])), (m_stack, .inl (cI, 48, .inl g_stack)), (m_mark, .inl (cI, 28000, .inl g_mark))]) [2, 0, 1] rfl rfl) hS ⟨rfl, rfl, rfl, _, _, _, mk, t, _, rfl, (by omega)⟩
      · refine lv_iconst (v := 0) hx hb d_Mo_curves_31 (by decide) ?_
        refine lv_istore_n (lv' := [(1, .int 0), (0, .ref mo)]) hx hb d_Mo_curves_32 rfl hl (by decide) rfl (fun ls hl => ?_)
        have lp_33 : ∀ (fu : Nat) (i : Nat) (xL : Int32) (yL : Int32) (wL : Int32) (mL : Nat) (gm : Nat → Int32) (H : Heap) (locs : List Loc) (ls : Array Slot), (mL ≤ 4000 ∧ i ≤ 60 ∧ i % 6 = 0) → (70 - i) < fu → va_P D classes [(mo, .inr (8, [.int z_fault, .int z_size, .ref m_row, .ref m_shelves, .ref m_many, .ref m_widths, .int (nI mL), .ref m_mark, .int z_shown, .ref m_shownMark, .int z_wasRun, .int wL, .int z_ended, .int (nI sp), .int z_hints, .int z_hasWidth, .int z_width, .int z_first, .int z_moved, .int z_deepest, .int xL, .int yL, .int (nI t), .ref m_stack, .ref m_places, .int (nI d), .ref m_kinds, .ref m_ats, .ref m_ends])), (m_stack, .inl (cI, 48, .inl g_stack)), (m_mark, .inl (cI, 28000, .inl gm))] H → va_D A_ [(mo, .inr (8, [.int z_fault, .int z_size, .ref m_row, .ref m_shelves, .ref m_many, .ref m_widths, .int (nI mL), .ref m_mark, .int z_shown, .ref m_shownMark, .int z_wasRun, .int wL, .int z_ended, .int (nI sp), .int z_hints, .int z_hasWidth, .int z_width, .int z_first, .int z_moved, .int z_deepest, .int xL, .int yL, .int (nI t), .ref m_stack, .ref m_places, .int (nI d), .ref m_kinds, .ref m_ats, .ref m_ends])), (m_stack, .inl (cI, 48, .inl g_stack)), (m_mark, .inl (cI, 28000, .inl gm))] → va_S A_ s_.heap H locs → lv_has ls 2 [(0, .ref mo), (1, .int (nI i))] → W p_ l e_ ({ frames := 4, cells := 0, slots := 0, locals := 98 }) s_ m_ args_ below_ meth_ c_ H locs (0) (0) (MQT below_ D classes A_ (pV0 (fun w => ∃ (z_x' : Int32) (z_y' : Int32) (z_wrong' : Int32) (mk' : Nat) (t' : Nat) (g_mark' : Nat → Int32), w = [(mo, .inr (8, [.int z_fault, .int z_size, .ref m_row, .ref m_shelves, .ref m_many, .ref m_widths, .int (nI mk'), .ref m_mark, .int z_shown, .ref m_shownMark, .int z_wasRun, .int z_wrong', .int z_ended, .int (nI sp), .int z_hints, .int z_hasWidth, .int z_width, .int z_first, .int z_moved, .int z_deepest, .int z_x', .int z_y', .int (nI t'), .ref m_stack, .ref m_places, .int (nI d), .ref m_kinds, .ref m_ats, .ref m_ends])), (m_stack, .inl (cI, 48, .inl g_stack)), (m_mark, .inl (cI, 28000, .inl g_mark'))] ∧ (t' ≤ 48 ∧ d ≤ 10 ∧ mk' ≤ 4000 ∧ sp ≤ 20000))) s_) (F0 m_ 33 ls []) := by
          intro fu
          induction fu with
          | zero => intro i xL yL wL mL gm H locs ls hinv hfu; exact absurd hfu (Nat.not_lt_zero _)
          | succ fu ih_33 =>
            intro i xL yL wL mL gm H locs ls hinv hfu hP hD hS hl
            obtain ⟨hmL, hi1, hi2⟩ := hinv
            refine lv_iload_n hx hb d_Mo_curves_33 rfl (lv_at hl 1 rfl) ?_
            refine lv_aload_n hx hb d_Mo_curves_34 rfl (lv_at hl 0 rfl) ?_
            refine va_get (D := D) (ci := 8) (v := .int (nI t)) (C := R_Mo) (T := F_Mo) (N := 29) hx hb hts i_Mo hown hZ.1 hP 0 rfl rfl 22 (by decide) (hts _ fl_Mo_82) (fun _ h9 => h9) rfl d_Mo_curves_35 ?_
            refine lv_icmp_ge (tgt := 59) hx hb d_Mo_curves_38 (by decide) (fun c_38 => ?_) (fun c_38 => ?_)
            · have n_38 : (t) ≤ (i) := (nI_leI (a := t) (b := i) (by omega) (by omega)).mp c_38
              refine lv_aload_n hx hb d_Mo_curves_59 rfl (lv_at hl 0 rfl) ?_
              have hC : Cut [(mo, .inr (8, [.int z_fault, .int z_size, .ref m_row, .ref m_shelves, .ref m_many, .ref m_widths, .int (nI mL), .ref m_mark, .int z_shown, .ref m_shownMark, .int z_wasRun, .int wL, .int z_ended, .int (nI sp), .int z_hints, .int z_hasWidth, .int z_width, .int z_first, .int z_moved, .int z_deepest, .int xL, .int yL, .int (nI t), .ref m_stack, .ref m_places, .int (nI d), .ref m_kinds, .ref m_ats, .ref m_ends])), (m_stack, .inl (cI, 48, .inl g_stack)), (m_mark, .inl (cI, 28000, .inl gm))] [(mo, .inr (8, [.int z_fault, .int z_size, .ref m_row, .ref m_shelves, .ref m_many, .ref m_widths, .int (nI mL), .ref m_mark, .int z_shown, .ref m_shownMark, .int z_wasRun, .int wL, .int z_ended, .int (nI sp), .int z_hints, .int z_hasWidth, .int z_width, .int z_first, .int z_moved, .int z_deepest, .int xL, .int yL, .int (nI t), .ref m_stack, .ref m_places, .int (nI d), .ref m_kinds, .ref m_ats, .ref m_ends]))] [(m_stack, .inl (cI, 48, .inl g_stack)), (m_mark, .inl (cI, 28000, .inl gm))] [0] [1, 2] := ⟨rfl, rfl, rfl, rfl, by decide⟩
              refine goV0 (trV (As := []) (rest := []) ⟨hx, hb, hml, hown, hts⟩ gd_good (c_Mo_take_V l D cB cI cJ mo m_row m_shelves m_many m_widths m_mark m_shownMark m_stack m_places m_kinds m_ats m_ends mL sp t d z_fault z_size z_shown z_wasRun wL z_ended z_hints z_hasWidth z_width z_first z_moved z_deepest xL yL (by omega) ) cal_Mo_take_V ml_Mo_155 ⟨Nat.le_of_ble_eq_true rfl, Nat.le_of_ble_eq_true rfl⟩ hZ hP hD hC 0 (ci := 8) rfl rfl rfl rfl hl.1 rfl (Nat.le_of_ble_eq_true rfl) d_Mo_curves_60 ⟨Nat.le_of_ble_eq_true rfl, Nat.le_of_ble_eq_true rfl⟩) hZ hP hD hS hC (fun w1 H locs hq hP hD hS => ?_)
              obtain ⟨t_10, rfl, hv_10⟩ := hq
              have hP : va_P D classes [(m_stack, .inl (cI, 48, .inl g_stack)), (m_mark, .inl (cI, 28000, .inl gm)), (mo, .inr (8, [.int z_fault, .int z_size, .ref m_row, .ref m_shelves, .ref m_many, .ref m_widths, .int (nI mL), .ref m_mark, .int z_shown, .ref m_shownMark, .int z_wasRun, .int wL, .int z_ended, .int (nI sp), .int z_hints, .int z_hasWidth, .int z_width, .int z_first, .int z_moved, .int z_deepest, .int xL, .int yL, .int (nI t_10), .ref m_stack, .ref m_places, .int (nI d), .ref m_kinds, .ref m_ats, .ref m_ends]))] H := hP
              have hD : va_D A_ [(m_stack, .inl (cI, 48, .inl g_stack)), (m_mark, .inl (cI, 28000, .inl gm)), (mo, .inr (8, [.int z_fault, .int z_size, .ref m_row, .ref m_shelves, .ref m_many, .ref m_widths, .int (nI mL), .ref m_mark, .int z_shown, .ref m_shownMark, .int z_wasRun, .int wL, .int z_ended, .int (nI sp), .int z_hints, .int z_hasWidth, .int z_width, .int z_first, .int z_moved, .int z_deepest, .int xL, .int yL, .int (nI t_10), .ref m_stack, .ref m_places, .int (nI d), .ref m_kinds, .ref m_ats, .ref m_ends]))] := hD
              exact t_vret hx hb hr hlk d_Mo_curves_63 (hP.subm (ws' := [(mo, .inr (8, [.int z_fault, .int z_size, .ref m_row, .ref m_shelves, .ref m_many, .ref m_widths, .int (nI mL), .ref m_mark, .int z_shown, .ref m_shownMark, .int z_wasRun, .int wL, .int z_ended, .int (nI sp), .int z_hints, .int z_hasWidth, .int z_width, .int z_first, .int z_moved, .int z_deepest, .int xL, .int yL, .int (nI t_10), .ref m_stack, .ref m_places, .int (nI d), .ref m_kinds, .ref m_ats, .ref m_ends])), (m_stack, .inl (cI, 48, .inl g_stack)), (m_mark, .inl (cI, 28000, .inl gm))]) [2, 0, 1] rfl) (hD.sub (ws' := [(mo, .inr (8, [.int z_fault, .int z_size, .ref m_row, .ref m_shelves, .ref m_many, .ref m_widths, .int (nI mL), .ref m_mark, .int z_shown, .ref m_shownMark, .int z_wasRun, .int wL, .int z_ended, .int (nI sp), .int z_hints, .int z_hasWidth, .int z_width, .int z_first, .int z_moved, .int z_deepest, .int xL, .int yL, .int (nI t_10), .ref m_stack, .ref m_places, .int (nI d), .ref m_kinds, .ref m_ats, .ref m_ends])), (m_stack, .inl (cI, 48, .inl g_stack)), (m_mark, .inl (cI, 28000, .inl gm))]) [2, 0, 1] rfl rfl) hS ⟨rfl, rfl, rfl, _, _, _, mL, t_10, _, rfl, (by omega)⟩
            · have n_38 : ¬ (t) ≤ (i) := fun z => c_38 ((nI_leI (a := t) (b := i) (by omega) (by omega)).mpr z)
              refine lv_aload_n hx hb d_Mo_curves_41 rfl (lv_at hl 0 rfl) ?_
              refine va_get (D := D) (ci := 8) (v := .int wL) (C := R_Mo) (T := F_Mo) (N := 29) hx hb hts i_Mo hown hZ.1 hP 0 rfl rfl 11 (by decide) (hts _ fl_Mo_75) (fun _ h9 => h9) rfl d_Mo_curves_42 ?_
              refine lv_if_ne (tgt := 59) hx hb d_Mo_curves_45 (by decide) (fun c_45 => ?_) (fun c_45 => ?_)
              · refine lv_aload_n hx hb d_Mo_curves_59 rfl (lv_at hl 0 rfl) ?_
                have hC : Cut [(mo, .inr (8, [.int z_fault, .int z_size, .ref m_row, .ref m_shelves, .ref m_many, .ref m_widths, .int (nI mL), .ref m_mark, .int z_shown, .ref m_shownMark, .int z_wasRun, .int wL, .int z_ended, .int (nI sp), .int z_hints, .int z_hasWidth, .int z_width, .int z_first, .int z_moved, .int z_deepest, .int xL, .int yL, .int (nI t), .ref m_stack, .ref m_places, .int (nI d), .ref m_kinds, .ref m_ats, .ref m_ends])), (m_stack, .inl (cI, 48, .inl g_stack)), (m_mark, .inl (cI, 28000, .inl gm))] [(mo, .inr (8, [.int z_fault, .int z_size, .ref m_row, .ref m_shelves, .ref m_many, .ref m_widths, .int (nI mL), .ref m_mark, .int z_shown, .ref m_shownMark, .int z_wasRun, .int wL, .int z_ended, .int (nI sp), .int z_hints, .int z_hasWidth, .int z_width, .int z_first, .int z_moved, .int z_deepest, .int xL, .int yL, .int (nI t), .ref m_stack, .ref m_places, .int (nI d), .ref m_kinds, .ref m_ats, .ref m_ends]))] [(m_stack, .inl (cI, 48, .inl g_stack)), (m_mark, .inl (cI, 28000, .inl gm))] [0] [1, 2] := ⟨rfl, rfl, rfl, rfl, by decide⟩
                refine goV0 (trV (As := []) (rest := []) ⟨hx, hb, hml, hown, hts⟩ gd_good (c_Mo_take_V l D cB cI cJ mo m_row m_shelves m_many m_widths m_mark m_shownMark m_stack m_places m_kinds m_ats m_ends mL sp t d z_fault z_size z_shown z_wasRun wL z_ended z_hints z_hasWidth z_width z_first z_moved z_deepest xL yL (by omega) ) cal_Mo_take_V ml_Mo_155 ⟨Nat.le_of_ble_eq_true rfl, Nat.le_of_ble_eq_true rfl⟩ hZ hP hD hC 0 (ci := 8) rfl rfl rfl rfl hl.1 rfl (Nat.le_of_ble_eq_true rfl) d_Mo_curves_60 ⟨Nat.le_of_ble_eq_true rfl, Nat.le_of_ble_eq_true rfl⟩) hZ hP hD hS hC (fun w1 H locs hq hP hD hS => ?_)
                obtain ⟨t_11, rfl, hv_11⟩ := hq
                have hP : va_P D classes [(m_stack, .inl (cI, 48, .inl g_stack)), (m_mark, .inl (cI, 28000, .inl gm)), (mo, .inr (8, [.int z_fault, .int z_size, .ref m_row, .ref m_shelves, .ref m_many, .ref m_widths, .int (nI mL), .ref m_mark, .int z_shown, .ref m_shownMark, .int z_wasRun, .int wL, .int z_ended, .int (nI sp), .int z_hints, .int z_hasWidth, .int z_width, .int z_first, .int z_moved, .int z_deepest, .int xL, .int yL, .int (nI t_11), .ref m_stack, .ref m_places, .int (nI d), .ref m_kinds, .ref m_ats, .ref m_ends]))] H := hP
                have hD : va_D A_ [(m_stack, .inl (cI, 48, .inl g_stack)), (m_mark, .inl (cI, 28000, .inl gm)), (mo, .inr (8, [.int z_fault, .int z_size, .ref m_row, .ref m_shelves, .ref m_many, .ref m_widths, .int (nI mL), .ref m_mark, .int z_shown, .ref m_shownMark, .int z_wasRun, .int wL, .int z_ended, .int (nI sp), .int z_hints, .int z_hasWidth, .int z_width, .int z_first, .int z_moved, .int z_deepest, .int xL, .int yL, .int (nI t_11), .ref m_stack, .ref m_places, .int (nI d), .ref m_kinds, .ref m_ats, .ref m_ends]))] := hD
                exact t_vret hx hb hr hlk d_Mo_curves_63 (hP.subm (ws' := [(mo, .inr (8, [.int z_fault, .int z_size, .ref m_row, .ref m_shelves, .ref m_many, .ref m_widths, .int (nI mL), .ref m_mark, .int z_shown, .ref m_shownMark, .int z_wasRun, .int wL, .int z_ended, .int (nI sp), .int z_hints, .int z_hasWidth, .int z_width, .int z_first, .int z_moved, .int z_deepest, .int xL, .int yL, .int (nI t_11), .ref m_stack, .ref m_places, .int (nI d), .ref m_kinds, .ref m_ats, .ref m_ends])), (m_stack, .inl (cI, 48, .inl g_stack)), (m_mark, .inl (cI, 28000, .inl gm))]) [2, 0, 1] rfl) (hD.sub (ws' := [(mo, .inr (8, [.int z_fault, .int z_size, .ref m_row, .ref m_shelves, .ref m_many, .ref m_widths, .int (nI mL), .ref m_mark, .int z_shown, .ref m_shownMark, .int z_wasRun, .int wL, .int z_ended, .int (nI sp), .int z_hints, .int z_hasWidth, .int z_width, .int z_first, .int z_moved, .int z_deepest, .int xL, .int yL, .int (nI t_11), .ref m_stack, .ref m_places, .int (nI d), .ref m_kinds, .ref m_ats, .ref m_ends])), (m_stack, .inl (cI, 48, .inl g_stack)), (m_mark, .inl (cI, 28000, .inl gm))]) [2, 0, 1] rfl rfl) hS ⟨rfl, rfl, rfl, _, _, _, mL, t_11, _, rfl, (by omega)⟩
              · refine lv_aload_n hx hb d_Mo_curves_48 rfl (lv_at hl 0 rfl) ?_
                refine lv_iload_n hx hb d_Mo_curves_49 rfl (lv_at hl 1 rfl) ?_
                have hC : Cut [(mo, .inr (8, [.int z_fault, .int z_size, .ref m_row, .ref m_shelves, .ref m_many, .ref m_widths, .int (nI mL), .ref m_mark, .int z_shown, .ref m_shownMark, .int z_wasRun, .int wL, .int z_ended, .int (nI sp), .int z_hints, .int z_hasWidth, .int z_width, .int z_first, .int z_moved, .int z_deepest, .int xL, .int yL, .int (nI t), .ref m_stack, .ref m_places, .int (nI d), .ref m_kinds, .ref m_ats, .ref m_ends])), (m_stack, .inl (cI, 48, .inl g_stack)), (m_mark, .inl (cI, 28000, .inl gm))] [(mo, .inr (8, [.int z_fault, .int z_size, .ref m_row, .ref m_shelves, .ref m_many, .ref m_widths, .int (nI mL), .ref m_mark, .int z_shown, .ref m_shownMark, .int z_wasRun, .int wL, .int z_ended, .int (nI sp), .int z_hints, .int z_hasWidth, .int z_width, .int z_first, .int z_moved, .int z_deepest, .int xL, .int yL, .int (nI t), .ref m_stack, .ref m_places, .int (nI d), .ref m_kinds, .ref m_ats, .ref m_ends])), (m_stack, .inl (cI, 48, .inl g_stack)), (m_mark, .inl (cI, 28000, .inl gm))] [] [0, 1, 2] [] := ⟨rfl, rfl, rfl, rfl, by decide⟩
                refine goV0 (trV (As := [.int (nI i)]) (rest := []) ⟨hx, hb, hml, hown, hts⟩ gd_good (c_Mo_six l D cB cI cJ mo m_row m_shelves m_many m_widths m_mark m_shownMark m_stack m_places m_kinds m_ats m_ends mL sp t d z_fault z_size z_shown z_wasRun wL z_ended z_hints z_hasWidth z_width z_first z_moved z_deepest xL yL g_stack gm i (by omega) (by omega)) cal_Mo_six ml_Mo_169 ⟨Nat.le_of_ble_eq_true rfl, Nat.le_of_ble_eq_true rfl⟩ hZ hP hD hC 0 (ci := 8) rfl rfl rfl rfl hl.1 rfl (Nat.le_of_ble_eq_true rfl) d_Mo_curves_50 ⟨Nat.le_of_ble_eq_true rfl, Nat.le_of_ble_eq_true rfl⟩) hZ hP hD hS hC (fun w1 H locs hq hP hD hS => ?_)
                obtain ⟨z_x_12, z_y_12, z_wrong_12, mk_12, g_mark_12, rfl, hv_12⟩ := hq
                have hP : va_P D classes [(mo, .inr (8, [.int z_fault, .int z_size, .ref m_row, .ref m_shelves, .ref m_many, .ref m_widths, .int (nI mk_12), .ref m_mark, .int z_shown, .ref m_shownMark, .int z_wasRun, .int z_wrong_12, .int z_ended, .int (nI sp), .int z_hints, .int z_hasWidth, .int z_width, .int z_first, .int z_moved, .int z_deepest, .int z_x_12, .int z_y_12, .int (nI t), .ref m_stack, .ref m_places, .int (nI d), .ref m_kinds, .ref m_ats, .ref m_ends])), (m_stack, .inl (cI, 48, .inl g_stack)), (m_mark, .inl (cI, 28000, .inl g_mark_12))] H := hP
                have hD : va_D A_ [(mo, .inr (8, [.int z_fault, .int z_size, .ref m_row, .ref m_shelves, .ref m_many, .ref m_widths, .int (nI mk_12), .ref m_mark, .int z_shown, .ref m_shownMark, .int z_wasRun, .int z_wrong_12, .int z_ended, .int (nI sp), .int z_hints, .int z_hasWidth, .int z_width, .int z_first, .int z_moved, .int z_deepest, .int z_x_12, .int z_y_12, .int (nI t), .ref m_stack, .ref m_places, .int (nI d), .ref m_kinds, .ref m_ats, .ref m_ends])), (m_stack, .inl (cI, 48, .inl g_stack)), (m_mark, .inl (cI, 28000, .inl g_mark_12))] := hD
                refine lv_iinc (v := nI (i + 6)) (lv' := [(1, .int (nI (i + 6))), (0, .ref mo)]) hx hb d_Mo_curves_53 hl (k := 1) rfl (nI_add i 6) (by decide) rfl (fun ls hl => ?_)
                refine lv_goto (tgt := 33) hx hb d_Mo_curves_56 (by decide) ?_
                exact ih_33  (i + 6) z_x_12 z_y_12 z_wrong_12 mk_12 g_mark_12 _ _ _ ⟨by omega, by omega, by omega⟩ (by omega) (hP.subm [0, 1, 2] rfl) (hD.sub [0, 1, 2] rfl rfl) hS (lv_sub hl [1, 0] rfl)
        exact lp_33 _ 0 z_x z_y z_wrong_9 mk g_mark _ _ _ ⟨by omega, by omega, by omega⟩ (Nat.lt_succ_self _) (hP.subm [2, 0, 1] rfl) (hD.sub [2, 0, 1] rfl rfl) hS (lv_sub hl [1, 0] rfl)
set_option maxHeartbeats 1000000 in
set_option maxRecDepth 100000 in
theorem c_Mo_flats (l : Launch) (D : va_G) (cB cI cJ : ClassId) (mo m_row m_shelves m_many m_widths m_mark m_shownMark m_stack m_places m_kinds m_ats m_ends : Nat) (mk sp t d : Nat) (z_fault z_size z_shown z_wasRun z_wrong z_ended z_hints z_hasWidth z_width z_first z_moved z_deepest z_x z_y : Int32) (g_stack g_mark : Nat → Int32) (c : Int32) (hiv : t ≤ 48 ∧ d ≤ 10 ∧ mk ≤ 4000 ∧ sp ≤ 20000) : Tr l D classes (TY cB cI cJ) gd_tbl nx_tbl y_Mo_flats b_Mo_flats 5 none ({ frames := 3, cells := 0, slots := 0, locals := 77 }) [.ref mo, .int c] [(mo, .inr (8, [.int z_fault, .int z_size, .ref m_row, .ref m_shelves, .ref m_many, .ref m_widths, .int (nI mk), .ref m_mark, .int z_shown, .ref m_shownMark, .int z_wasRun, .int z_wrong, .int z_ended, .int (nI sp), .int z_hints, .int z_hasWidth, .int z_width, .int z_first, .int z_moved, .int z_deepest, .int z_x, .int z_y, .int (nI t), .ref m_stack, .ref m_places, .int (nI d), .ref m_kinds, .ref m_ats, .ref m_ends])), (m_stack, .inl (cI, 48, .inl g_stack)), (m_mark, .inl (cI, 28000, .inl g_mark))] (pV0 (fun w => ∃ (z_x' : Int32) (z_y' : Int32) (z_wrong' : Int32) (mk' : Nat) (t' : Nat) (g_mark' : Nat → Int32), w = [(mo, .inr (8, [.int z_fault, .int z_size, .ref m_row, .ref m_shelves, .ref m_many, .ref m_widths, .int (nI mk'), .ref m_mark, .int z_shown, .ref m_shownMark, .int z_wasRun, .int z_wrong', .int z_ended, .int (nI sp), .int z_hints, .int z_hasWidth, .int z_width, .int z_first, .int z_moved, .int z_deepest, .int z_x', .int z_y', .int (nI t'), .ref m_stack, .ref m_places, .int (nI d), .ref m_kinds, .ref m_ats, .ref m_ends])), (m_stack, .inl (cI, 48, .inl g_stack)), (m_mark, .inl (cI, 28000, .inl g_mark'))] ∧ (t' ≤ 48 ∧ d ≤ 10 ∧ mk' ≤ 4000 ∧ sp ≤ 20000))) := by
  refine Tr.intro (by decide +kernel) nx_ok (Nat.le_of_ble_eq_true rfl) ?_
  intro p_ e_ s_ m_ args_ below_ meth_ c_ A_ ls hx hb hml hown hts hr hlk hnm hZ hP hD hS hl
  have hl : lv_has ls 5 [(0, .ref mo), (1, .int c)] := hl
  refine lv_aload_n hx hb d_Mo_flats_0 rfl (lv_at hl 0 rfl) ?_
  refine lv_aload_n hx hb d_Mo_flats_1 rfl (lv_at hl 0 rfl) ?_
  refine va_get (D := D) (ci := 8) (v := .int (nI t)) (C := R_Mo) (T := F_Mo) (N := 29) hx hb hts i_Mo hown hZ.1 hP 0 rfl rfl 22 (by decide) (hts _ fl_Mo_82) (fun _ h9 => h9) rfl d_Mo_flats_2 ?_
  refine lv_iconst (v := 4) hx hb d_Mo_flats_5 (by decide) ?_
  refine lv_icmp_lt (tgt := 23) hx hb d_Mo_flats_6 (by decide) (fun c_6 => ?_) (fun c_6 => ?_)
  · have n_6 : (t) < (4) := (nI_ltI (a := t) (b := 4) (by omega) (by omega)).mp c_6
    refine lv_iconst (v := 0) hx hb d_Mo_flats_23 (by decide) ?_
    have hC : Cut [(mo, .inr (8, [.int z_fault, .int z_size, .ref m_row, .ref m_shelves, .ref m_many, .ref m_widths, .int (nI mk), .ref m_mark, .int z_shown, .ref m_shownMark, .int z_wasRun, .int z_wrong, .int z_ended, .int (nI sp), .int z_hints, .int z_hasWidth, .int z_width, .int z_first, .int z_moved, .int z_deepest, .int z_x, .int z_y, .int (nI t), .ref m_stack, .ref m_places, .int (nI d), .ref m_kinds, .ref m_ats, .ref m_ends])), (m_stack, .inl (cI, 48, .inl g_stack)), (m_mark, .inl (cI, 28000, .inl g_mark))] [(mo, .inr (8, [.int z_fault, .int z_size, .ref m_row, .ref m_shelves, .ref m_many, .ref m_widths, .int (nI mk), .ref m_mark, .int z_shown, .ref m_shownMark, .int z_wasRun, .int z_wrong, .int z_ended, .int (nI sp), .int z_hints, .int z_hasWidth, .int z_width, .int z_first, .int z_moved, .int z_deepest, .int z_x, .int z_y, .int (nI t), .ref m_stack, .ref m_places, .int (nI d), .ref m_kinds, .ref m_ats, .ref m_ends]))] [(m_stack, .inl (cI, 48, .inl g_stack)), (m_mark, .inl (cI, 28000, .inl g_mark))] [0] [1, 2] := ⟨rfl, rfl, rfl, rfl, by decide⟩
    refine goI0 (trV (As := [.int 0]) (rest := []) ⟨hx, hb, hml, hown, hts⟩ gd_good (c_Mo_may l D cB cI cJ mo m_row m_shelves m_many m_widths m_mark m_shownMark m_stack m_places m_kinds m_ats m_ends mk sp t d z_fault z_size z_shown z_wasRun z_wrong z_ended z_hints z_hasWidth z_width z_first z_moved z_deepest z_x z_y 0 (by omega) ) cal_Mo_may ml_Mo_162 ⟨Nat.le_of_ble_eq_true rfl, Nat.le_of_ble_eq_true rfl⟩ hZ hP hD hC 0 (ci := 8) rfl rfl rfl rfl hl.1 rfl (Nat.le_of_ble_eq_true rfl) d_Mo_flats_24 ⟨Nat.le_of_ble_eq_true rfl, Nat.le_of_ble_eq_true rfl⟩) hZ hP hD hS hC (fun r_24 w1 H locs hq hP hD hS => ?_)
    obtain ⟨z_wrong_1, rfl, hv_1, hx_1, hz_1⟩ := hq
    have hP : va_P D classes [(m_stack, .inl (cI, 48, .inl g_stack)), (m_mark, .inl (cI, 28000, .inl g_mark)), (mo, .inr (8, [.int z_fault, .int z_size, .ref m_row, .ref m_shelves, .ref m_many, .ref m_widths, .int (nI mk), .ref m_mark, .int z_shown, .ref m_shownMark, .int z_wasRun, .int z_wrong_1, .int z_ended, .int (nI sp), .int z_hints, .int z_hasWidth, .int z_width, .int z_first, .int z_moved, .int z_deepest, .int z_x, .int z_y, .int (nI t), .ref m_stack, .ref m_places, .int (nI d), .ref m_kinds, .ref m_ats, .ref m_ends]))] H := hP
    have hD : va_D A_ [(m_stack, .inl (cI, 48, .inl g_stack)), (m_mark, .inl (cI, 28000, .inl g_mark)), (mo, .inr (8, [.int z_fault, .int z_size, .ref m_row, .ref m_shelves, .ref m_many, .ref m_widths, .int (nI mk), .ref m_mark, .int z_shown, .ref m_shownMark, .int z_wasRun, .int z_wrong_1, .int z_ended, .int (nI sp), .int z_hints, .int z_hasWidth, .int z_width, .int z_first, .int z_moved, .int z_deepest, .int z_x, .int z_y, .int (nI t), .ref m_stack, .ref m_places, .int (nI d), .ref m_kinds, .ref m_ats, .ref m_ends]))] := hD
    refine lv_if_eq (tgt := 162) hx hb d_Mo_flats_27 (by decide) (fun c_27 => ?_) (fun c_27 => ?_)
    · exact t_vret hx hb hr hlk d_Mo_flats_162 (hP.subm (ws' := [(mo, .inr (8, [.int z_fault, .int z_size, .ref m_row, .ref m_shelves, .ref m_many, .ref m_widths, .int (nI mk), .ref m_mark, .int z_shown, .ref m_shownMark, .int z_wasRun, .int z_wrong_1, .int z_ended, .int (nI sp), .int z_hints, .int z_hasWidth, .int z_width, .int z_first, .int z_moved, .int z_deepest, .int z_x, .int z_y, .int (nI t), .ref m_stack, .ref m_places, .int (nI d), .ref m_kinds, .ref m_ats, .ref m_ends])), (m_stack, .inl (cI, 48, .inl g_stack)), (m_mark, .inl (cI, 28000, .inl g_mark))]) [2, 0, 1] rfl) (hD.sub (ws' := [(mo, .inr (8, [.int z_fault, .int z_size, .ref m_row, .ref m_shelves, .ref m_many, .ref m_widths, .int (nI mk), .ref m_mark, .int z_shown, .ref m_shownMark, .int z_wasRun, .int z_wrong_1, .int z_ended, .int (nI sp), .int z_hints, .int z_hasWidth, .int z_width, .int z_first, .int z_moved, .int z_deepest, .int z_x, .int z_y, .int (nI t), .ref m_stack, .ref m_places, .int (nI d), .ref m_kinds, .ref m_ats, .ref m_ends])), (m_stack, .inl (cI, 48, .inl g_stack)), (m_mark, .inl (cI, 28000, .inl g_mark))]) [2, 0, 1] rfl rfl) hS ⟨rfl, rfl, rfl, _, _, _, mk, t, _, rfl, (by omega)⟩
    · refine lv_aload_n hx hb d_Mo_flats_30 rfl (lv_at hl 0 rfl) ?_
      refine va_get (D := D) (ci := 8) (v := .int (nI t)) (C := R_Mo) (T := F_Mo) (N := 29) hx hb hts i_Mo hown hZ.1 hP 2 rfl rfl 22 (by decide) (hts _ fl_Mo_82) (fun _ h9 => h9) rfl d_Mo_flats_31 ?_
      refine lv_iconst (v := 4) hx hb d_Mo_flats_34 (by decide) ?_
      refine lv_irem hx hb d_Mo_flats_35 (by decide) ?_
      refine lv_tv (y := nI (t % 4)) (pk_rem (a := t) (d := 4) (by omega) (by omega) (by omega)) ?_
      refine lv_istore_n (lv' := [(2, .int (nI (t % 4))), (0, .ref mo), (1, .int c)]) hx hb d_Mo_flats_36 rfl hl (by decide) rfl (fun ls hl => ?_)
      refine lv_iload_n hx hb d_Mo_flats_37 rfl (lv_at hl 0 rfl) ?_
      refine lv_istore_n (lv' := [(3, .int (nI (t % 4))), (2, .int (nI (t % 4))), (0, .ref mo), (1, .int c)]) hx hb d_Mo_flats_38 rfl hl (by decide) rfl (fun ls hl => ?_)
      have lp_39 : ∀ (fu : Nat) (i : Nat) (xL : Int32) (yL : Int32) (wL : Int32) (mL : Nat) (gm : Nat → Int32) (H : Heap) (locs : List Loc) (ls : Array Slot), (mL ≤ 4000 ∧ i ≤ 60 ∧ i % 4 = t % 4) → (70 - i) < fu → va_P D classes [(mo, .inr (8, [.int z_fault, .int z_size, .ref m_row, .ref m_shelves, .ref m_many, .ref m_widths, .int (nI mL), .ref m_mark, .int z_shown, .ref m_shownMark, .int z_wasRun, .int wL, .int z_ended, .int (nI sp), .int z_hints, .int z_hasWidth, .int z_width, .int z_first, .int z_moved, .int z_deepest, .int xL, .int yL, .int (nI t), .ref m_stack, .ref m_places, .int (nI d), .ref m_kinds, .ref m_ats, .ref m_ends])), (m_stack, .inl (cI, 48, .inl g_stack)), (m_mark, .inl (cI, 28000, .inl gm))] H → va_D A_ [(mo, .inr (8, [.int z_fault, .int z_size, .ref m_row, .ref m_shelves, .ref m_many, .ref m_widths, .int (nI mL), .ref m_mark, .int z_shown, .ref m_shownMark, .int z_wasRun, .int wL, .int z_ended, .int (nI sp), .int z_hints, .int z_hasWidth, .int z_width, .int z_first, .int z_moved, .int z_deepest, .int xL, .int yL, .int (nI t), .ref m_stack, .ref m_places, .int (nI d), .ref m_kinds, .ref m_ats, .ref m_ends])), (m_stack, .inl (cI, 48, .inl g_stack)), (m_mark, .inl (cI, 28000, .inl gm))] → va_S A_ s_.heap H locs → lv_has ls 5 [(0, .ref mo), (1, .int c), (2, .int (nI (t % 4))), (3, .int (nI i))] → W p_ l e_ ({ frames := 3, cells := 0, slots := 0, locals := 77 }) s_ m_ args_ below_ meth_ c_ H locs (0) (0) (MQT below_ D classes A_ (pV0 (fun w => ∃ (z_x' : Int32) (z_y' : Int32) (z_wrong' : Int32) (mk' : Nat) (t' : Nat) (g_mark' : Nat → Int32), w = [(mo, .inr (8, [.int z_fault, .int z_size, .ref m_row, .ref m_shelves, .ref m_many, .ref m_widths, .int (nI mk'), .ref m_mark, .int z_shown, .ref m_shownMark, .int z_wasRun, .int z_wrong', .int z_ended, .int (nI sp), .int z_hints, .int z_hasWidth, .int z_width, .int z_first, .int z_moved, .int z_deepest, .int z_x', .int z_y', .int (nI t'), .ref m_stack, .ref m_places, .int (nI d), .ref m_kinds, .ref m_ats, .ref m_ends])), (m_stack, .inl (cI, 48, .inl g_stack)), (m_mark, .inl (cI, 28000, .inl g_mark'))] ∧ (t' ≤ 48 ∧ d ≤ 10 ∧ mk' ≤ 4000 ∧ sp ≤ 20000))) s_) (F0 m_ 39 ls []) := by
        intro fu
        induction fu with
        | zero => intro i xL yL wL mL gm H locs ls hinv hfu; exact absurd hfu (Nat.not_lt_zero _)
        | succ fu ih_39 =>
          intro i xL yL wL mL gm H locs ls hinv hfu hP hD hS hl
          obtain ⟨hmL, hi1, hi2⟩ := hinv
          refine lv_iload_n hx hb d_Mo_flats_39 rfl (lv_at hl 3 rfl) ?_
          refine lv_aload_n hx hb d_Mo_flats_40 rfl (lv_at hl 0 rfl) ?_
          refine va_get (D := D) (ci := 8) (v := .int (nI t)) (C := R_Mo) (T := F_Mo) (N := 29) hx hb hts i_Mo hown hZ.1 hP 0 rfl rfl 22 (by decide) (hts _ fl_Mo_82) (fun _ h9 => h9) rfl d_Mo_flats_41 ?_
          refine lv_icmp_ge (tgt := 158) hx hb d_Mo_flats_44 (by decide) (fun c_44 => ?_) (fun c_44 => ?_)
          · have n_44 : (t) ≤ (i) := (nI_leI (a := t) (b := i) (by omega) (by omega)).mp c_44
            refine lv_aload_n hx hb d_Mo_flats_158 rfl (lv_at hl 0 rfl) ?_
            have hC : Cut [(mo, .inr (8, [.int z_fault, .int z_size, .ref m_row, .ref m_shelves, .ref m_many, .ref m_widths, .int (nI mL), .ref m_mark, .int z_shown, .ref m_shownMark, .int z_wasRun, .int wL, .int z_ended, .int (nI sp), .int z_hints, .int z_hasWidth, .int z_width, .int z_first, .int z_moved, .int z_deepest, .int xL, .int yL, .int (nI t), .ref m_stack, .ref m_places, .int (nI d), .ref m_kinds, .ref m_ats, .ref m_ends])), (m_stack, .inl (cI, 48, .inl g_stack)), (m_mark, .inl (cI, 28000, .inl gm))] [(mo, .inr (8, [.int z_fault, .int z_size, .ref m_row, .ref m_shelves, .ref m_many, .ref m_widths, .int (nI mL), .ref m_mark, .int z_shown, .ref m_shownMark, .int z_wasRun, .int wL, .int z_ended, .int (nI sp), .int z_hints, .int z_hasWidth, .int z_width, .int z_first, .int z_moved, .int z_deepest, .int xL, .int yL, .int (nI t), .ref m_stack, .ref m_places, .int (nI d), .ref m_kinds, .ref m_ats, .ref m_ends]))] [(m_stack, .inl (cI, 48, .inl g_stack)), (m_mark, .inl (cI, 28000, .inl gm))] [0] [1, 2] := ⟨rfl, rfl, rfl, rfl, by decide⟩
            refine goV0 (trV (As := []) (rest := []) ⟨hx, hb, hml, hown, hts⟩ gd_good (c_Mo_take_V l D cB cI cJ mo m_row m_shelves m_many m_widths m_mark m_shownMark m_stack m_places m_kinds m_ats m_ends mL sp t d z_fault z_size z_shown z_wasRun wL z_ended z_hints z_hasWidth z_width z_first z_moved z_deepest xL yL (by omega) ) cal_Mo_take_V ml_Mo_155 ⟨Nat.le_of_ble_eq_true rfl, Nat.le_of_ble_eq_true rfl⟩ hZ hP hD hC 0 (ci := 8) rfl rfl rfl rfl hl.1 rfl (Nat.le_of_ble_eq_true rfl) d_Mo_flats_159 ⟨Nat.le_of_ble_eq_true rfl, Nat.le_of_ble_eq_true rfl⟩) hZ hP hD hS hC (fun w1 H locs hq hP hD hS => ?_)
            obtain ⟨t_2, rfl, hv_2⟩ := hq
            have hP : va_P D classes [(m_stack, .inl (cI, 48, .inl g_stack)), (m_mark, .inl (cI, 28000, .inl gm)), (mo, .inr (8, [.int z_fault, .int z_size, .ref m_row, .ref m_shelves, .ref m_many, .ref m_widths, .int (nI mL), .ref m_mark, .int z_shown, .ref m_shownMark, .int z_wasRun, .int wL, .int z_ended, .int (nI sp), .int z_hints, .int z_hasWidth, .int z_width, .int z_first, .int z_moved, .int z_deepest, .int xL, .int yL, .int (nI t_2), .ref m_stack, .ref m_places, .int (nI d), .ref m_kinds, .ref m_ats, .ref m_ends]))] H := hP
            have hD : va_D A_ [(m_stack, .inl (cI, 48, .inl g_stack)), (m_mark, .inl (cI, 28000, .inl gm)), (mo, .inr (8, [.int z_fault, .int z_size, .ref m_row, .ref m_shelves, .ref m_many, .ref m_widths, .int (nI mL), .ref m_mark, .int z_shown, .ref m_shownMark, .int z_wasRun, .int wL, .int z_ended, .int (nI sp), .int z_hints, .int z_hasWidth, .int z_width, .int z_first, .int z_moved, .int z_deepest, .int xL, .int yL, .int (nI t_2), .ref m_stack, .ref m_places, .int (nI d), .ref m_kinds, .ref m_ats, .ref m_ends]))] := hD
            exact t_vret hx hb hr hlk d_Mo_flats_162 (hP.subm (ws' := [(mo, .inr (8, [.int z_fault, .int z_size, .ref m_row, .ref m_shelves, .ref m_many, .ref m_widths, .int (nI mL), .ref m_mark, .int z_shown, .ref m_shownMark, .int z_wasRun, .int wL, .int z_ended, .int (nI sp), .int z_hints, .int z_hasWidth, .int z_width, .int z_first, .int z_moved, .int z_deepest, .int xL, .int yL, .int (nI t_2), .ref m_stack, .ref m_places, .int (nI d), .ref m_kinds, .ref m_ats, .ref m_ends])), (m_stack, .inl (cI, 48, .inl g_stack)), (m_mark, .inl (cI, 28000, .inl gm))]) [2, 0, 1] rfl) (hD.sub (ws' := [(mo, .inr (8, [.int z_fault, .int z_size, .ref m_row, .ref m_shelves, .ref m_many, .ref m_widths, .int (nI mL), .ref m_mark, .int z_shown, .ref m_shownMark, .int z_wasRun, .int wL, .int z_ended, .int (nI sp), .int z_hints, .int z_hasWidth, .int z_width, .int z_first, .int z_moved, .int z_deepest, .int xL, .int yL, .int (nI t_2), .ref m_stack, .ref m_places, .int (nI d), .ref m_kinds, .ref m_ats, .ref m_ends])), (m_stack, .inl (cI, 48, .inl g_stack)), (m_mark, .inl (cI, 28000, .inl gm))]) [2, 0, 1] rfl rfl) hS ⟨rfl, rfl, rfl, _, _, _, mL, t_2, _, rfl, (by omega)⟩
          · have n_44 : ¬ (t) ≤ (i) := fun z => c_44 ((nI_leI (a := t) (b := i) (by omega) (by omega)).mpr z)
            refine lv_aload_n hx hb d_Mo_flats_47 rfl (lv_at hl 0 rfl) ?_
            refine va_get (D := D) (ci := 8) (v := .int wL) (C := R_Mo) (T := F_Mo) (N := 29) hx hb hts i_Mo hown hZ.1 hP 0 rfl rfl 11 (by decide) (hts _ fl_Mo_75) (fun _ h9 => h9) rfl d_Mo_flats_48 ?_
            refine lv_if_ne (tgt := 158) hx hb d_Mo_flats_51 (by decide) (fun c_51 => ?_) (fun c_51 => ?_)
            · refine lv_aload_n hx hb d_Mo_flats_158 rfl (lv_at hl 0 rfl) ?_
              have hC : Cut [(mo, .inr (8, [.int z_fault, .int z_size, .ref m_row, .ref m_shelves, .ref m_many, .ref m_widths, .int (nI mL), .ref m_mark, .int z_shown, .ref m_shownMark, .int z_wasRun, .int wL, .int z_ended, .int (nI sp), .int z_hints, .int z_hasWidth, .int z_width, .int z_first, .int z_moved, .int z_deepest, .int xL, .int yL, .int (nI t), .ref m_stack, .ref m_places, .int (nI d), .ref m_kinds, .ref m_ats, .ref m_ends])), (m_stack, .inl (cI, 48, .inl g_stack)), (m_mark, .inl (cI, 28000, .inl gm))] [(mo, .inr (8, [.int z_fault, .int z_size, .ref m_row, .ref m_shelves, .ref m_many, .ref m_widths, .int (nI mL), .ref m_mark, .int z_shown, .ref m_shownMark, .int z_wasRun, .int wL, .int z_ended, .int (nI sp), .int z_hints, .int z_hasWidth, .int z_width, .int z_first, .int z_moved, .int z_deepest, .int xL, .int yL, .int (nI t), .ref m_stack, .ref m_places, .int (nI d), .ref m_kinds, .ref m_ats, .ref m_ends]))] [(m_stack, .inl (cI, 48, .inl g_stack)), (m_mark, .inl (cI, 28000, .inl gm))] [0] [1, 2] := ⟨rfl, rfl, rfl, rfl, by decide⟩
              refine goV0 (trV (As := []) (rest := []) ⟨hx, hb, hml, hown, hts⟩ gd_good (c_Mo_take_V l D cB cI cJ mo m_row m_shelves m_many m_widths m_mark m_shownMark m_stack m_places m_kinds m_ats m_ends mL sp t d z_fault z_size z_shown z_wasRun wL z_ended z_hints z_hasWidth z_width z_first z_moved z_deepest xL yL (by omega) ) cal_Mo_take_V ml_Mo_155 ⟨Nat.le_of_ble_eq_true rfl, Nat.le_of_ble_eq_true rfl⟩ hZ hP hD hC 0 (ci := 8) rfl rfl rfl rfl hl.1 rfl (Nat.le_of_ble_eq_true rfl) d_Mo_flats_159 ⟨Nat.le_of_ble_eq_true rfl, Nat.le_of_ble_eq_true rfl⟩) hZ hP hD hS hC (fun w1 H locs hq hP hD hS => ?_)
              obtain ⟨t_3, rfl, hv_3⟩ := hq
              have hP : va_P D classes [(m_stack, .inl (cI, 48, .inl g_stack)), (m_mark, .inl (cI, 28000, .inl gm)), (mo, .inr (8, [.int z_fault, .int z_size, .ref m_row, .ref m_shelves, .ref m_many, .ref m_widths, .int (nI mL), .ref m_mark, .int z_shown, .ref m_shownMark, .int z_wasRun, .int wL, .int z_ended, .int (nI sp), .int z_hints, .int z_hasWidth, .int z_width, .int z_first, .int z_moved, .int z_deepest, .int xL, .int yL, .int (nI t_3), .ref m_stack, .ref m_places, .int (nI d), .ref m_kinds, .ref m_ats, .ref m_ends]))] H := hP
              have hD : va_D A_ [(m_stack, .inl (cI, 48, .inl g_stack)), (m_mark, .inl (cI, 28000, .inl gm)), (mo, .inr (8, [.int z_fault, .int z_size, .ref m_row, .ref m_shelves, .ref m_many, .ref m_widths, .int (nI mL), .ref m_mark, .int z_shown, .ref m_shownMark, .int z_wasRun, .int wL, .int z_ended, .int (nI sp), .int z_hints, .int z_hasWidth, .int z_width, .int z_first, .int z_moved, .int z_deepest, .int xL, .int yL, .int (nI t_3), .ref m_stack, .ref m_places, .int (nI d), .ref m_kinds, .ref m_ats, .ref m_ends]))] := hD
              exact t_vret hx hb hr hlk d_Mo_flats_162 (hP.subm (ws' := [(mo, .inr (8, [.int z_fault, .int z_size, .ref m_row, .ref m_shelves, .ref m_many, .ref m_widths, .int (nI mL), .ref m_mark, .int z_shown, .ref m_shownMark, .int z_wasRun, .int wL, .int z_ended, .int (nI sp), .int z_hints, .int z_hasWidth, .int z_width, .int z_first, .int z_moved, .int z_deepest, .int xL, .int yL, .int (nI t_3), .ref m_stack, .ref m_places, .int (nI d), .ref m_kinds, .ref m_ats, .ref m_ends])), (m_stack, .inl (cI, 48, .inl g_stack)), (m_mark, .inl (cI, 28000, .inl gm))]) [2, 0, 1] rfl) (hD.sub (ws' := [(mo, .inr (8, [.int z_fault, .int z_size, .ref m_row, .ref m_shelves, .ref m_many, .ref m_widths, .int (nI mL), .ref m_mark, .int z_shown, .ref m_shownMark, .int z_wasRun, .int wL, .int z_ended, .int (nI sp), .int z_hints, .int z_hasWidth, .int z_width, .int z_first, .int z_moved, .int z_deepest, .int xL, .int yL, .int (nI t_3), .ref m_stack, .ref m_places, .int (nI d), .ref m_kinds, .ref m_ats, .ref m_ends])), (m_stack, .inl (cI, 48, .inl g_stack)), (m_mark, .inl (cI, 28000, .inl gm))]) [2, 0, 1] rfl rfl) hS ⟨rfl, rfl, rfl, _, _, _, mL, t_3, _, rfl, (by omega)⟩
            · refine lv_iload_n hx hb d_Mo_flats_54 rfl (lv_at hl 3 rfl) ?_
              refine lv_iconst (v := 1) hx hb d_Mo_flats_55 (by decide) ?_
              refine lv_icmp_ne (tgt := 68) hx hb d_Mo_flats_56 (by decide) (fun c_56 => ?_) (fun c_56 => ?_)
              · have n_56 : ¬ (i) = (1) := fun z => c_56 ((nI_eq (a := i) (b := 1) (by omega) (by omega)).mpr z)
                refine lv_iconst (v := 0) hx hb d_Mo_flats_68 (by decide) ?_
                refine lv_istore (lv' := [(4, .int 0), (0, .ref mo), (1, .int c), (2, .int (nI (t % 4))), (3, .int (nI i))]) hx hb d_Mo_flats_69 hl (by decide) rfl (fun ls hl => ?_)
                refine lv_iload_n hx hb d_Mo_flats_71 rfl (lv_at hl 2 rfl) ?_
                refine lv_if_eq (tgt := 115) hx hb d_Mo_flats_72 (by decide) (fun c_72 => ?_) (fun c_72 => ?_)
                · refine lv_aload_n hx hb d_Mo_flats_115 rfl (lv_at hl 1 rfl) ?_
                  refine lv_iload hx hb d_Mo_flats_116 (lv_at hl 0 rfl) ?_
                  refine lv_aload_n hx hb d_Mo_flats_118 rfl (lv_at hl 1 rfl) ?_
                  refine va_get (D := D) (ci := 8) (v := .ref m_stack) (C := R_Mo) (T := F_Mo) (N := 29) hx hb hts i_Mo hown hZ.1 hP 0 rfl rfl 23 (by decide) (hts _ fl_Mo_29) (fun _ h9 => h9) rfl d_Mo_flats_119 ?_
                  refine lv_iload_n hx hb d_Mo_flats_122 rfl (lv_at hl 4 rfl) ?_
                  refine va_iald hx hb hZ.1 hP 1 1 rfl rfl (vp_in_nI (by omega) (by omega)) d_Mo_flats_123 ?_
                  refine lv_tv (y := g_stack i) (by rw [nI_clamp (by omega)]) ?_
                  refine lv_aload_n hx hb d_Mo_flats_124 rfl (lv_at hl 1 rfl) ?_
                  refine va_get (D := D) (ci := 8) (v := .ref m_stack) (C := R_Mo) (T := F_Mo) (N := 29) hx hb hts i_Mo hown hZ.1 hP 0 rfl rfl 23 (by decide) (hts _ fl_Mo_29) (fun _ h9 => h9) rfl d_Mo_flats_125 ?_
                  refine lv_iload_n hx hb d_Mo_flats_128 rfl (lv_at hl 4 rfl) ?_
                  refine lv_iconst (v := 1) hx hb d_Mo_flats_129 (by decide) ?_
                  refine lv_iadd hx hb d_Mo_flats_130 ?_
                  refine lv_tv (y := nI (i + 1)) (nI_add i 1) ?_
                  refine va_iald hx hb hZ.1 hP 1 1 rfl rfl (vp_in_nI (by omega) (by omega)) d_Mo_flats_131 ?_
                  refine lv_tv (y := g_stack (i + 1)) (by rw [nI_clamp (by omega)]) ?_
                  refine lv_aload_n hx hb d_Mo_flats_132 rfl (lv_at hl 1 rfl) ?_
                  refine va_get (D := D) (ci := 8) (v := .ref m_stack) (C := R_Mo) (T := F_Mo) (N := 29) hx hb hts i_Mo hown hZ.1 hP 0 rfl rfl 23 (by decide) (hts _ fl_Mo_29) (fun _ h9 => h9) rfl d_Mo_flats_133 ?_
                  refine lv_iload_n hx hb d_Mo_flats_136 rfl (lv_at hl 4 rfl) ?_
                  refine lv_iconst (v := 2) hx hb d_Mo_flats_137 (by decide) ?_
                  refine lv_iadd hx hb d_Mo_flats_138 ?_
                  refine lv_tv (y := nI (i + 2)) (nI_add i 2) ?_
                  refine va_iald hx hb hZ.1 hP 1 1 rfl rfl (vp_in_nI (by omega) (by omega)) d_Mo_flats_139 ?_
                  refine lv_tv (y := g_stack (i + 2)) (by rw [nI_clamp (by omega)]) ?_
                  refine lv_iconst (v := 0) hx hb d_Mo_flats_140 (by decide) ?_
                  refine lv_aload_n hx hb d_Mo_flats_141 rfl (lv_at hl 1 rfl) ?_
                  refine va_get (D := D) (ci := 8) (v := .ref m_stack) (C := R_Mo) (T := F_Mo) (N := 29) hx hb hts i_Mo hown hZ.1 hP 0 rfl rfl 23 (by decide) (hts _ fl_Mo_29) (fun _ h9 => h9) rfl d_Mo_flats_142 ?_
                  refine lv_iload_n hx hb d_Mo_flats_145 rfl (lv_at hl 4 rfl) ?_
                  refine lv_iconst (v := 3) hx hb d_Mo_flats_146 (by decide) ?_
                  refine lv_iadd hx hb d_Mo_flats_147 ?_
                  refine lv_tv (y := nI (i + 3)) (nI_add i 3) ?_
                  refine va_iald hx hb hZ.1 hP 1 1 rfl rfl (vp_in_nI (by omega) (by omega)) d_Mo_flats_148 ?_
                  refine lv_tv (y := g_stack (i + 3)) (by rw [nI_clamp (by omega)]) ?_
                  have hC : Cut [(mo, .inr (8, [.int z_fault, .int z_size, .ref m_row, .ref m_shelves, .ref m_many, .ref m_widths, .int (nI mL), .ref m_mark, .int z_shown, .ref m_shownMark, .int z_wasRun, .int wL, .int z_ended, .int (nI sp), .int z_hints, .int z_hasWidth, .int z_width, .int z_first, .int z_moved, .int z_deepest, .int xL, .int yL, .int (nI t), .ref m_stack, .ref m_places, .int (nI d), .ref m_kinds, .ref m_ats, .ref m_ends])), (m_stack, .inl (cI, 48, .inl g_stack)), (m_mark, .inl (cI, 28000, .inl gm))] [(mo, .inr (8, [.int z_fault, .int z_size, .ref m_row, .ref m_shelves, .ref m_many, .ref m_widths, .int (nI mL), .ref m_mark, .int z_shown, .ref m_shownMark, .int z_wasRun, .int wL, .int z_ended, .int (nI sp), .int z_hints, .int z_hasWidth, .int z_width, .int z_first, .int z_moved, .int z_deepest, .int xL, .int yL, .int (nI t), .ref m_stack, .ref m_places, .int (nI d), .ref m_kinds, .ref m_ats, .ref m_ends])), (m_mark, .inl (cI, 28000, .inl gm))] [(m_stack, .inl (cI, 48, .inl g_stack))] [0, 2] [1] := ⟨rfl, rfl, rfl, rfl, by decide⟩
                  refine goV0 (trV (As := [.int 0, .int (g_stack i), .int (g_stack (i + 1)), .int (g_stack (i + 2)), .int 0, .int (g_stack (i + 3))]) (rest := []) ⟨hx, hb, hml, hown, hts⟩ gd_good (c_Mo_curve l D cB cI cJ mo m_row m_shelves m_many m_widths m_mark m_shownMark m_stack m_places m_kinds m_ats m_ends mL sp t d z_fault z_size z_shown z_wasRun wL z_ended z_hints z_hasWidth z_width z_first z_moved z_deepest xL yL gm 0 (g_stack i) (g_stack (i + 1)) (g_stack (i + 2)) 0 (g_stack (i + 3)) (by omega) ) cal_Mo_curve ml_Mo_158 ⟨Nat.le_of_ble_eq_true rfl, Nat.le_of_ble_eq_true rfl⟩ hZ hP hD hC 0 (ci := 8) rfl rfl rfl rfl hl.1 rfl (Nat.le_of_ble_eq_true rfl) d_Mo_flats_149 ⟨Nat.le_of_ble_eq_true rfl, Nat.le_of_ble_eq_true rfl⟩) hZ hP hD hS hC (fun w1 H locs hq hP hD hS => ?_)
                  obtain ⟨z_x_4, z_y_4, z_wrong_4, mk_4, g_mark_4, rfl, hv_4⟩ := hq
                  have hP : va_P D classes [(m_stack, .inl (cI, 48, .inl g_stack)), (mo, .inr (8, [.int z_fault, .int z_size, .ref m_row, .ref m_shelves, .ref m_many, .ref m_widths, .int (nI mk_4), .ref m_mark, .int z_shown, .ref m_shownMark, .int z_wasRun, .int z_wrong_4, .int z_ended, .int (nI sp), .int z_hints, .int z_hasWidth, .int z_width, .int z_first, .int z_moved, .int z_deepest, .int z_x_4, .int z_y_4, .int (nI t), .ref m_stack, .ref m_places, .int (nI d), .ref m_kinds, .ref m_ats, .ref m_ends])), (m_mark, .inl (cI, 28000, .inl g_mark_4))] H := hP
                  have hD : va_D A_ [(m_stack, .inl (cI, 48, .inl g_stack)), (mo, .inr (8, [.int z_fault, .int z_size, .ref m_row, .ref m_shelves, .ref m_many, .ref m_widths, .int (nI mk_4), .ref m_mark, .int z_shown, .ref m_shownMark, .int z_wasRun, .int z_wrong_4, .int z_ended, .int (nI sp), .int z_hints, .int z_hasWidth, .int z_width, .int z_first, .int z_moved, .int z_deepest, .int z_x_4, .int z_y_4, .int (nI t), .ref m_stack, .ref m_places, .int (nI d), .ref m_kinds, .ref m_ats, .ref m_ends])), (m_mark, .inl (cI, 28000, .inl g_mark_4))] := hD
                  refine lv_iinc (v := nI (i + 4)) (lv' := [(3, .int (nI (i + 4))), (4, .int 0), (0, .ref mo), (1, .int c), (2, .int (nI (t % 4)))]) hx hb d_Mo_flats_152 hl (k := 4) rfl (nI_add i 4) (by decide) rfl (fun ls hl => ?_)
                  refine lv_goto (tgt := 39) hx hb d_Mo_flats_155 (by decide) ?_
                  exact ih_39  (i + 4) z_x_4 z_y_4 z_wrong_4 mk_4 g_mark_4 _ _ _ ⟨by omega, by omega, by omega⟩ (by omega) (hP.subm [1, 0, 2] rfl) (hD.sub [1, 0, 2] rfl rfl) hS (lv_sub hl [2, 3, 4, 0] rfl)
                · refine lv_aload_n hx hb d_Mo_flats_75 rfl (lv_at hl 1 rfl) ?_
                  refine lv_aload_n hx hb d_Mo_flats_76 rfl (lv_at hl 1 rfl) ?_
                  refine va_get (D := D) (ci := 8) (v := .ref m_stack) (C := R_Mo) (T := F_Mo) (N := 29) hx hb hts i_Mo hown hZ.1 hP 0 rfl rfl 23 (by decide) (hts _ fl_Mo_29) (fun _ h9 => h9) rfl d_Mo_flats_77 ?_
                  refine lv_iload_n hx hb d_Mo_flats_80 rfl (lv_at hl 4 rfl) ?_
                  refine va_iald hx hb hZ.1 hP 1 1 rfl rfl (vp_in_nI (by omega) (by omega)) d_Mo_flats_81 ?_
                  refine lv_tv (y := g_stack i) (by rw [nI_clamp (by omega)]) ?_
                  refine lv_iload hx hb d_Mo_flats_82 (lv_at hl 0 rfl) ?_
                  refine lv_aload_n hx hb d_Mo_flats_84 rfl (lv_at hl 1 rfl) ?_
                  refine va_get (D := D) (ci := 8) (v := .ref m_stack) (C := R_Mo) (T := F_Mo) (N := 29) hx hb hts i_Mo hown hZ.1 hP 0 rfl rfl 23 (by decide) (hts _ fl_Mo_29) (fun _ h9 => h9) rfl d_Mo_flats_85 ?_
                  refine lv_iload_n hx hb d_Mo_flats_88 rfl (lv_at hl 4 rfl) ?_
                  refine lv_iconst (v := 1) hx hb d_Mo_flats_89 (by decide) ?_
                  refine lv_iadd hx hb d_Mo_flats_90 ?_
                  refine lv_tv (y := nI (i + 1)) (nI_add i 1) ?_
                  refine va_iald hx hb hZ.1 hP 1 1 rfl rfl (vp_in_nI (by omega) (by omega)) d_Mo_flats_91 ?_
                  refine lv_tv (y := g_stack (i + 1)) (by rw [nI_clamp (by omega)]) ?_
                  refine lv_aload_n hx hb d_Mo_flats_92 rfl (lv_at hl 1 rfl) ?_
                  refine va_get (D := D) (ci := 8) (v := .ref m_stack) (C := R_Mo) (T := F_Mo) (N := 29) hx hb hts i_Mo hown hZ.1 hP 0 rfl rfl 23 (by decide) (hts _ fl_Mo_29) (fun _ h9 => h9) rfl d_Mo_flats_93 ?_
                  refine lv_iload_n hx hb d_Mo_flats_96 rfl (lv_at hl 4 rfl) ?_
                  refine lv_iconst (v := 2) hx hb d_Mo_flats_97 (by decide) ?_
                  refine lv_iadd hx hb d_Mo_flats_98 ?_
                  refine lv_tv (y := nI (i + 2)) (nI_add i 2) ?_
                  refine va_iald hx hb hZ.1 hP 1 1 rfl rfl (vp_in_nI (by omega) (by omega)) d_Mo_flats_99 ?_
                  refine lv_tv (y := g_stack (i + 2)) (by rw [nI_clamp (by omega)]) ?_
                  refine lv_aload_n hx hb d_Mo_flats_100 rfl (lv_at hl 1 rfl) ?_
                  refine va_get (D := D) (ci := 8) (v := .ref m_stack) (C := R_Mo) (T := F_Mo) (N := 29) hx hb hts i_Mo hown hZ.1 hP 0 rfl rfl 23 (by decide) (hts _ fl_Mo_29) (fun _ h9 => h9) rfl d_Mo_flats_101 ?_
                  refine lv_iload_n hx hb d_Mo_flats_104 rfl (lv_at hl 4 rfl) ?_
                  refine lv_iconst (v := 3) hx hb d_Mo_flats_105 (by decide) ?_
                  refine lv_iadd hx hb d_Mo_flats_106 ?_
                  refine lv_tv (y := nI (i + 3)) (nI_add i 3) ?_
                  refine va_iald hx hb hZ.1 hP 1 1 rfl rfl (vp_in_nI (by omega) (by omega)) d_Mo_flats_107 ?_
                  refine lv_tv (y := g_stack (i + 3)) (by rw [nI_clamp (by omega)]) ?_
                  refine lv_iconst (v := 0) hx hb d_Mo_flats_108 (by decide) ?_
                  have hC : Cut [(mo, .inr (8, [.int z_fault, .int z_size, .ref m_row, .ref m_shelves, .ref m_many, .ref m_widths, .int (nI mL), .ref m_mark, .int z_shown, .ref m_shownMark, .int z_wasRun, .int wL, .int z_ended, .int (nI sp), .int z_hints, .int z_hasWidth, .int z_width, .int z_first, .int z_moved, .int z_deepest, .int xL, .int yL, .int (nI t), .ref m_stack, .ref m_places, .int (nI d), .ref m_kinds, .ref m_ats, .ref m_ends])), (m_stack, .inl (cI, 48, .inl g_stack)), (m_mark, .inl (cI, 28000, .inl gm))] [(mo, .inr (8, [.int z_fault, .int z_size, .ref m_row, .ref m_shelves, .ref m_many, .ref m_widths, .int (nI mL), .ref m_mark, .int z_shown, .ref m_shownMark, .int z_wasRun, .int wL, .int z_ended, .int (nI sp), .int z_hints, .int z_hasWidth, .int z_width, .int z_first, .int z_moved, .int z_deepest, .int xL, .int yL, .int (nI t), .ref m_stack, .ref m_places, .int (nI d), .ref m_kinds, .ref m_ats, .ref m_ends])), (m_mark, .inl (cI, 28000, .inl gm))] [(m_stack, .inl (cI, 48, .inl g_stack))] [0, 2] [1] := ⟨rfl, rfl, rfl, rfl, by decide⟩
                  refine goV0 (trV (As := [.int (g_stack i), .int 0, .int (g_stack (i + 1)), .int (g_stack (i + 2)), .int (g_stack (i + 3)), .int 0]) (rest := []) ⟨hx, hb, hml, hown, hts⟩ gd_good (c_Mo_curve l D cB cI cJ mo m_row m_shelves m_many m_widths m_mark m_shownMark m_stack m_places m_kinds m_ats m_ends mL sp t d z_fault z_size z_shown z_wasRun wL z_ended z_hints z_hasWidth z_width z_first z_moved z_deepest xL yL gm (g_stack i) 0 (g_stack (i + 1)) (g_stack (i + 2)) (g_stack (i + 3)) 0 (by omega) ) cal_Mo_curve ml_Mo_158 ⟨Nat.le_of_ble_eq_true rfl, Nat.le_of_ble_eq_true rfl⟩ hZ hP hD hC 0 (ci := 8) rfl rfl rfl rfl hl.1 rfl (Nat.le_of_ble_eq_true rfl) d_Mo_flats_109 ⟨Nat.le_of_ble_eq_true rfl, Nat.le_of_ble_eq_true rfl⟩) hZ hP hD hS hC (fun w1 H locs hq hP hD hS => ?_)
                  obtain ⟨z_x_5, z_y_5, z_wrong_5, mk_5, g_mark_5, rfl, hv_5⟩ := hq
                  have hP : va_P D classes [(m_stack, .inl (cI, 48, .inl g_stack)), (mo, .inr (8, [.int z_fault, .int z_size, .ref m_row, .ref m_shelves, .ref m_many, .ref m_widths, .int (nI mk_5), .ref m_mark, .int z_shown, .ref m_shownMark, .int z_wasRun, .int z_wrong_5, .int z_ended, .int (nI sp), .int z_hints, .int z_hasWidth, .int z_width, .int z_first, .int z_moved, .int z_deepest, .int z_x_5, .int z_y_5, .int (nI t), .ref m_stack, .ref m_places, .int (nI d), .ref m_kinds, .ref m_ats, .ref m_ends])), (m_mark, .inl (cI, 28000, .inl g_mark_5))] H := hP
                  have hD : va_D A_ [(m_stack, .inl (cI, 48, .inl g_stack)), (mo, .inr (8, [.int z_fault, .int z_size, .ref m_row, .ref m_shelves, .ref m_many, .ref m_widths, .int (nI mk_5), .ref m_mark, .int z_shown, .ref m_shownMark, .int z_wasRun, .int z_wrong_5, .int z_ended, .int (nI sp), .int z_hints, .int z_hasWidth, .int z_width, .int z_first, .int z_moved, .int z_deepest, .int z_x_5, .int z_y_5, .int (nI t), .ref m_stack, .ref m_places, .int (nI d), .ref m_kinds, .ref m_ats, .ref m_ends])), (m_mark, .inl (cI, 28000, .inl g_mark_5))] := hD
                  refine lv_goto (tgt := 152) hx hb d_Mo_flats_112 (by decide) ?_
                  refine lv_iinc (v := nI (i + 4)) (lv' := [(3, .int (nI (i + 4))), (4, .int 0), (0, .ref mo), (1, .int c), (2, .int (nI (t % 4)))]) hx hb d_Mo_flats_152 hl (k := 4) rfl (nI_add i 4) (by decide) rfl (fun ls hl => ?_)
                  refine lv_goto (tgt := 39) hx hb d_Mo_flats_155 (by decide) ?_
                  exact ih_39  (i + 4) z_x_5 z_y_5 z_wrong_5 mk_5 g_mark_5 _ _ _ ⟨by omega, by omega, by omega⟩ (by omega) (hP.subm [1, 0, 2] rfl) (hD.sub [1, 0, 2] rfl rfl) hS (lv_sub hl [2, 3, 4, 0] rfl)
              · have n_56 : (i) = (1) := (nI_eq (a := i) (b := 1) (by omega) (by omega)).mp c_56
                refine lv_aload_n hx hb d_Mo_flats_59 rfl (lv_at hl 0 rfl) ?_
                refine va_get (D := D) (ci := 8) (v := .ref m_stack) (C := R_Mo) (T := F_Mo) (N := 29) hx hb hts i_Mo hown hZ.1 hP 0 rfl rfl 23 (by decide) (hts _ fl_Mo_29) (fun _ h9 => h9) rfl d_Mo_flats_60 ?_
                refine lv_iconst (v := 0) hx hb d_Mo_flats_63 (by decide) ?_
                refine va_iald hx hb hZ.1 hP 1 1 rfl rfl (show vp_in (nI 0) 48 from vp_in_nI (by decide) (by decide)) d_Mo_flats_64 ?_
                refine lv_tv (y := g_stack 0) rfl ?_
                refine lv_goto (tgt := 69) hx hb d_Mo_flats_65 (by decide) ?_
                refine lv_istore (lv' := [(4, .int (g_stack 0)), (0, .ref mo), (1, .int c), (2, .int (nI (t % 4))), (3, .int (nI i))]) hx hb d_Mo_flats_69 hl (by decide) rfl (fun ls hl => ?_)
                refine lv_iload_n hx hb d_Mo_flats_71 rfl (lv_at hl 2 rfl) ?_
                refine lv_if_eq (tgt := 115) hx hb d_Mo_flats_72 (by decide) (fun c_72 => ?_) (fun c_72 => ?_)
                · refine lv_aload_n hx hb d_Mo_flats_115 rfl (lv_at hl 1 rfl) ?_
                  refine lv_iload hx hb d_Mo_flats_116 (lv_at hl 0 rfl) ?_
                  refine lv_aload_n hx hb d_Mo_flats_118 rfl (lv_at hl 1 rfl) ?_
                  refine va_get (D := D) (ci := 8) (v := .ref m_stack) (C := R_Mo) (T := F_Mo) (N := 29) hx hb hts i_Mo hown hZ.1 hP 0 rfl rfl 23 (by decide) (hts _ fl_Mo_29) (fun _ h9 => h9) rfl d_Mo_flats_119 ?_
                  refine lv_iload_n hx hb d_Mo_flats_122 rfl (lv_at hl 4 rfl) ?_
                  refine va_iald hx hb hZ.1 hP 1 1 rfl rfl (vp_in_nI (by omega) (by omega)) d_Mo_flats_123 ?_
                  refine lv_tv (y := g_stack i) (by rw [nI_clamp (by omega)]) ?_
                  refine lv_aload_n hx hb d_Mo_flats_124 rfl (lv_at hl 1 rfl) ?_
                  refine va_get (D := D) (ci := 8) (v := .ref m_stack) (C := R_Mo) (T := F_Mo) (N := 29) hx hb hts i_Mo hown hZ.1 hP 0 rfl rfl 23 (by decide) (hts _ fl_Mo_29) (fun _ h9 => h9) rfl d_Mo_flats_125 ?_
                  refine lv_iload_n hx hb d_Mo_flats_128 rfl (lv_at hl 4 rfl) ?_
                  refine lv_iconst (v := 1) hx hb d_Mo_flats_129 (by decide) ?_
                  refine lv_iadd hx hb d_Mo_flats_130 ?_
                  refine lv_tv (y := nI (i + 1)) (nI_add i 1) ?_
                  refine va_iald hx hb hZ.1 hP 1 1 rfl rfl (vp_in_nI (by omega) (by omega)) d_Mo_flats_131 ?_
                  refine lv_tv (y := g_stack (i + 1)) (by rw [nI_clamp (by omega)]) ?_
                  refine lv_aload_n hx hb d_Mo_flats_132 rfl (lv_at hl 1 rfl) ?_
                  refine va_get (D := D) (ci := 8) (v := .ref m_stack) (C := R_Mo) (T := F_Mo) (N := 29) hx hb hts i_Mo hown hZ.1 hP 0 rfl rfl 23 (by decide) (hts _ fl_Mo_29) (fun _ h9 => h9) rfl d_Mo_flats_133 ?_
                  refine lv_iload_n hx hb d_Mo_flats_136 rfl (lv_at hl 4 rfl) ?_
                  refine lv_iconst (v := 2) hx hb d_Mo_flats_137 (by decide) ?_
                  refine lv_iadd hx hb d_Mo_flats_138 ?_
                  refine lv_tv (y := nI (i + 2)) (nI_add i 2) ?_
                  refine va_iald hx hb hZ.1 hP 1 1 rfl rfl (vp_in_nI (by omega) (by omega)) d_Mo_flats_139 ?_
                  refine lv_tv (y := g_stack (i + 2)) (by rw [nI_clamp (by omega)]) ?_
                  refine lv_iconst (v := 0) hx hb d_Mo_flats_140 (by decide) ?_
                  refine lv_aload_n hx hb d_Mo_flats_141 rfl (lv_at hl 1 rfl) ?_
                  refine va_get (D := D) (ci := 8) (v := .ref m_stack) (C := R_Mo) (T := F_Mo) (N := 29) hx hb hts i_Mo hown hZ.1 hP 0 rfl rfl 23 (by decide) (hts _ fl_Mo_29) (fun _ h9 => h9) rfl d_Mo_flats_142 ?_
                  refine lv_iload_n hx hb d_Mo_flats_145 rfl (lv_at hl 4 rfl) ?_
                  refine lv_iconst (v := 3) hx hb d_Mo_flats_146 (by decide) ?_
                  refine lv_iadd hx hb d_Mo_flats_147 ?_
                  refine lv_tv (y := nI (i + 3)) (nI_add i 3) ?_
                  refine va_iald hx hb hZ.1 hP 1 1 rfl rfl (vp_in_nI (by omega) (by omega)) d_Mo_flats_148 ?_
                  refine lv_tv (y := g_stack (i + 3)) (by rw [nI_clamp (by omega)]) ?_
                  have hC : Cut [(mo, .inr (8, [.int z_fault, .int z_size, .ref m_row, .ref m_shelves, .ref m_many, .ref m_widths, .int (nI mL), .ref m_mark, .int z_shown, .ref m_shownMark, .int z_wasRun, .int wL, .int z_ended, .int (nI sp), .int z_hints, .int z_hasWidth, .int z_width, .int z_first, .int z_moved, .int z_deepest, .int xL, .int yL, .int (nI t), .ref m_stack, .ref m_places, .int (nI d), .ref m_kinds, .ref m_ats, .ref m_ends])), (m_stack, .inl (cI, 48, .inl g_stack)), (m_mark, .inl (cI, 28000, .inl gm))] [(mo, .inr (8, [.int z_fault, .int z_size, .ref m_row, .ref m_shelves, .ref m_many, .ref m_widths, .int (nI mL), .ref m_mark, .int z_shown, .ref m_shownMark, .int z_wasRun, .int wL, .int z_ended, .int (nI sp), .int z_hints, .int z_hasWidth, .int z_width, .int z_first, .int z_moved, .int z_deepest, .int xL, .int yL, .int (nI t), .ref m_stack, .ref m_places, .int (nI d), .ref m_kinds, .ref m_ats, .ref m_ends])), (m_mark, .inl (cI, 28000, .inl gm))] [(m_stack, .inl (cI, 48, .inl g_stack))] [0, 2] [1] := ⟨rfl, rfl, rfl, rfl, by decide⟩
                  refine goV0 (trV (As := [.int (g_stack 0), .int (g_stack i), .int (g_stack (i + 1)), .int (g_stack (i + 2)), .int 0, .int (g_stack (i + 3))]) (rest := []) ⟨hx, hb, hml, hown, hts⟩ gd_good (c_Mo_curve l D cB cI cJ mo m_row m_shelves m_many m_widths m_mark m_shownMark m_stack m_places m_kinds m_ats m_ends mL sp t d z_fault z_size z_shown z_wasRun wL z_ended z_hints z_hasWidth z_width z_first z_moved z_deepest xL yL gm (g_stack 0) (g_stack i) (g_stack (i + 1)) (g_stack (i + 2)) 0 (g_stack (i + 3)) (by omega) ) cal_Mo_curve ml_Mo_158 ⟨Nat.le_of_ble_eq_true rfl, Nat.le_of_ble_eq_true rfl⟩ hZ hP hD hC 0 (ci := 8) rfl rfl rfl rfl hl.1 rfl (Nat.le_of_ble_eq_true rfl) d_Mo_flats_149 ⟨Nat.le_of_ble_eq_true rfl, Nat.le_of_ble_eq_true rfl⟩) hZ hP hD hS hC (fun w1 H locs hq hP hD hS => ?_)
                  obtain ⟨z_x_6, z_y_6, z_wrong_6, mk_6, g_mark_6, rfl, hv_6⟩ := hq
                  have hP : va_P D classes [(m_stack, .inl (cI, 48, .inl g_stack)), (mo, .inr (8, [.int z_fault, .int z_size, .ref m_row, .ref m_shelves, .ref m_many, .ref m_widths, .int (nI mk_6), .ref m_mark, .int z_shown, .ref m_shownMark, .int z_wasRun, .int z_wrong_6, .int z_ended, .int (nI sp), .int z_hints, .int z_hasWidth, .int z_width, .int z_first, .int z_moved, .int z_deepest, .int z_x_6, .int z_y_6, .int (nI t), .ref m_stack, .ref m_places, .int (nI d), .ref m_kinds, .ref m_ats, .ref m_ends])), (m_mark, .inl (cI, 28000, .inl g_mark_6))] H := hP
                  have hD : va_D A_ [(m_stack, .inl (cI, 48, .inl g_stack)), (mo, .inr (8, [.int z_fault, .int z_size, .ref m_row, .ref m_shelves, .ref m_many, .ref m_widths, .int (nI mk_6), .ref m_mark, .int z_shown, .ref m_shownMark, .int z_wasRun, .int z_wrong_6, .int z_ended, .int (nI sp), .int z_hints, .int z_hasWidth, .int z_width, .int z_first, .int z_moved, .int z_deepest, .int z_x_6, .int z_y_6, .int (nI t), .ref m_stack, .ref m_places, .int (nI d), .ref m_kinds, .ref m_ats, .ref m_ends])), (m_mark, .inl (cI, 28000, .inl g_mark_6))] := hD
                  refine lv_iinc (v := nI (i + 4)) (lv' := [(3, .int (nI (i + 4))), (4, .int (g_stack 0)), (0, .ref mo), (1, .int c), (2, .int (nI (t % 4)))]) hx hb d_Mo_flats_152 hl (k := 4) rfl (nI_add i 4) (by decide) rfl (fun ls hl => ?_)
                  refine lv_goto (tgt := 39) hx hb d_Mo_flats_155 (by decide) ?_
                  exact ih_39  (i + 4) z_x_6 z_y_6 z_wrong_6 mk_6 g_mark_6 _ _ _ ⟨by omega, by omega, by omega⟩ (by omega) (hP.subm [1, 0, 2] rfl) (hD.sub [1, 0, 2] rfl rfl) hS (lv_sub hl [2, 3, 4, 0] rfl)
                · refine lv_aload_n hx hb d_Mo_flats_75 rfl (lv_at hl 1 rfl) ?_
                  refine lv_aload_n hx hb d_Mo_flats_76 rfl (lv_at hl 1 rfl) ?_
                  refine va_get (D := D) (ci := 8) (v := .ref m_stack) (C := R_Mo) (T := F_Mo) (N := 29) hx hb hts i_Mo hown hZ.1 hP 0 rfl rfl 23 (by decide) (hts _ fl_Mo_29) (fun _ h9 => h9) rfl d_Mo_flats_77 ?_
                  refine lv_iload_n hx hb d_Mo_flats_80 rfl (lv_at hl 4 rfl) ?_
                  refine va_iald hx hb hZ.1 hP 1 1 rfl rfl (vp_in_nI (by omega) (by omega)) d_Mo_flats_81 ?_
                  refine lv_tv (y := g_stack i) (by rw [nI_clamp (by omega)]) ?_
                  refine lv_iload hx hb d_Mo_flats_82 (lv_at hl 0 rfl) ?_
                  refine lv_aload_n hx hb d_Mo_flats_84 rfl (lv_at hl 1 rfl) ?_
                  refine va_get (D := D) (ci := 8) (v := .ref m_stack) (C := R_Mo) (T := F_Mo) (N := 29) hx hb hts i_Mo hown hZ.1 hP 0 rfl rfl 23 (by decide) (hts _ fl_Mo_29) (fun _ h9 => h9) rfl d_Mo_flats_85 ?_
                  refine lv_iload_n hx hb d_Mo_flats_88 rfl (lv_at hl 4 rfl) ?_
                  refine lv_iconst (v := 1) hx hb d_Mo_flats_89 (by decide) ?_
                  refine lv_iadd hx hb d_Mo_flats_90 ?_
                  refine lv_tv (y := nI (i + 1)) (nI_add i 1) ?_
                  refine va_iald hx hb hZ.1 hP 1 1 rfl rfl (vp_in_nI (by omega) (by omega)) d_Mo_flats_91 ?_
                  refine lv_tv (y := g_stack (i + 1)) (by rw [nI_clamp (by omega)]) ?_
                  refine lv_aload_n hx hb d_Mo_flats_92 rfl (lv_at hl 1 rfl) ?_
                  refine va_get (D := D) (ci := 8) (v := .ref m_stack) (C := R_Mo) (T := F_Mo) (N := 29) hx hb hts i_Mo hown hZ.1 hP 0 rfl rfl 23 (by decide) (hts _ fl_Mo_29) (fun _ h9 => h9) rfl d_Mo_flats_93 ?_
                  refine lv_iload_n hx hb d_Mo_flats_96 rfl (lv_at hl 4 rfl) ?_
                  refine lv_iconst (v := 2) hx hb d_Mo_flats_97 (by decide) ?_
                  refine lv_iadd hx hb d_Mo_flats_98 ?_
                  refine lv_tv (y := nI (i + 2)) (nI_add i 2) ?_
                  refine va_iald hx hb hZ.1 hP 1 1 rfl rfl (vp_in_nI (by omega) (by omega)) d_Mo_flats_99 ?_
                  refine lv_tv (y := g_stack (i + 2)) (by rw [nI_clamp (by omega)]) ?_
                  refine lv_aload_n hx hb d_Mo_flats_100 rfl (lv_at hl 1 rfl) ?_
                  refine va_get (D := D) (ci := 8) (v := .ref m_stack) (C := R_Mo) (T := F_Mo) (N := 29) hx hb hts i_Mo hown hZ.1 hP 0 rfl rfl 23 (by decide) (hts _ fl_Mo_29) (fun _ h9 => h9) rfl d_Mo_flats_101 ?_
                  refine lv_iload_n hx hb d_Mo_flats_104 rfl (lv_at hl 4 rfl) ?_
                  refine lv_iconst (v := 3) hx hb d_Mo_flats_105 (by decide) ?_
                  refine lv_iadd hx hb d_Mo_flats_106 ?_
                  refine lv_tv (y := nI (i + 3)) (nI_add i 3) ?_
                  refine va_iald hx hb hZ.1 hP 1 1 rfl rfl (vp_in_nI (by omega) (by omega)) d_Mo_flats_107 ?_
                  refine lv_tv (y := g_stack (i + 3)) (by rw [nI_clamp (by omega)]) ?_
                  refine lv_iconst (v := 0) hx hb d_Mo_flats_108 (by decide) ?_
                  have hC : Cut [(mo, .inr (8, [.int z_fault, .int z_size, .ref m_row, .ref m_shelves, .ref m_many, .ref m_widths, .int (nI mL), .ref m_mark, .int z_shown, .ref m_shownMark, .int z_wasRun, .int wL, .int z_ended, .int (nI sp), .int z_hints, .int z_hasWidth, .int z_width, .int z_first, .int z_moved, .int z_deepest, .int xL, .int yL, .int (nI t), .ref m_stack, .ref m_places, .int (nI d), .ref m_kinds, .ref m_ats, .ref m_ends])), (m_stack, .inl (cI, 48, .inl g_stack)), (m_mark, .inl (cI, 28000, .inl gm))] [(mo, .inr (8, [.int z_fault, .int z_size, .ref m_row, .ref m_shelves, .ref m_many, .ref m_widths, .int (nI mL), .ref m_mark, .int z_shown, .ref m_shownMark, .int z_wasRun, .int wL, .int z_ended, .int (nI sp), .int z_hints, .int z_hasWidth, .int z_width, .int z_first, .int z_moved, .int z_deepest, .int xL, .int yL, .int (nI t), .ref m_stack, .ref m_places, .int (nI d), .ref m_kinds, .ref m_ats, .ref m_ends])), (m_mark, .inl (cI, 28000, .inl gm))] [(m_stack, .inl (cI, 48, .inl g_stack))] [0, 2] [1] := ⟨rfl, rfl, rfl, rfl, by decide⟩
                  refine goV0 (trV (As := [.int (g_stack i), .int (g_stack 0), .int (g_stack (i + 1)), .int (g_stack (i + 2)), .int (g_stack (i + 3)), .int 0]) (rest := []) ⟨hx, hb, hml, hown, hts⟩ gd_good (c_Mo_curve l D cB cI cJ mo m_row m_shelves m_many m_widths m_mark m_shownMark m_stack m_places m_kinds m_ats m_ends mL sp t d z_fault z_size z_shown z_wasRun wL z_ended z_hints z_hasWidth z_width z_first z_moved z_deepest xL yL gm (g_stack i) (g_stack 0) (g_stack (i + 1)) (g_stack (i + 2)) (g_stack (i + 3)) 0 (by omega) ) cal_Mo_curve ml_Mo_158 ⟨Nat.le_of_ble_eq_true rfl, Nat.le_of_ble_eq_true rfl⟩ hZ hP hD hC 0 (ci := 8) rfl rfl rfl rfl hl.1 rfl (Nat.le_of_ble_eq_true rfl) d_Mo_flats_109 ⟨Nat.le_of_ble_eq_true rfl, Nat.le_of_ble_eq_true rfl⟩) hZ hP hD hS hC (fun w1 H locs hq hP hD hS => ?_)
                  obtain ⟨z_x_7, z_y_7, z_wrong_7, mk_7, g_mark_7, rfl, hv_7⟩ := hq
                  have hP : va_P D classes [(m_stack, .inl (cI, 48, .inl g_stack)), (mo, .inr (8, [.int z_fault, .int z_size, .ref m_row, .ref m_shelves, .ref m_many, .ref m_widths, .int (nI mk_7), .ref m_mark, .int z_shown, .ref m_shownMark, .int z_wasRun, .int z_wrong_7, .int z_ended, .int (nI sp), .int z_hints, .int z_hasWidth, .int z_width, .int z_first, .int z_moved, .int z_deepest, .int z_x_7, .int z_y_7, .int (nI t), .ref m_stack, .ref m_places, .int (nI d), .ref m_kinds, .ref m_ats, .ref m_ends])), (m_mark, .inl (cI, 28000, .inl g_mark_7))] H := hP
                  have hD : va_D A_ [(m_stack, .inl (cI, 48, .inl g_stack)), (mo, .inr (8, [.int z_fault, .int z_size, .ref m_row, .ref m_shelves, .ref m_many, .ref m_widths, .int (nI mk_7), .ref m_mark, .int z_shown, .ref m_shownMark, .int z_wasRun, .int z_wrong_7, .int z_ended, .int (nI sp), .int z_hints, .int z_hasWidth, .int z_width, .int z_first, .int z_moved, .int z_deepest, .int z_x_7, .int z_y_7, .int (nI t), .ref m_stack, .ref m_places, .int (nI d), .ref m_kinds, .ref m_ats, .ref m_ends])), (m_mark, .inl (cI, 28000, .inl g_mark_7))] := hD
                  refine lv_goto (tgt := 152) hx hb d_Mo_flats_112 (by decide) ?_
                  refine lv_iinc (v := nI (i + 4)) (lv' := [(3, .int (nI (i + 4))), (4, .int (g_stack 0)), (0, .ref mo), (1, .int c), (2, .int (nI (t % 4)))]) hx hb d_Mo_flats_152 hl (k := 4) rfl (nI_add i 4) (by decide) rfl (fun ls hl => ?_)
                  refine lv_goto (tgt := 39) hx hb d_Mo_flats_155 (by decide) ?_
                  exact ih_39  (i + 4) z_x_7 z_y_7 z_wrong_7 mk_7 g_mark_7 _ _ _ ⟨by omega, by omega, by omega⟩ (by omega) (hP.subm [1, 0, 2] rfl) (hD.sub [1, 0, 2] rfl rfl) hS (lv_sub hl [2, 3, 4, 0] rfl)
      exact lp_39 _ (t % 4) z_x z_y z_wrong_1 mk g_mark _ _ _ ⟨by omega, by omega, by omega⟩ (Nat.lt_succ_self _) (hP.subm [2, 0, 1] rfl) (hD.sub [2, 0, 1] rfl rfl) hS (lv_sub hl [2, 3, 1, 0] rfl)
  · have n_6 : ¬ (t) < (4) := fun z => c_6 ((nI_ltI (a := t) (b := 4) (by omega) (by omega)).mpr z)
    refine lv_aload_n hx hb d_Mo_flats_9 rfl (lv_at hl 0 rfl) ?_
    refine va_get (D := D) (ci := 8) (v := .int (nI t)) (C := R_Mo) (T := F_Mo) (N := 29) hx hb hts i_Mo hown hZ.1 hP 0 rfl rfl 22 (by decide) (hts _ fl_Mo_82) (fun _ h9 => h9) rfl d_Mo_flats_10 ?_
    refine lv_iconst (v := 4) hx hb d_Mo_flats_13 (by decide) ?_
    refine lv_irem hx hb d_Mo_flats_14 (by decide) ?_
    refine lv_tv (y := nI (t % 4)) (pk_rem (a := t) (d := 4) (by omega) (by omega) (by omega)) ?_
    refine lv_iconst (v := 2) hx hb d_Mo_flats_15 (by decide) ?_
    refine lv_icmp_ge (tgt := 23) hx hb d_Mo_flats_16 (by decide) (fun c_16 => ?_) (fun c_16 => ?_)
    · have n_16 : (2) ≤ (t % 4) := (nI_leI (a := 2) (b := t % 4) (by omega) (by omega)).mp c_16
      refine lv_iconst (v := 0) hx hb d_Mo_flats_23 (by decide) ?_
      have hC : Cut [(mo, .inr (8, [.int z_fault, .int z_size, .ref m_row, .ref m_shelves, .ref m_many, .ref m_widths, .int (nI mk), .ref m_mark, .int z_shown, .ref m_shownMark, .int z_wasRun, .int z_wrong, .int z_ended, .int (nI sp), .int z_hints, .int z_hasWidth, .int z_width, .int z_first, .int z_moved, .int z_deepest, .int z_x, .int z_y, .int (nI t), .ref m_stack, .ref m_places, .int (nI d), .ref m_kinds, .ref m_ats, .ref m_ends])), (m_stack, .inl (cI, 48, .inl g_stack)), (m_mark, .inl (cI, 28000, .inl g_mark))] [(mo, .inr (8, [.int z_fault, .int z_size, .ref m_row, .ref m_shelves, .ref m_many, .ref m_widths, .int (nI mk), .ref m_mark, .int z_shown, .ref m_shownMark, .int z_wasRun, .int z_wrong, .int z_ended, .int (nI sp), .int z_hints, .int z_hasWidth, .int z_width, .int z_first, .int z_moved, .int z_deepest, .int z_x, .int z_y, .int (nI t), .ref m_stack, .ref m_places, .int (nI d), .ref m_kinds, .ref m_ats, .ref m_ends]))] [(m_stack, .inl (cI, 48, .inl g_stack)), (m_mark, .inl (cI, 28000, .inl g_mark))] [0] [1, 2] := ⟨rfl, rfl, rfl, rfl, by decide⟩
      refine goI0 (trV (As := [.int 0]) (rest := []) ⟨hx, hb, hml, hown, hts⟩ gd_good (c_Mo_may l D cB cI cJ mo m_row m_shelves m_many m_widths m_mark m_shownMark m_stack m_places m_kinds m_ats m_ends mk sp t d z_fault z_size z_shown z_wasRun z_wrong z_ended z_hints z_hasWidth z_width z_first z_moved z_deepest z_x z_y 0 (by omega) ) cal_Mo_may ml_Mo_162 ⟨Nat.le_of_ble_eq_true rfl, Nat.le_of_ble_eq_true rfl⟩ hZ hP hD hC 0 (ci := 8) rfl rfl rfl rfl hl.1 rfl (Nat.le_of_ble_eq_true rfl) d_Mo_flats_24 ⟨Nat.le_of_ble_eq_true rfl, Nat.le_of_ble_eq_true rfl⟩) hZ hP hD hS hC (fun r_24 w1 H locs hq hP hD hS => ?_)
      obtain ⟨z_wrong_8, rfl, hv_8, hx_8, hz_8⟩ := hq
      have hP : va_P D classes [(m_stack, .inl (cI, 48, .inl g_stack)), (m_mark, .inl (cI, 28000, .inl g_mark)), (mo, .inr (8, [.int z_fault, .int z_size, .ref m_row, .ref m_shelves, .ref m_many, .ref m_widths, .int (nI mk), .ref m_mark, .int z_shown, .ref m_shownMark, .int z_wasRun, .int z_wrong_8, .int z_ended, .int (nI sp), .int z_hints, .int z_hasWidth, .int z_width, .int z_first, .int z_moved, .int z_deepest, .int z_x, .int z_y, .int (nI t), .ref m_stack, .ref m_places, .int (nI d), .ref m_kinds, .ref m_ats, .ref m_ends]))] H := hP
      have hD : va_D A_ [(m_stack, .inl (cI, 48, .inl g_stack)), (m_mark, .inl (cI, 28000, .inl g_mark)), (mo, .inr (8, [.int z_fault, .int z_size, .ref m_row, .ref m_shelves, .ref m_many, .ref m_widths, .int (nI mk), .ref m_mark, .int z_shown, .ref m_shownMark, .int z_wasRun, .int z_wrong_8, .int z_ended, .int (nI sp), .int z_hints, .int z_hasWidth, .int z_width, .int z_first, .int z_moved, .int z_deepest, .int z_x, .int z_y, .int (nI t), .ref m_stack, .ref m_places, .int (nI d), .ref m_kinds, .ref m_ats, .ref m_ends]))] := hD
      refine lv_if_eq (tgt := 162) hx hb d_Mo_flats_27 (by decide) (fun c_27 => ?_) (fun c_27 => ?_)
      · exact t_vret hx hb hr hlk d_Mo_flats_162 (hP.subm (ws' := [(mo, .inr (8, [.int z_fault, .int z_size, .ref m_row, .ref m_shelves, .ref m_many, .ref m_widths, .int (nI mk), .ref m_mark, .int z_shown, .ref m_shownMark, .int z_wasRun, .int z_wrong_8, .int z_ended, .int (nI sp), .int z_hints, .int z_hasWidth, .int z_width, .int z_first, .int z_moved, .int z_deepest, .int z_x, .int z_y, .int (nI t), .ref m_stack, .ref m_places, .int (nI d), .ref m_kinds, .ref m_ats, .ref m_ends])), (m_stack, .inl (cI, 48, .inl g_stack)), (m_mark, .inl (cI, 28000, .inl g_mark))]) [2, 0, 1] rfl) (hD.sub (ws' := [(mo, .inr (8, [.int z_fault, .int z_size, .ref m_row, .ref m_shelves, .ref m_many, .ref m_widths, .int (nI mk), .ref m_mark, .int z_shown, .ref m_shownMark, .int z_wasRun, .int z_wrong_8, .int z_ended, .int (nI sp), .int z_hints, .int z_hasWidth, .int z_width, .int z_first, .int z_moved, .int z_deepest, .int z_x, .int z_y, .int (nI t), .ref m_stack, .ref m_places, .int (nI d), .ref m_kinds, .ref m_ats, .ref m_ends])), (m_stack, .inl (cI, 48, .inl g_stack)), (m_mark, .inl (cI, 28000, .inl g_mark))]) [2, 0, 1] rfl rfl) hS ⟨rfl, rfl, rfl, _, _, _, mk, t, _, rfl, (by omega)⟩
      · refine lv_aload_n hx hb d_Mo_flats_30 rfl (lv_at hl 0 rfl) ?_
        refine va_get (D := D) (ci := 8) (v := .int (nI t)) (C := R_Mo) (T := F_Mo) (N := 29) hx hb hts i_Mo hown hZ.1 hP 2 rfl rfl 22 (by decide) (hts _ fl_Mo_82) (fun _ h9 => h9) rfl d_Mo_flats_31 ?_
        refine lv_iconst (v := 4) hx hb d_Mo_flats_34 (by decide) ?_
        refine lv_irem hx hb d_Mo_flats_35 (by decide) ?_
        refine lv_tv (y := nI (t % 4)) (pk_rem (a := t) (d := 4) (by omega) (by omega) (by omega)) ?_
        refine lv_istore_n (lv' := [(2, .int (nI (t % 4))), (0, .ref mo), (1, .int c)]) hx hb d_Mo_flats_36 rfl hl (by decide) rfl (fun ls hl => ?_)
        refine lv_iload_n hx hb d_Mo_flats_37 rfl (lv_at hl 0 rfl) ?_
        refine lv_istore_n (lv' := [(3, .int (nI (t % 4))), (2, .int (nI (t % 4))), (0, .ref mo), (1, .int c)]) hx hb d_Mo_flats_38 rfl hl (by decide) rfl (fun ls hl => ?_)
        have lp_39 : ∀ (fu : Nat) (i : Nat) (xL : Int32) (yL : Int32) (wL : Int32) (mL : Nat) (gm : Nat → Int32) (H : Heap) (locs : List Loc) (ls : Array Slot), (mL ≤ 4000 ∧ i ≤ 60 ∧ i % 4 = t % 4) → (70 - i) < fu → va_P D classes [(mo, .inr (8, [.int z_fault, .int z_size, .ref m_row, .ref m_shelves, .ref m_many, .ref m_widths, .int (nI mL), .ref m_mark, .int z_shown, .ref m_shownMark, .int z_wasRun, .int wL, .int z_ended, .int (nI sp), .int z_hints, .int z_hasWidth, .int z_width, .int z_first, .int z_moved, .int z_deepest, .int xL, .int yL, .int (nI t), .ref m_stack, .ref m_places, .int (nI d), .ref m_kinds, .ref m_ats, .ref m_ends])), (m_stack, .inl (cI, 48, .inl g_stack)), (m_mark, .inl (cI, 28000, .inl gm))] H → va_D A_ [(mo, .inr (8, [.int z_fault, .int z_size, .ref m_row, .ref m_shelves, .ref m_many, .ref m_widths, .int (nI mL), .ref m_mark, .int z_shown, .ref m_shownMark, .int z_wasRun, .int wL, .int z_ended, .int (nI sp), .int z_hints, .int z_hasWidth, .int z_width, .int z_first, .int z_moved, .int z_deepest, .int xL, .int yL, .int (nI t), .ref m_stack, .ref m_places, .int (nI d), .ref m_kinds, .ref m_ats, .ref m_ends])), (m_stack, .inl (cI, 48, .inl g_stack)), (m_mark, .inl (cI, 28000, .inl gm))] → va_S A_ s_.heap H locs → lv_has ls 5 [(0, .ref mo), (1, .int c), (2, .int (nI (t % 4))), (3, .int (nI i))] → W p_ l e_ ({ frames := 3, cells := 0, slots := 0, locals := 77 }) s_ m_ args_ below_ meth_ c_ H locs (0) (0) (MQT below_ D classes A_ (pV0 (fun w => ∃ (z_x' : Int32) (z_y' : Int32) (z_wrong' : Int32) (mk' : Nat) (t' : Nat) (g_mark' : Nat → Int32), w = [(mo, .inr (8, [.int z_fault, .int z_size, .ref m_row, .ref m_shelves, .ref m_many, .ref m_widths, .int (nI mk'), .ref m_mark, .int z_shown, .ref m_shownMark, .int z_wasRun, .int z_wrong', .int z_ended, .int (nI sp), .int z_hints, .int z_hasWidth, .int z_width, .int z_first, .int z_moved, .int z_deepest, .int z_x', .int z_y', .int (nI t'), .ref m_stack, .ref m_places, .int (nI d), .ref m_kinds, .ref m_ats, .ref m_ends])), (m_stack, .inl (cI, 48, .inl g_stack)), (m_mark, .inl (cI, 28000, .inl g_mark'))] ∧ (t' ≤ 48 ∧ d ≤ 10 ∧ mk' ≤ 4000 ∧ sp ≤ 20000))) s_) (F0 m_ 39 ls []) := by
          intro fu
          induction fu with
          | zero => intro i xL yL wL mL gm H locs ls hinv hfu; exact absurd hfu (Nat.not_lt_zero _)
          | succ fu ih_39 =>
            intro i xL yL wL mL gm H locs ls hinv hfu hP hD hS hl
            obtain ⟨hmL, hi1, hi2⟩ := hinv
            refine lv_iload_n hx hb d_Mo_flats_39 rfl (lv_at hl 3 rfl) ?_
            refine lv_aload_n hx hb d_Mo_flats_40 rfl (lv_at hl 0 rfl) ?_
            refine va_get (D := D) (ci := 8) (v := .int (nI t)) (C := R_Mo) (T := F_Mo) (N := 29) hx hb hts i_Mo hown hZ.1 hP 0 rfl rfl 22 (by decide) (hts _ fl_Mo_82) (fun _ h9 => h9) rfl d_Mo_flats_41 ?_
            refine lv_icmp_ge (tgt := 158) hx hb d_Mo_flats_44 (by decide) (fun c_44 => ?_) (fun c_44 => ?_)
            · have n_44 : (t) ≤ (i) := (nI_leI (a := t) (b := i) (by omega) (by omega)).mp c_44
              refine lv_aload_n hx hb d_Mo_flats_158 rfl (lv_at hl 0 rfl) ?_
              have hC : Cut [(mo, .inr (8, [.int z_fault, .int z_size, .ref m_row, .ref m_shelves, .ref m_many, .ref m_widths, .int (nI mL), .ref m_mark, .int z_shown, .ref m_shownMark, .int z_wasRun, .int wL, .int z_ended, .int (nI sp), .int z_hints, .int z_hasWidth, .int z_width, .int z_first, .int z_moved, .int z_deepest, .int xL, .int yL, .int (nI t), .ref m_stack, .ref m_places, .int (nI d), .ref m_kinds, .ref m_ats, .ref m_ends])), (m_stack, .inl (cI, 48, .inl g_stack)), (m_mark, .inl (cI, 28000, .inl gm))] [(mo, .inr (8, [.int z_fault, .int z_size, .ref m_row, .ref m_shelves, .ref m_many, .ref m_widths, .int (nI mL), .ref m_mark, .int z_shown, .ref m_shownMark, .int z_wasRun, .int wL, .int z_ended, .int (nI sp), .int z_hints, .int z_hasWidth, .int z_width, .int z_first, .int z_moved, .int z_deepest, .int xL, .int yL, .int (nI t), .ref m_stack, .ref m_places, .int (nI d), .ref m_kinds, .ref m_ats, .ref m_ends]))] [(m_stack, .inl (cI, 48, .inl g_stack)), (m_mark, .inl (cI, 28000, .inl gm))] [0] [1, 2] := ⟨rfl, rfl, rfl, rfl, by decide⟩
              refine goV0 (trV (As := []) (rest := []) ⟨hx, hb, hml, hown, hts⟩ gd_good (c_Mo_take_V l D cB cI cJ mo m_row m_shelves m_many m_widths m_mark m_shownMark m_stack m_places m_kinds m_ats m_ends mL sp t d z_fault z_size z_shown z_wasRun wL z_ended z_hints z_hasWidth z_width z_first z_moved z_deepest xL yL (by omega) ) cal_Mo_take_V ml_Mo_155 ⟨Nat.le_of_ble_eq_true rfl, Nat.le_of_ble_eq_true rfl⟩ hZ hP hD hC 0 (ci := 8) rfl rfl rfl rfl hl.1 rfl (Nat.le_of_ble_eq_true rfl) d_Mo_flats_159 ⟨Nat.le_of_ble_eq_true rfl, Nat.le_of_ble_eq_true rfl⟩) hZ hP hD hS hC (fun w1 H locs hq hP hD hS => ?_)
              obtain ⟨t_9, rfl, hv_9⟩ := hq
              have hP : va_P D classes [(m_stack, .inl (cI, 48, .inl g_stack)), (m_mark, .inl (cI, 28000, .inl gm)), (mo, .inr (8, [.int z_fault, .int z_size, .ref m_row, .ref m_shelves, .ref m_many, .ref m_widths, .int (nI mL), .ref m_mark, .int z_shown, .ref m_shownMark, .int z_wasRun, .int wL, .int z_ended, .int (nI sp), .int z_hints, .int z_hasWidth, .int z_width, .int z_first, .int z_moved, .int z_deepest, .int xL, .int yL, .int (nI t_9), .ref m_stack, .ref m_places, .int (nI d), .ref m_kinds, .ref m_ats, .ref m_ends]))] H := hP
              have hD : va_D A_ [(m_stack, .inl (cI, 48, .inl g_stack)), (m_mark, .inl (cI, 28000, .inl gm)), (mo, .inr (8, [.int z_fault, .int z_size, .ref m_row, .ref m_shelves, .ref m_many, .ref m_widths, .int (nI mL), .ref m_mark, .int z_shown, .ref m_shownMark, .int z_wasRun, .int wL, .int z_ended, .int (nI sp), .int z_hints, .int z_hasWidth, .int z_width, .int z_first, .int z_moved, .int z_deepest, .int xL, .int yL, .int (nI t_9), .ref m_stack, .ref m_places, .int (nI d), .ref m_kinds, .ref m_ats, .ref m_ends]))] := hD
              exact t_vret hx hb hr hlk d_Mo_flats_162 (hP.subm (ws' := [(mo, .inr (8, [.int z_fault, .int z_size, .ref m_row, .ref m_shelves, .ref m_many, .ref m_widths, .int (nI mL), .ref m_mark, .int z_shown, .ref m_shownMark, .int z_wasRun, .int wL, .int z_ended, .int (nI sp), .int z_hints, .int z_hasWidth, .int z_width, .int z_first, .int z_moved, .int z_deepest, .int xL, .int yL, .int (nI t_9), .ref m_stack, .ref m_places, .int (nI d), .ref m_kinds, .ref m_ats, .ref m_ends])), (m_stack, .inl (cI, 48, .inl g_stack)), (m_mark, .inl (cI, 28000, .inl gm))]) [2, 0, 1] rfl) (hD.sub (ws' := [(mo, .inr (8, [.int z_fault, .int z_size, .ref m_row, .ref m_shelves, .ref m_many, .ref m_widths, .int (nI mL), .ref m_mark, .int z_shown, .ref m_shownMark, .int z_wasRun, .int wL, .int z_ended, .int (nI sp), .int z_hints, .int z_hasWidth, .int z_width, .int z_first, .int z_moved, .int z_deepest, .int xL, .int yL, .int (nI t_9), .ref m_stack, .ref m_places, .int (nI d), .ref m_kinds, .ref m_ats, .ref m_ends])), (m_stack, .inl (cI, 48, .inl g_stack)), (m_mark, .inl (cI, 28000, .inl gm))]) [2, 0, 1] rfl rfl) hS ⟨rfl, rfl, rfl, _, _, _, mL, t_9, _, rfl, (by omega)⟩
            · have n_44 : ¬ (t) ≤ (i) := fun z => c_44 ((nI_leI (a := t) (b := i) (by omega) (by omega)).mpr z)
              refine lv_aload_n hx hb d_Mo_flats_47 rfl (lv_at hl 0 rfl) ?_
              refine va_get (D := D) (ci := 8) (v := .int wL) (C := R_Mo) (T := F_Mo) (N := 29) hx hb hts i_Mo hown hZ.1 hP 0 rfl rfl 11 (by decide) (hts _ fl_Mo_75) (fun _ h9 => h9) rfl d_Mo_flats_48 ?_
              refine lv_if_ne (tgt := 158) hx hb d_Mo_flats_51 (by decide) (fun c_51 => ?_) (fun c_51 => ?_)
              · refine lv_aload_n hx hb d_Mo_flats_158 rfl (lv_at hl 0 rfl) ?_
                have hC : Cut [(mo, .inr (8, [.int z_fault, .int z_size, .ref m_row, .ref m_shelves, .ref m_many, .ref m_widths, .int (nI mL), .ref m_mark, .int z_shown, .ref m_shownMark, .int z_wasRun, .int wL, .int z_ended, .int (nI sp), .int z_hints, .int z_hasWidth, .int z_width, .int z_first, .int z_moved, .int z_deepest, .int xL, .int yL, .int (nI t), .ref m_stack, .ref m_places, .int (nI d), .ref m_kinds, .ref m_ats, .ref m_ends])), (m_stack, .inl (cI, 48, .inl g_stack)), (m_mark, .inl (cI, 28000, .inl gm))] [(mo, .inr (8, [.int z_fault, .int z_size, .ref m_row, .ref m_shelves, .ref m_many, .ref m_widths, .int (nI mL), .ref m_mark, .int z_shown, .ref m_shownMark, .int z_wasRun, .int wL, .int z_ended, .int (nI sp), .int z_hints, .int z_hasWidth, .int z_width, .int z_first, .int z_moved, .int z_deepest, .int xL, .int yL, .int (nI t), .ref m_stack, .ref m_places, .int (nI d), .ref m_kinds, .ref m_ats, .ref m_ends]))] [(m_stack, .inl (cI, 48, .inl g_stack)), (m_mark, .inl (cI, 28000, .inl gm))] [0] [1, 2] := ⟨rfl, rfl, rfl, rfl, by decide⟩
                refine goV0 (trV (As := []) (rest := []) ⟨hx, hb, hml, hown, hts⟩ gd_good (c_Mo_take_V l D cB cI cJ mo m_row m_shelves m_many m_widths m_mark m_shownMark m_stack m_places m_kinds m_ats m_ends mL sp t d z_fault z_size z_shown z_wasRun wL z_ended z_hints z_hasWidth z_width z_first z_moved z_deepest xL yL (by omega) ) cal_Mo_take_V ml_Mo_155 ⟨Nat.le_of_ble_eq_true rfl, Nat.le_of_ble_eq_true rfl⟩ hZ hP hD hC 0 (ci := 8) rfl rfl rfl rfl hl.1 rfl (Nat.le_of_ble_eq_true rfl) d_Mo_flats_159 ⟨Nat.le_of_ble_eq_true rfl, Nat.le_of_ble_eq_true rfl⟩) hZ hP hD hS hC (fun w1 H locs hq hP hD hS => ?_)
                obtain ⟨t_10, rfl, hv_10⟩ := hq
                have hP : va_P D classes [(m_stack, .inl (cI, 48, .inl g_stack)), (m_mark, .inl (cI, 28000, .inl gm)), (mo, .inr (8, [.int z_fault, .int z_size, .ref m_row, .ref m_shelves, .ref m_many, .ref m_widths, .int (nI mL), .ref m_mark, .int z_shown, .ref m_shownMark, .int z_wasRun, .int wL, .int z_ended, .int (nI sp), .int z_hints, .int z_hasWidth, .int z_width, .int z_first, .int z_moved, .int z_deepest, .int xL, .int yL, .int (nI t_10), .ref m_stack, .ref m_places, .int (nI d), .ref m_kinds, .ref m_ats, .ref m_ends]))] H := hP
                have hD : va_D A_ [(m_stack, .inl (cI, 48, .inl g_stack)), (m_mark, .inl (cI, 28000, .inl gm)), (mo, .inr (8, [.int z_fault, .int z_size, .ref m_row, .ref m_shelves, .ref m_many, .ref m_widths, .int (nI mL), .ref m_mark, .int z_shown, .ref m_shownMark, .int z_wasRun, .int wL, .int z_ended, .int (nI sp), .int z_hints, .int z_hasWidth, .int z_width, .int z_first, .int z_moved, .int z_deepest, .int xL, .int yL, .int (nI t_10), .ref m_stack, .ref m_places, .int (nI d), .ref m_kinds, .ref m_ats, .ref m_ends]))] := hD
                exact t_vret hx hb hr hlk d_Mo_flats_162 (hP.subm (ws' := [(mo, .inr (8, [.int z_fault, .int z_size, .ref m_row, .ref m_shelves, .ref m_many, .ref m_widths, .int (nI mL), .ref m_mark, .int z_shown, .ref m_shownMark, .int z_wasRun, .int wL, .int z_ended, .int (nI sp), .int z_hints, .int z_hasWidth, .int z_width, .int z_first, .int z_moved, .int z_deepest, .int xL, .int yL, .int (nI t_10), .ref m_stack, .ref m_places, .int (nI d), .ref m_kinds, .ref m_ats, .ref m_ends])), (m_stack, .inl (cI, 48, .inl g_stack)), (m_mark, .inl (cI, 28000, .inl gm))]) [2, 0, 1] rfl) (hD.sub (ws' := [(mo, .inr (8, [.int z_fault, .int z_size, .ref m_row, .ref m_shelves, .ref m_many, .ref m_widths, .int (nI mL), .ref m_mark, .int z_shown, .ref m_shownMark, .int z_wasRun, .int wL, .int z_ended, .int (nI sp), .int z_hints, .int z_hasWidth, .int z_width, .int z_first, .int z_moved, .int z_deepest, .int xL, .int yL, .int (nI t_10), .ref m_stack, .ref m_places, .int (nI d), .ref m_kinds, .ref m_ats, .ref m_ends])), (m_stack, .inl (cI, 48, .inl g_stack)), (m_mark, .inl (cI, 28000, .inl gm))]) [2, 0, 1] rfl rfl) hS ⟨rfl, rfl, rfl, _, _, _, mL, t_10, _, rfl, (by omega)⟩
              · refine lv_iload_n hx hb d_Mo_flats_54 rfl (lv_at hl 3 rfl) ?_
                refine lv_iconst (v := 1) hx hb d_Mo_flats_55 (by decide) ?_
                refine lv_icmp_ne (tgt := 68) hx hb d_Mo_flats_56 (by decide) (fun c_56 => ?_) (fun c_56 => ?_)
                · have n_56 : ¬ (i) = (1) := fun z => c_56 ((nI_eq (a := i) (b := 1) (by omega) (by omega)).mpr z)
                  refine lv_iconst (v := 0) hx hb d_Mo_flats_68 (by decide) ?_
                  refine lv_istore (lv' := [(4, .int 0), (0, .ref mo), (1, .int c), (2, .int (nI (t % 4))), (3, .int (nI i))]) hx hb d_Mo_flats_69 hl (by decide) rfl (fun ls hl => ?_)
                  refine lv_iload_n hx hb d_Mo_flats_71 rfl (lv_at hl 2 rfl) ?_
                  refine lv_if_eq (tgt := 115) hx hb d_Mo_flats_72 (by decide) (fun c_72 => ?_) (fun c_72 => ?_)
                  · refine lv_aload_n hx hb d_Mo_flats_115 rfl (lv_at hl 1 rfl) ?_
                    refine lv_iload hx hb d_Mo_flats_116 (lv_at hl 0 rfl) ?_
                    refine lv_aload_n hx hb d_Mo_flats_118 rfl (lv_at hl 1 rfl) ?_
                    refine va_get (D := D) (ci := 8) (v := .ref m_stack) (C := R_Mo) (T := F_Mo) (N := 29) hx hb hts i_Mo hown hZ.1 hP 0 rfl rfl 23 (by decide) (hts _ fl_Mo_29) (fun _ h9 => h9) rfl d_Mo_flats_119 ?_
                    refine lv_iload_n hx hb d_Mo_flats_122 rfl (lv_at hl 4 rfl) ?_
                    refine va_iald hx hb hZ.1 hP 1 1 rfl rfl (vp_in_nI (by omega) (by omega)) d_Mo_flats_123 ?_
                    refine lv_tv (y := g_stack i) (by rw [nI_clamp (by omega)]) ?_
                    refine lv_aload_n hx hb d_Mo_flats_124 rfl (lv_at hl 1 rfl) ?_
                    refine va_get (D := D) (ci := 8) (v := .ref m_stack) (C := R_Mo) (T := F_Mo) (N := 29) hx hb hts i_Mo hown hZ.1 hP 0 rfl rfl 23 (by decide) (hts _ fl_Mo_29) (fun _ h9 => h9) rfl d_Mo_flats_125 ?_
                    refine lv_iload_n hx hb d_Mo_flats_128 rfl (lv_at hl 4 rfl) ?_
                    refine lv_iconst (v := 1) hx hb d_Mo_flats_129 (by decide) ?_
                    refine lv_iadd hx hb d_Mo_flats_130 ?_
                    refine lv_tv (y := nI (i + 1)) (nI_add i 1) ?_
                    refine va_iald hx hb hZ.1 hP 1 1 rfl rfl (vp_in_nI (by omega) (by omega)) d_Mo_flats_131 ?_
                    refine lv_tv (y := g_stack (i + 1)) (by rw [nI_clamp (by omega)]) ?_
                    refine lv_aload_n hx hb d_Mo_flats_132 rfl (lv_at hl 1 rfl) ?_
                    refine va_get (D := D) (ci := 8) (v := .ref m_stack) (C := R_Mo) (T := F_Mo) (N := 29) hx hb hts i_Mo hown hZ.1 hP 0 rfl rfl 23 (by decide) (hts _ fl_Mo_29) (fun _ h9 => h9) rfl d_Mo_flats_133 ?_
                    refine lv_iload_n hx hb d_Mo_flats_136 rfl (lv_at hl 4 rfl) ?_
                    refine lv_iconst (v := 2) hx hb d_Mo_flats_137 (by decide) ?_
                    refine lv_iadd hx hb d_Mo_flats_138 ?_
                    refine lv_tv (y := nI (i + 2)) (nI_add i 2) ?_
                    refine va_iald hx hb hZ.1 hP 1 1 rfl rfl (vp_in_nI (by omega) (by omega)) d_Mo_flats_139 ?_
                    refine lv_tv (y := g_stack (i + 2)) (by rw [nI_clamp (by omega)]) ?_
                    refine lv_iconst (v := 0) hx hb d_Mo_flats_140 (by decide) ?_
                    refine lv_aload_n hx hb d_Mo_flats_141 rfl (lv_at hl 1 rfl) ?_
                    refine va_get (D := D) (ci := 8) (v := .ref m_stack) (C := R_Mo) (T := F_Mo) (N := 29) hx hb hts i_Mo hown hZ.1 hP 0 rfl rfl 23 (by decide) (hts _ fl_Mo_29) (fun _ h9 => h9) rfl d_Mo_flats_142 ?_
                    refine lv_iload_n hx hb d_Mo_flats_145 rfl (lv_at hl 4 rfl) ?_
                    refine lv_iconst (v := 3) hx hb d_Mo_flats_146 (by decide) ?_
                    refine lv_iadd hx hb d_Mo_flats_147 ?_
                    refine lv_tv (y := nI (i + 3)) (nI_add i 3) ?_
                    refine va_iald hx hb hZ.1 hP 1 1 rfl rfl (vp_in_nI (by omega) (by omega)) d_Mo_flats_148 ?_
                    refine lv_tv (y := g_stack (i + 3)) (by rw [nI_clamp (by omega)]) ?_
                    have hC : Cut [(mo, .inr (8, [.int z_fault, .int z_size, .ref m_row, .ref m_shelves, .ref m_many, .ref m_widths, .int (nI mL), .ref m_mark, .int z_shown, .ref m_shownMark, .int z_wasRun, .int wL, .int z_ended, .int (nI sp), .int z_hints, .int z_hasWidth, .int z_width, .int z_first, .int z_moved, .int z_deepest, .int xL, .int yL, .int (nI t), .ref m_stack, .ref m_places, .int (nI d), .ref m_kinds, .ref m_ats, .ref m_ends])), (m_stack, .inl (cI, 48, .inl g_stack)), (m_mark, .inl (cI, 28000, .inl gm))] [(mo, .inr (8, [.int z_fault, .int z_size, .ref m_row, .ref m_shelves, .ref m_many, .ref m_widths, .int (nI mL), .ref m_mark, .int z_shown, .ref m_shownMark, .int z_wasRun, .int wL, .int z_ended, .int (nI sp), .int z_hints, .int z_hasWidth, .int z_width, .int z_first, .int z_moved, .int z_deepest, .int xL, .int yL, .int (nI t), .ref m_stack, .ref m_places, .int (nI d), .ref m_kinds, .ref m_ats, .ref m_ends])), (m_mark, .inl (cI, 28000, .inl gm))] [(m_stack, .inl (cI, 48, .inl g_stack))] [0, 2] [1] := ⟨rfl, rfl, rfl, rfl, by decide⟩
                    refine goV0 (trV (As := [.int 0, .int (g_stack i), .int (g_stack (i + 1)), .int (g_stack (i + 2)), .int 0, .int (g_stack (i + 3))]) (rest := []) ⟨hx, hb, hml, hown, hts⟩ gd_good (c_Mo_curve l D cB cI cJ mo m_row m_shelves m_many m_widths m_mark m_shownMark m_stack m_places m_kinds m_ats m_ends mL sp t d z_fault z_size z_shown z_wasRun wL z_ended z_hints z_hasWidth z_width z_first z_moved z_deepest xL yL gm 0 (g_stack i) (g_stack (i + 1)) (g_stack (i + 2)) 0 (g_stack (i + 3)) (by omega) ) cal_Mo_curve ml_Mo_158 ⟨Nat.le_of_ble_eq_true rfl, Nat.le_of_ble_eq_true rfl⟩ hZ hP hD hC 0 (ci := 8) rfl rfl rfl rfl hl.1 rfl (Nat.le_of_ble_eq_true rfl) d_Mo_flats_149 ⟨Nat.le_of_ble_eq_true rfl, Nat.le_of_ble_eq_true rfl⟩) hZ hP hD hS hC (fun w1 H locs hq hP hD hS => ?_)
                    obtain ⟨z_x_11, z_y_11, z_wrong_11, mk_11, g_mark_11, rfl, hv_11⟩ := hq
                    have hP : va_P D classes [(m_stack, .inl (cI, 48, .inl g_stack)), (mo, .inr (8, [.int z_fault, .int z_size, .ref m_row, .ref m_shelves, .ref m_many, .ref m_widths, .int (nI mk_11), .ref m_mark, .int z_shown, .ref m_shownMark, .int z_wasRun, .int z_wrong_11, .int z_ended, .int (nI sp), .int z_hints, .int z_hasWidth, .int z_width, .int z_first, .int z_moved, .int z_deepest, .int z_x_11, .int z_y_11, .int (nI t), .ref m_stack, .ref m_places, .int (nI d), .ref m_kinds, .ref m_ats, .ref m_ends])), (m_mark, .inl (cI, 28000, .inl g_mark_11))] H := hP
                    have hD : va_D A_ [(m_stack, .inl (cI, 48, .inl g_stack)), (mo, .inr (8, [.int z_fault, .int z_size, .ref m_row, .ref m_shelves, .ref m_many, .ref m_widths, .int (nI mk_11), .ref m_mark, .int z_shown, .ref m_shownMark, .int z_wasRun, .int z_wrong_11, .int z_ended, .int (nI sp), .int z_hints, .int z_hasWidth, .int z_width, .int z_first, .int z_moved, .int z_deepest, .int z_x_11, .int z_y_11, .int (nI t), .ref m_stack, .ref m_places, .int (nI d), .ref m_kinds, .ref m_ats, .ref m_ends])), (m_mark, .inl (cI, 28000, .inl g_mark_11))] := hD
                    refine lv_iinc (v := nI (i + 4)) (lv' := [(3, .int (nI (i + 4))), (4, .int 0), (0, .ref mo), (1, .int c), (2, .int (nI (t % 4)))]) hx hb d_Mo_flats_152 hl (k := 4) rfl (nI_add i 4) (by decide) rfl (fun ls hl => ?_)
                    refine lv_goto (tgt := 39) hx hb d_Mo_flats_155 (by decide) ?_
                    exact ih_39  (i + 4) z_x_11 z_y_11 z_wrong_11 mk_11 g_mark_11 _ _ _ ⟨by omega, by omega, by omega⟩ (by omega) (hP.subm [1, 0, 2] rfl) (hD.sub [1, 0, 2] rfl rfl) hS (lv_sub hl [2, 3, 4, 0] rfl)
                  · refine lv_aload_n hx hb d_Mo_flats_75 rfl (lv_at hl 1 rfl) ?_
                    refine lv_aload_n hx hb d_Mo_flats_76 rfl (lv_at hl 1 rfl) ?_
                    refine va_get (D := D) (ci := 8) (v := .ref m_stack) (C := R_Mo) (T := F_Mo) (N := 29) hx hb hts i_Mo hown hZ.1 hP 0 rfl rfl 23 (by decide) (hts _ fl_Mo_29) (fun _ h9 => h9) rfl d_Mo_flats_77 ?_
                    refine lv_iload_n hx hb d_Mo_flats_80 rfl (lv_at hl 4 rfl) ?_
                    refine va_iald hx hb hZ.1 hP 1 1 rfl rfl (vp_in_nI (by omega) (by omega)) d_Mo_flats_81 ?_
                    refine lv_tv (y := g_stack i) (by rw [nI_clamp (by omega)]) ?_
                    refine lv_iload hx hb d_Mo_flats_82 (lv_at hl 0 rfl) ?_
                    refine lv_aload_n hx hb d_Mo_flats_84 rfl (lv_at hl 1 rfl) ?_
                    refine va_get (D := D) (ci := 8) (v := .ref m_stack) (C := R_Mo) (T := F_Mo) (N := 29) hx hb hts i_Mo hown hZ.1 hP 0 rfl rfl 23 (by decide) (hts _ fl_Mo_29) (fun _ h9 => h9) rfl d_Mo_flats_85 ?_
                    refine lv_iload_n hx hb d_Mo_flats_88 rfl (lv_at hl 4 rfl) ?_
                    refine lv_iconst (v := 1) hx hb d_Mo_flats_89 (by decide) ?_
                    refine lv_iadd hx hb d_Mo_flats_90 ?_
                    refine lv_tv (y := nI (i + 1)) (nI_add i 1) ?_
                    refine va_iald hx hb hZ.1 hP 1 1 rfl rfl (vp_in_nI (by omega) (by omega)) d_Mo_flats_91 ?_
                    refine lv_tv (y := g_stack (i + 1)) (by rw [nI_clamp (by omega)]) ?_
                    refine lv_aload_n hx hb d_Mo_flats_92 rfl (lv_at hl 1 rfl) ?_
                    refine va_get (D := D) (ci := 8) (v := .ref m_stack) (C := R_Mo) (T := F_Mo) (N := 29) hx hb hts i_Mo hown hZ.1 hP 0 rfl rfl 23 (by decide) (hts _ fl_Mo_29) (fun _ h9 => h9) rfl d_Mo_flats_93 ?_
                    refine lv_iload_n hx hb d_Mo_flats_96 rfl (lv_at hl 4 rfl) ?_
                    refine lv_iconst (v := 2) hx hb d_Mo_flats_97 (by decide) ?_
                    refine lv_iadd hx hb d_Mo_flats_98 ?_
                    refine lv_tv (y := nI (i + 2)) (nI_add i 2) ?_
                    refine va_iald hx hb hZ.1 hP 1 1 rfl rfl (vp_in_nI (by omega) (by omega)) d_Mo_flats_99 ?_
                    refine lv_tv (y := g_stack (i + 2)) (by rw [nI_clamp (by omega)]) ?_
                    refine lv_aload_n hx hb d_Mo_flats_100 rfl (lv_at hl 1 rfl) ?_
                    refine va_get (D := D) (ci := 8) (v := .ref m_stack) (C := R_Mo) (T := F_Mo) (N := 29) hx hb hts i_Mo hown hZ.1 hP 0 rfl rfl 23 (by decide) (hts _ fl_Mo_29) (fun _ h9 => h9) rfl d_Mo_flats_101 ?_
                    refine lv_iload_n hx hb d_Mo_flats_104 rfl (lv_at hl 4 rfl) ?_
                    refine lv_iconst (v := 3) hx hb d_Mo_flats_105 (by decide) ?_
                    refine lv_iadd hx hb d_Mo_flats_106 ?_
                    refine lv_tv (y := nI (i + 3)) (nI_add i 3) ?_
                    refine va_iald hx hb hZ.1 hP 1 1 rfl rfl (vp_in_nI (by omega) (by omega)) d_Mo_flats_107 ?_
                    refine lv_tv (y := g_stack (i + 3)) (by rw [nI_clamp (by omega)]) ?_
                    refine lv_iconst (v := 0) hx hb d_Mo_flats_108 (by decide) ?_
                    have hC : Cut [(mo, .inr (8, [.int z_fault, .int z_size, .ref m_row, .ref m_shelves, .ref m_many, .ref m_widths, .int (nI mL), .ref m_mark, .int z_shown, .ref m_shownMark, .int z_wasRun, .int wL, .int z_ended, .int (nI sp), .int z_hints, .int z_hasWidth, .int z_width, .int z_first, .int z_moved, .int z_deepest, .int xL, .int yL, .int (nI t), .ref m_stack, .ref m_places, .int (nI d), .ref m_kinds, .ref m_ats, .ref m_ends])), (m_stack, .inl (cI, 48, .inl g_stack)), (m_mark, .inl (cI, 28000, .inl gm))] [(mo, .inr (8, [.int z_fault, .int z_size, .ref m_row, .ref m_shelves, .ref m_many, .ref m_widths, .int (nI mL), .ref m_mark, .int z_shown, .ref m_shownMark, .int z_wasRun, .int wL, .int z_ended, .int (nI sp), .int z_hints, .int z_hasWidth, .int z_width, .int z_first, .int z_moved, .int z_deepest, .int xL, .int yL, .int (nI t), .ref m_stack, .ref m_places, .int (nI d), .ref m_kinds, .ref m_ats, .ref m_ends])), (m_mark, .inl (cI, 28000, .inl gm))] [(m_stack, .inl (cI, 48, .inl g_stack))] [0, 2] [1] := ⟨rfl, rfl, rfl, rfl, by decide⟩
                    refine goV0 (trV (As := [.int (g_stack i), .int 0, .int (g_stack (i + 1)), .int (g_stack (i + 2)), .int (g_stack (i + 3)), .int 0]) (rest := []) ⟨hx, hb, hml, hown, hts⟩ gd_good (c_Mo_curve l D cB cI cJ mo m_row m_shelves m_many m_widths m_mark m_shownMark m_stack m_places m_kinds m_ats m_ends mL sp t d z_fault z_size z_shown z_wasRun wL z_ended z_hints z_hasWidth z_width z_first z_moved z_deepest xL yL gm (g_stack i) 0 (g_stack (i + 1)) (g_stack (i + 2)) (g_stack (i + 3)) 0 (by omega) ) cal_Mo_curve ml_Mo_158 ⟨Nat.le_of_ble_eq_true rfl, Nat.le_of_ble_eq_true rfl⟩ hZ hP hD hC 0 (ci := 8) rfl rfl rfl rfl hl.1 rfl (Nat.le_of_ble_eq_true rfl) d_Mo_flats_109 ⟨Nat.le_of_ble_eq_true rfl, Nat.le_of_ble_eq_true rfl⟩) hZ hP hD hS hC (fun w1 H locs hq hP hD hS => ?_)
                    obtain ⟨z_x_12, z_y_12, z_wrong_12, mk_12, g_mark_12, rfl, hv_12⟩ := hq
                    have hP : va_P D classes [(m_stack, .inl (cI, 48, .inl g_stack)), (mo, .inr (8, [.int z_fault, .int z_size, .ref m_row, .ref m_shelves, .ref m_many, .ref m_widths, .int (nI mk_12), .ref m_mark, .int z_shown, .ref m_shownMark, .int z_wasRun, .int z_wrong_12, .int z_ended, .int (nI sp), .int z_hints, .int z_hasWidth, .int z_width, .int z_first, .int z_moved, .int z_deepest, .int z_x_12, .int z_y_12, .int (nI t), .ref m_stack, .ref m_places, .int (nI d), .ref m_kinds, .ref m_ats, .ref m_ends])), (m_mark, .inl (cI, 28000, .inl g_mark_12))] H := hP
                    have hD : va_D A_ [(m_stack, .inl (cI, 48, .inl g_stack)), (mo, .inr (8, [.int z_fault, .int z_size, .ref m_row, .ref m_shelves, .ref m_many, .ref m_widths, .int (nI mk_12), .ref m_mark, .int z_shown, .ref m_shownMark, .int z_wasRun, .int z_wrong_12, .int z_ended, .int (nI sp), .int z_hints, .int z_hasWidth, .int z_width, .int z_first, .int z_moved, .int z_deepest, .int z_x_12, .int z_y_12, .int (nI t), .ref m_stack, .ref m_places, .int (nI d), .ref m_kinds, .ref m_ats, .ref m_ends])), (m_mark, .inl (cI, 28000, .inl g_mark_12))] := hD
                    refine lv_goto (tgt := 152) hx hb d_Mo_flats_112 (by decide) ?_
                    refine lv_iinc (v := nI (i + 4)) (lv' := [(3, .int (nI (i + 4))), (4, .int 0), (0, .ref mo), (1, .int c), (2, .int (nI (t % 4)))]) hx hb d_Mo_flats_152 hl (k := 4) rfl (nI_add i 4) (by decide) rfl (fun ls hl => ?_)
                    refine lv_goto (tgt := 39) hx hb d_Mo_flats_155 (by decide) ?_
                    exact ih_39  (i + 4) z_x_12 z_y_12 z_wrong_12 mk_12 g_mark_12 _ _ _ ⟨by omega, by omega, by omega⟩ (by omega) (hP.subm [1, 0, 2] rfl) (hD.sub [1, 0, 2] rfl rfl) hS (lv_sub hl [2, 3, 4, 0] rfl)
                · have n_56 : (i) = (1) := (nI_eq (a := i) (b := 1) (by omega) (by omega)).mp c_56
                  refine lv_aload_n hx hb d_Mo_flats_59 rfl (lv_at hl 0 rfl) ?_
                  refine va_get (D := D) (ci := 8) (v := .ref m_stack) (C := R_Mo) (T := F_Mo) (N := 29) hx hb hts i_Mo hown hZ.1 hP 0 rfl rfl 23 (by decide) (hts _ fl_Mo_29) (fun _ h9 => h9) rfl d_Mo_flats_60 ?_
                  refine lv_iconst (v := 0) hx hb d_Mo_flats_63 (by decide) ?_
                  refine va_iald hx hb hZ.1 hP 1 1 rfl rfl (show vp_in (nI 0) 48 from vp_in_nI (by decide) (by decide)) d_Mo_flats_64 ?_
                  refine lv_tv (y := g_stack 0) rfl ?_
                  refine lv_goto (tgt := 69) hx hb d_Mo_flats_65 (by decide) ?_
                  refine lv_istore (lv' := [(4, .int (g_stack 0)), (0, .ref mo), (1, .int c), (2, .int (nI (t % 4))), (3, .int (nI i))]) hx hb d_Mo_flats_69 hl (by decide) rfl (fun ls hl => ?_)
                  refine lv_iload_n hx hb d_Mo_flats_71 rfl (lv_at hl 2 rfl) ?_
                  refine lv_if_eq (tgt := 115) hx hb d_Mo_flats_72 (by decide) (fun c_72 => ?_) (fun c_72 => ?_)
                  · refine lv_aload_n hx hb d_Mo_flats_115 rfl (lv_at hl 1 rfl) ?_
                    refine lv_iload hx hb d_Mo_flats_116 (lv_at hl 0 rfl) ?_
                    refine lv_aload_n hx hb d_Mo_flats_118 rfl (lv_at hl 1 rfl) ?_
                    refine va_get (D := D) (ci := 8) (v := .ref m_stack) (C := R_Mo) (T := F_Mo) (N := 29) hx hb hts i_Mo hown hZ.1 hP 0 rfl rfl 23 (by decide) (hts _ fl_Mo_29) (fun _ h9 => h9) rfl d_Mo_flats_119 ?_
                    refine lv_iload_n hx hb d_Mo_flats_122 rfl (lv_at hl 4 rfl) ?_
                    refine va_iald hx hb hZ.1 hP 1 1 rfl rfl (vp_in_nI (by omega) (by omega)) d_Mo_flats_123 ?_
                    refine lv_tv (y := g_stack i) (by rw [nI_clamp (by omega)]) ?_
                    refine lv_aload_n hx hb d_Mo_flats_124 rfl (lv_at hl 1 rfl) ?_
                    refine va_get (D := D) (ci := 8) (v := .ref m_stack) (C := R_Mo) (T := F_Mo) (N := 29) hx hb hts i_Mo hown hZ.1 hP 0 rfl rfl 23 (by decide) (hts _ fl_Mo_29) (fun _ h9 => h9) rfl d_Mo_flats_125 ?_
                    refine lv_iload_n hx hb d_Mo_flats_128 rfl (lv_at hl 4 rfl) ?_
                    refine lv_iconst (v := 1) hx hb d_Mo_flats_129 (by decide) ?_
                    refine lv_iadd hx hb d_Mo_flats_130 ?_
                    refine lv_tv (y := nI (i + 1)) (nI_add i 1) ?_
                    refine va_iald hx hb hZ.1 hP 1 1 rfl rfl (vp_in_nI (by omega) (by omega)) d_Mo_flats_131 ?_
                    refine lv_tv (y := g_stack (i + 1)) (by rw [nI_clamp (by omega)]) ?_
                    refine lv_aload_n hx hb d_Mo_flats_132 rfl (lv_at hl 1 rfl) ?_
                    refine va_get (D := D) (ci := 8) (v := .ref m_stack) (C := R_Mo) (T := F_Mo) (N := 29) hx hb hts i_Mo hown hZ.1 hP 0 rfl rfl 23 (by decide) (hts _ fl_Mo_29) (fun _ h9 => h9) rfl d_Mo_flats_133 ?_
                    refine lv_iload_n hx hb d_Mo_flats_136 rfl (lv_at hl 4 rfl) ?_
                    refine lv_iconst (v := 2) hx hb d_Mo_flats_137 (by decide) ?_
                    refine lv_iadd hx hb d_Mo_flats_138 ?_
                    refine lv_tv (y := nI (i + 2)) (nI_add i 2) ?_
                    refine va_iald hx hb hZ.1 hP 1 1 rfl rfl (vp_in_nI (by omega) (by omega)) d_Mo_flats_139 ?_
                    refine lv_tv (y := g_stack (i + 2)) (by rw [nI_clamp (by omega)]) ?_
                    refine lv_iconst (v := 0) hx hb d_Mo_flats_140 (by decide) ?_
                    refine lv_aload_n hx hb d_Mo_flats_141 rfl (lv_at hl 1 rfl) ?_
                    refine va_get (D := D) (ci := 8) (v := .ref m_stack) (C := R_Mo) (T := F_Mo) (N := 29) hx hb hts i_Mo hown hZ.1 hP 0 rfl rfl 23 (by decide) (hts _ fl_Mo_29) (fun _ h9 => h9) rfl d_Mo_flats_142 ?_
                    refine lv_iload_n hx hb d_Mo_flats_145 rfl (lv_at hl 4 rfl) ?_
                    refine lv_iconst (v := 3) hx hb d_Mo_flats_146 (by decide) ?_
                    refine lv_iadd hx hb d_Mo_flats_147 ?_
                    refine lv_tv (y := nI (i + 3)) (nI_add i 3) ?_
                    refine va_iald hx hb hZ.1 hP 1 1 rfl rfl (vp_in_nI (by omega) (by omega)) d_Mo_flats_148 ?_
                    refine lv_tv (y := g_stack (i + 3)) (by rw [nI_clamp (by omega)]) ?_
                    have hC : Cut [(mo, .inr (8, [.int z_fault, .int z_size, .ref m_row, .ref m_shelves, .ref m_many, .ref m_widths, .int (nI mL), .ref m_mark, .int z_shown, .ref m_shownMark, .int z_wasRun, .int wL, .int z_ended, .int (nI sp), .int z_hints, .int z_hasWidth, .int z_width, .int z_first, .int z_moved, .int z_deepest, .int xL, .int yL, .int (nI t), .ref m_stack, .ref m_places, .int (nI d), .ref m_kinds, .ref m_ats, .ref m_ends])), (m_stack, .inl (cI, 48, .inl g_stack)), (m_mark, .inl (cI, 28000, .inl gm))] [(mo, .inr (8, [.int z_fault, .int z_size, .ref m_row, .ref m_shelves, .ref m_many, .ref m_widths, .int (nI mL), .ref m_mark, .int z_shown, .ref m_shownMark, .int z_wasRun, .int wL, .int z_ended, .int (nI sp), .int z_hints, .int z_hasWidth, .int z_width, .int z_first, .int z_moved, .int z_deepest, .int xL, .int yL, .int (nI t), .ref m_stack, .ref m_places, .int (nI d), .ref m_kinds, .ref m_ats, .ref m_ends])), (m_mark, .inl (cI, 28000, .inl gm))] [(m_stack, .inl (cI, 48, .inl g_stack))] [0, 2] [1] := ⟨rfl, rfl, rfl, rfl, by decide⟩
                    refine goV0 (trV (As := [.int (g_stack 0), .int (g_stack i), .int (g_stack (i + 1)), .int (g_stack (i + 2)), .int 0, .int (g_stack (i + 3))]) (rest := []) ⟨hx, hb, hml, hown, hts⟩ gd_good (c_Mo_curve l D cB cI cJ mo m_row m_shelves m_many m_widths m_mark m_shownMark m_stack m_places m_kinds m_ats m_ends mL sp t d z_fault z_size z_shown z_wasRun wL z_ended z_hints z_hasWidth z_width z_first z_moved z_deepest xL yL gm (g_stack 0) (g_stack i) (g_stack (i + 1)) (g_stack (i + 2)) 0 (g_stack (i + 3)) (by omega) ) cal_Mo_curve ml_Mo_158 ⟨Nat.le_of_ble_eq_true rfl, Nat.le_of_ble_eq_true rfl⟩ hZ hP hD hC 0 (ci := 8) rfl rfl rfl rfl hl.1 rfl (Nat.le_of_ble_eq_true rfl) d_Mo_flats_149 ⟨Nat.le_of_ble_eq_true rfl, Nat.le_of_ble_eq_true rfl⟩) hZ hP hD hS hC (fun w1 H locs hq hP hD hS => ?_)
                    obtain ⟨z_x_13, z_y_13, z_wrong_13, mk_13, g_mark_13, rfl, hv_13⟩ := hq
                    have hP : va_P D classes [(m_stack, .inl (cI, 48, .inl g_stack)), (mo, .inr (8, [.int z_fault, .int z_size, .ref m_row, .ref m_shelves, .ref m_many, .ref m_widths, .int (nI mk_13), .ref m_mark, .int z_shown, .ref m_shownMark, .int z_wasRun, .int z_wrong_13, .int z_ended, .int (nI sp), .int z_hints, .int z_hasWidth, .int z_width, .int z_first, .int z_moved, .int z_deepest, .int z_x_13, .int z_y_13, .int (nI t), .ref m_stack, .ref m_places, .int (nI d), .ref m_kinds, .ref m_ats, .ref m_ends])), (m_mark, .inl (cI, 28000, .inl g_mark_13))] H := hP
                    have hD : va_D A_ [(m_stack, .inl (cI, 48, .inl g_stack)), (mo, .inr (8, [.int z_fault, .int z_size, .ref m_row, .ref m_shelves, .ref m_many, .ref m_widths, .int (nI mk_13), .ref m_mark, .int z_shown, .ref m_shownMark, .int z_wasRun, .int z_wrong_13, .int z_ended, .int (nI sp), .int z_hints, .int z_hasWidth, .int z_width, .int z_first, .int z_moved, .int z_deepest, .int z_x_13, .int z_y_13, .int (nI t), .ref m_stack, .ref m_places, .int (nI d), .ref m_kinds, .ref m_ats, .ref m_ends])), (m_mark, .inl (cI, 28000, .inl g_mark_13))] := hD
                    refine lv_iinc (v := nI (i + 4)) (lv' := [(3, .int (nI (i + 4))), (4, .int (g_stack 0)), (0, .ref mo), (1, .int c), (2, .int (nI (t % 4)))]) hx hb d_Mo_flats_152 hl (k := 4) rfl (nI_add i 4) (by decide) rfl (fun ls hl => ?_)
                    refine lv_goto (tgt := 39) hx hb d_Mo_flats_155 (by decide) ?_
                    exact ih_39  (i + 4) z_x_13 z_y_13 z_wrong_13 mk_13 g_mark_13 _ _ _ ⟨by omega, by omega, by omega⟩ (by omega) (hP.subm [1, 0, 2] rfl) (hD.sub [1, 0, 2] rfl rfl) hS (lv_sub hl [2, 3, 4, 0] rfl)
                  · refine lv_aload_n hx hb d_Mo_flats_75 rfl (lv_at hl 1 rfl) ?_
                    refine lv_aload_n hx hb d_Mo_flats_76 rfl (lv_at hl 1 rfl) ?_
                    refine va_get (D := D) (ci := 8) (v := .ref m_stack) (C := R_Mo) (T := F_Mo) (N := 29) hx hb hts i_Mo hown hZ.1 hP 0 rfl rfl 23 (by decide) (hts _ fl_Mo_29) (fun _ h9 => h9) rfl d_Mo_flats_77 ?_
                    refine lv_iload_n hx hb d_Mo_flats_80 rfl (lv_at hl 4 rfl) ?_
                    refine va_iald hx hb hZ.1 hP 1 1 rfl rfl (vp_in_nI (by omega) (by omega)) d_Mo_flats_81 ?_
                    refine lv_tv (y := g_stack i) (by rw [nI_clamp (by omega)]) ?_
                    refine lv_iload hx hb d_Mo_flats_82 (lv_at hl 0 rfl) ?_
                    refine lv_aload_n hx hb d_Mo_flats_84 rfl (lv_at hl 1 rfl) ?_
                    refine va_get (D := D) (ci := 8) (v := .ref m_stack) (C := R_Mo) (T := F_Mo) (N := 29) hx hb hts i_Mo hown hZ.1 hP 0 rfl rfl 23 (by decide) (hts _ fl_Mo_29) (fun _ h9 => h9) rfl d_Mo_flats_85 ?_
                    refine lv_iload_n hx hb d_Mo_flats_88 rfl (lv_at hl 4 rfl) ?_
                    refine lv_iconst (v := 1) hx hb d_Mo_flats_89 (by decide) ?_
                    refine lv_iadd hx hb d_Mo_flats_90 ?_
                    refine lv_tv (y := nI (i + 1)) (nI_add i 1) ?_
                    refine va_iald hx hb hZ.1 hP 1 1 rfl rfl (vp_in_nI (by omega) (by omega)) d_Mo_flats_91 ?_
                    refine lv_tv (y := g_stack (i + 1)) (by rw [nI_clamp (by omega)]) ?_
                    refine lv_aload_n hx hb d_Mo_flats_92 rfl (lv_at hl 1 rfl) ?_
                    refine va_get (D := D) (ci := 8) (v := .ref m_stack) (C := R_Mo) (T := F_Mo) (N := 29) hx hb hts i_Mo hown hZ.1 hP 0 rfl rfl 23 (by decide) (hts _ fl_Mo_29) (fun _ h9 => h9) rfl d_Mo_flats_93 ?_
                    refine lv_iload_n hx hb d_Mo_flats_96 rfl (lv_at hl 4 rfl) ?_
                    refine lv_iconst (v := 2) hx hb d_Mo_flats_97 (by decide) ?_
                    refine lv_iadd hx hb d_Mo_flats_98 ?_
                    refine lv_tv (y := nI (i + 2)) (nI_add i 2) ?_
                    refine va_iald hx hb hZ.1 hP 1 1 rfl rfl (vp_in_nI (by omega) (by omega)) d_Mo_flats_99 ?_
                    refine lv_tv (y := g_stack (i + 2)) (by rw [nI_clamp (by omega)]) ?_
                    refine lv_aload_n hx hb d_Mo_flats_100 rfl (lv_at hl 1 rfl) ?_
                    refine va_get (D := D) (ci := 8) (v := .ref m_stack) (C := R_Mo) (T := F_Mo) (N := 29) hx hb hts i_Mo hown hZ.1 hP 0 rfl rfl 23 (by decide) (hts _ fl_Mo_29) (fun _ h9 => h9) rfl d_Mo_flats_101 ?_
                    refine lv_iload_n hx hb d_Mo_flats_104 rfl (lv_at hl 4 rfl) ?_
                    refine lv_iconst (v := 3) hx hb d_Mo_flats_105 (by decide) ?_
                    refine lv_iadd hx hb d_Mo_flats_106 ?_
                    refine lv_tv (y := nI (i + 3)) (nI_add i 3) ?_
                    refine va_iald hx hb hZ.1 hP 1 1 rfl rfl (vp_in_nI (by omega) (by omega)) d_Mo_flats_107 ?_
                    refine lv_tv (y := g_stack (i + 3)) (by rw [nI_clamp (by omega)]) ?_
                    refine lv_iconst (v := 0) hx hb d_Mo_flats_108 (by decide) ?_
                    have hC : Cut [(mo, .inr (8, [.int z_fault, .int z_size, .ref m_row, .ref m_shelves, .ref m_many, .ref m_widths, .int (nI mL), .ref m_mark, .int z_shown, .ref m_shownMark, .int z_wasRun, .int wL, .int z_ended, .int (nI sp), .int z_hints, .int z_hasWidth, .int z_width, .int z_first, .int z_moved, .int z_deepest, .int xL, .int yL, .int (nI t), .ref m_stack, .ref m_places, .int (nI d), .ref m_kinds, .ref m_ats, .ref m_ends])), (m_stack, .inl (cI, 48, .inl g_stack)), (m_mark, .inl (cI, 28000, .inl gm))] [(mo, .inr (8, [.int z_fault, .int z_size, .ref m_row, .ref m_shelves, .ref m_many, .ref m_widths, .int (nI mL), .ref m_mark, .int z_shown, .ref m_shownMark, .int z_wasRun, .int wL, .int z_ended, .int (nI sp), .int z_hints, .int z_hasWidth, .int z_width, .int z_first, .int z_moved, .int z_deepest, .int xL, .int yL, .int (nI t), .ref m_stack, .ref m_places, .int (nI d), .ref m_kinds, .ref m_ats, .ref m_ends])), (m_mark, .inl (cI, 28000, .inl gm))] [(m_stack, .inl (cI, 48, .inl g_stack))] [0, 2] [1] := ⟨rfl, rfl, rfl, rfl, by decide⟩
                    refine goV0 (trV (As := [.int (g_stack i), .int (g_stack 0), .int (g_stack (i + 1)), .int (g_stack (i + 2)), .int (g_stack (i + 3)), .int 0]) (rest := []) ⟨hx, hb, hml, hown, hts⟩ gd_good (c_Mo_curve l D cB cI cJ mo m_row m_shelves m_many m_widths m_mark m_shownMark m_stack m_places m_kinds m_ats m_ends mL sp t d z_fault z_size z_shown z_wasRun wL z_ended z_hints z_hasWidth z_width z_first z_moved z_deepest xL yL gm (g_stack i) (g_stack 0) (g_stack (i + 1)) (g_stack (i + 2)) (g_stack (i + 3)) 0 (by omega) ) cal_Mo_curve ml_Mo_158 ⟨Nat.le_of_ble_eq_true rfl, Nat.le_of_ble_eq_true rfl⟩ hZ hP hD hC 0 (ci := 8) rfl rfl rfl rfl hl.1 rfl (Nat.le_of_ble_eq_true rfl) d_Mo_flats_109 ⟨Nat.le_of_ble_eq_true rfl, Nat.le_of_ble_eq_true rfl⟩) hZ hP hD hS hC (fun w1 H locs hq hP hD hS => ?_)
                    obtain ⟨z_x_14, z_y_14, z_wrong_14, mk_14, g_mark_14, rfl, hv_14⟩ := hq
                    have hP : va_P D classes [(m_stack, .inl (cI, 48, .inl g_stack)), (mo, .inr (8, [.int z_fault, .int z_size, .ref m_row, .ref m_shelves, .ref m_many, .ref m_widths, .int (nI mk_14), .ref m_mark, .int z_shown, .ref m_shownMark, .int z_wasRun, .int z_wrong_14, .int z_ended, .int (nI sp), .int z_hints, .int z_hasWidth, .int z_width, .int z_first, .int z_moved, .int z_deepest, .int z_x_14, .int z_y_14, .int (nI t), .ref m_stack, .ref m_places, .int (nI d), .ref m_kinds, .ref m_ats, .ref m_ends])), (m_mark, .inl (cI, 28000, .inl g_mark_14))] H := hP
                    have hD : va_D A_ [(m_stack, .inl (cI, 48, .inl g_stack)), (mo, .inr (8, [.int z_fault, .int z_size, .ref m_row, .ref m_shelves, .ref m_many, .ref m_widths, .int (nI mk_14), .ref m_mark, .int z_shown, .ref m_shownMark, .int z_wasRun, .int z_wrong_14, .int z_ended, .int (nI sp), .int z_hints, .int z_hasWidth, .int z_width, .int z_first, .int z_moved, .int z_deepest, .int z_x_14, .int z_y_14, .int (nI t), .ref m_stack, .ref m_places, .int (nI d), .ref m_kinds, .ref m_ats, .ref m_ends])), (m_mark, .inl (cI, 28000, .inl g_mark_14))] := hD
                    refine lv_goto (tgt := 152) hx hb d_Mo_flats_112 (by decide) ?_
                    refine lv_iinc (v := nI (i + 4)) (lv' := [(3, .int (nI (i + 4))), (4, .int (g_stack 0)), (0, .ref mo), (1, .int c), (2, .int (nI (t % 4)))]) hx hb d_Mo_flats_152 hl (k := 4) rfl (nI_add i 4) (by decide) rfl (fun ls hl => ?_)
                    refine lv_goto (tgt := 39) hx hb d_Mo_flats_155 (by decide) ?_
                    exact ih_39  (i + 4) z_x_14 z_y_14 z_wrong_14 mk_14 g_mark_14 _ _ _ ⟨by omega, by omega, by omega⟩ (by omega) (hP.subm [1, 0, 2] rfl) (hD.sub [1, 0, 2] rfl rfl) hS (lv_sub hl [2, 3, 4, 0] rfl)
        exact lp_39 _ (t % 4) z_x z_y z_wrong_8 mk g_mark _ _ _ ⟨by omega, by omega, by omega⟩ (Nat.lt_succ_self _) (hP.subm [2, 0, 1] rfl) (hD.sub [2, 0, 1] rfl rfl) hS (lv_sub hl [2, 3, 1, 0] rfl)
    · have n_16 : ¬ (2) ≤ (t % 4) := fun z => c_16 ((nI_leI (a := 2) (b := t % 4) (by omega) (by omega)).mpr z)
      refine lv_iconst (v := 1) hx hb d_Mo_flats_19 (by decide) ?_
      refine lv_goto (tgt := 24) hx hb d_Mo_flats_20 (by decide) ?_
      have hC : Cut [(mo, .inr (8, [.int z_fault, .int z_size, .ref m_row, .ref m_shelves, .ref m_many, .ref m_widths, .int (nI mk), .ref m_mark, .int z_shown, .ref m_shownMark, .int z_wasRun, .int z_wrong, .int z_ended, .int (nI sp), .int z_hints, .int z_hasWidth, .int z_width, .int z_first, .int z_moved, .int z_deepest, .int z_x, .int z_y, .int (nI t), .ref m_stack, .ref m_places, .int (nI d), .ref m_kinds, .ref m_ats, .ref m_ends])), (m_stack, .inl (cI, 48, .inl g_stack)), (m_mark, .inl (cI, 28000, .inl g_mark))] [(mo, .inr (8, [.int z_fault, .int z_size, .ref m_row, .ref m_shelves, .ref m_many, .ref m_widths, .int (nI mk), .ref m_mark, .int z_shown, .ref m_shownMark, .int z_wasRun, .int z_wrong, .int z_ended, .int (nI sp), .int z_hints, .int z_hasWidth, .int z_width, .int z_first, .int z_moved, .int z_deepest, .int z_x, .int z_y, .int (nI t), .ref m_stack, .ref m_places, .int (nI d), .ref m_kinds, .ref m_ats, .ref m_ends]))] [(m_stack, .inl (cI, 48, .inl g_stack)), (m_mark, .inl (cI, 28000, .inl g_mark))] [0] [1, 2] := ⟨rfl, rfl, rfl, rfl, by decide⟩
      refine goI0 (trV (As := [.int 1]) (rest := []) ⟨hx, hb, hml, hown, hts⟩ gd_good (c_Mo_may l D cB cI cJ mo m_row m_shelves m_many m_widths m_mark m_shownMark m_stack m_places m_kinds m_ats m_ends mk sp t d z_fault z_size z_shown z_wasRun z_wrong z_ended z_hints z_hasWidth z_width z_first z_moved z_deepest z_x z_y 1 (by omega) ) cal_Mo_may ml_Mo_162 ⟨Nat.le_of_ble_eq_true rfl, Nat.le_of_ble_eq_true rfl⟩ hZ hP hD hC 0 (ci := 8) rfl rfl rfl rfl hl.1 rfl (Nat.le_of_ble_eq_true rfl) d_Mo_flats_24 ⟨Nat.le_of_ble_eq_true rfl, Nat.le_of_ble_eq_true rfl⟩) hZ hP hD hS hC (fun r_24 w1 H locs hq hP hD hS => ?_)
      obtain ⟨z_wrong_15, rfl, hv_15, hx_15, hz_15⟩ := hq
      have hP : va_P D classes [(m_stack, .inl (cI, 48, .inl g_stack)), (m_mark, .inl (cI, 28000, .inl g_mark)), (mo, .inr (8, [.int z_fault, .int z_size, .ref m_row, .ref m_shelves, .ref m_many, .ref m_widths, .int (nI mk), .ref m_mark, .int z_shown, .ref m_shownMark, .int z_wasRun, .int z_wrong_15, .int z_ended, .int (nI sp), .int z_hints, .int z_hasWidth, .int z_width, .int z_first, .int z_moved, .int z_deepest, .int z_x, .int z_y, .int (nI t), .ref m_stack, .ref m_places, .int (nI d), .ref m_kinds, .ref m_ats, .ref m_ends]))] H := hP
      have hD : va_D A_ [(m_stack, .inl (cI, 48, .inl g_stack)), (m_mark, .inl (cI, 28000, .inl g_mark)), (mo, .inr (8, [.int z_fault, .int z_size, .ref m_row, .ref m_shelves, .ref m_many, .ref m_widths, .int (nI mk), .ref m_mark, .int z_shown, .ref m_shownMark, .int z_wasRun, .int z_wrong_15, .int z_ended, .int (nI sp), .int z_hints, .int z_hasWidth, .int z_width, .int z_first, .int z_moved, .int z_deepest, .int z_x, .int z_y, .int (nI t), .ref m_stack, .ref m_places, .int (nI d), .ref m_kinds, .ref m_ats, .ref m_ends]))] := hD
      refine lv_if_eq (tgt := 162) hx hb d_Mo_flats_27 (by decide) (fun c_27 => ?_) (fun c_27 => ?_)
      · exact t_vret hx hb hr hlk d_Mo_flats_162 (hP.subm (ws' := [(mo, .inr (8, [.int z_fault, .int z_size, .ref m_row, .ref m_shelves, .ref m_many, .ref m_widths, .int (nI mk), .ref m_mark, .int z_shown, .ref m_shownMark, .int z_wasRun, .int z_wrong_15, .int z_ended, .int (nI sp), .int z_hints, .int z_hasWidth, .int z_width, .int z_first, .int z_moved, .int z_deepest, .int z_x, .int z_y, .int (nI t), .ref m_stack, .ref m_places, .int (nI d), .ref m_kinds, .ref m_ats, .ref m_ends])), (m_stack, .inl (cI, 48, .inl g_stack)), (m_mark, .inl (cI, 28000, .inl g_mark))]) [2, 0, 1] rfl) (hD.sub (ws' := [(mo, .inr (8, [.int z_fault, .int z_size, .ref m_row, .ref m_shelves, .ref m_many, .ref m_widths, .int (nI mk), .ref m_mark, .int z_shown, .ref m_shownMark, .int z_wasRun, .int z_wrong_15, .int z_ended, .int (nI sp), .int z_hints, .int z_hasWidth, .int z_width, .int z_first, .int z_moved, .int z_deepest, .int z_x, .int z_y, .int (nI t), .ref m_stack, .ref m_places, .int (nI d), .ref m_kinds, .ref m_ats, .ref m_ends])), (m_stack, .inl (cI, 48, .inl g_stack)), (m_mark, .inl (cI, 28000, .inl g_mark))]) [2, 0, 1] rfl rfl) hS ⟨rfl, rfl, rfl, _, _, _, mk, t, _, rfl, (by omega)⟩
      · refine lv_aload_n hx hb d_Mo_flats_30 rfl (lv_at hl 0 rfl) ?_
        refine va_get (D := D) (ci := 8) (v := .int (nI t)) (C := R_Mo) (T := F_Mo) (N := 29) hx hb hts i_Mo hown hZ.1 hP 2 rfl rfl 22 (by decide) (hts _ fl_Mo_82) (fun _ h9 => h9) rfl d_Mo_flats_31 ?_
        refine lv_iconst (v := 4) hx hb d_Mo_flats_34 (by decide) ?_
        refine lv_irem hx hb d_Mo_flats_35 (by decide) ?_
        refine lv_tv (y := nI (t % 4)) (pk_rem (a := t) (d := 4) (by omega) (by omega) (by omega)) ?_
        refine lv_istore_n (lv' := [(2, .int (nI (t % 4))), (0, .ref mo), (1, .int c)]) hx hb d_Mo_flats_36 rfl hl (by decide) rfl (fun ls hl => ?_)
        refine lv_iload_n hx hb d_Mo_flats_37 rfl (lv_at hl 0 rfl) ?_
        refine lv_istore_n (lv' := [(3, .int (nI (t % 4))), (2, .int (nI (t % 4))), (0, .ref mo), (1, .int c)]) hx hb d_Mo_flats_38 rfl hl (by decide) rfl (fun ls hl => ?_)
        have lp_39 : ∀ (fu : Nat) (i : Nat) (xL : Int32) (yL : Int32) (wL : Int32) (mL : Nat) (gm : Nat → Int32) (H : Heap) (locs : List Loc) (ls : Array Slot), (mL ≤ 4000 ∧ i ≤ 60 ∧ i % 4 = t % 4) → (70 - i) < fu → va_P D classes [(mo, .inr (8, [.int z_fault, .int z_size, .ref m_row, .ref m_shelves, .ref m_many, .ref m_widths, .int (nI mL), .ref m_mark, .int z_shown, .ref m_shownMark, .int z_wasRun, .int wL, .int z_ended, .int (nI sp), .int z_hints, .int z_hasWidth, .int z_width, .int z_first, .int z_moved, .int z_deepest, .int xL, .int yL, .int (nI t), .ref m_stack, .ref m_places, .int (nI d), .ref m_kinds, .ref m_ats, .ref m_ends])), (m_stack, .inl (cI, 48, .inl g_stack)), (m_mark, .inl (cI, 28000, .inl gm))] H → va_D A_ [(mo, .inr (8, [.int z_fault, .int z_size, .ref m_row, .ref m_shelves, .ref m_many, .ref m_widths, .int (nI mL), .ref m_mark, .int z_shown, .ref m_shownMark, .int z_wasRun, .int wL, .int z_ended, .int (nI sp), .int z_hints, .int z_hasWidth, .int z_width, .int z_first, .int z_moved, .int z_deepest, .int xL, .int yL, .int (nI t), .ref m_stack, .ref m_places, .int (nI d), .ref m_kinds, .ref m_ats, .ref m_ends])), (m_stack, .inl (cI, 48, .inl g_stack)), (m_mark, .inl (cI, 28000, .inl gm))] → va_S A_ s_.heap H locs → lv_has ls 5 [(0, .ref mo), (1, .int c), (2, .int (nI (t % 4))), (3, .int (nI i))] → W p_ l e_ ({ frames := 3, cells := 0, slots := 0, locals := 77 }) s_ m_ args_ below_ meth_ c_ H locs (0) (0) (MQT below_ D classes A_ (pV0 (fun w => ∃ (z_x' : Int32) (z_y' : Int32) (z_wrong' : Int32) (mk' : Nat) (t' : Nat) (g_mark' : Nat → Int32), w = [(mo, .inr (8, [.int z_fault, .int z_size, .ref m_row, .ref m_shelves, .ref m_many, .ref m_widths, .int (nI mk'), .ref m_mark, .int z_shown, .ref m_shownMark, .int z_wasRun, .int z_wrong', .int z_ended, .int (nI sp), .int z_hints, .int z_hasWidth, .int z_width, .int z_first, .int z_moved, .int z_deepest, .int z_x', .int z_y', .int (nI t'), .ref m_stack, .ref m_places, .int (nI d), .ref m_kinds, .ref m_ats, .ref m_ends])), (m_stack, .inl (cI, 48, .inl g_stack)), (m_mark, .inl (cI, 28000, .inl g_mark'))] ∧ (t' ≤ 48 ∧ d ≤ 10 ∧ mk' ≤ 4000 ∧ sp ≤ 20000))) s_) (F0 m_ 39 ls []) := by
          intro fu
          induction fu with
          | zero => intro i xL yL wL mL gm H locs ls hinv hfu; exact absurd hfu (Nat.not_lt_zero _)
          | succ fu ih_39 =>
            intro i xL yL wL mL gm H locs ls hinv hfu hP hD hS hl
            obtain ⟨hmL, hi1, hi2⟩ := hinv
            refine lv_iload_n hx hb d_Mo_flats_39 rfl (lv_at hl 3 rfl) ?_
            refine lv_aload_n hx hb d_Mo_flats_40 rfl (lv_at hl 0 rfl) ?_
            refine va_get (D := D) (ci := 8) (v := .int (nI t)) (C := R_Mo) (T := F_Mo) (N := 29) hx hb hts i_Mo hown hZ.1 hP 0 rfl rfl 22 (by decide) (hts _ fl_Mo_82) (fun _ h9 => h9) rfl d_Mo_flats_41 ?_
            refine lv_icmp_ge (tgt := 158) hx hb d_Mo_flats_44 (by decide) (fun c_44 => ?_) (fun c_44 => ?_)
            · have n_44 : (t) ≤ (i) := (nI_leI (a := t) (b := i) (by omega) (by omega)).mp c_44
              refine lv_aload_n hx hb d_Mo_flats_158 rfl (lv_at hl 0 rfl) ?_
              have hC : Cut [(mo, .inr (8, [.int z_fault, .int z_size, .ref m_row, .ref m_shelves, .ref m_many, .ref m_widths, .int (nI mL), .ref m_mark, .int z_shown, .ref m_shownMark, .int z_wasRun, .int wL, .int z_ended, .int (nI sp), .int z_hints, .int z_hasWidth, .int z_width, .int z_first, .int z_moved, .int z_deepest, .int xL, .int yL, .int (nI t), .ref m_stack, .ref m_places, .int (nI d), .ref m_kinds, .ref m_ats, .ref m_ends])), (m_stack, .inl (cI, 48, .inl g_stack)), (m_mark, .inl (cI, 28000, .inl gm))] [(mo, .inr (8, [.int z_fault, .int z_size, .ref m_row, .ref m_shelves, .ref m_many, .ref m_widths, .int (nI mL), .ref m_mark, .int z_shown, .ref m_shownMark, .int z_wasRun, .int wL, .int z_ended, .int (nI sp), .int z_hints, .int z_hasWidth, .int z_width, .int z_first, .int z_moved, .int z_deepest, .int xL, .int yL, .int (nI t), .ref m_stack, .ref m_places, .int (nI d), .ref m_kinds, .ref m_ats, .ref m_ends]))] [(m_stack, .inl (cI, 48, .inl g_stack)), (m_mark, .inl (cI, 28000, .inl gm))] [0] [1, 2] := ⟨rfl, rfl, rfl, rfl, by decide⟩
              refine goV0 (trV (As := []) (rest := []) ⟨hx, hb, hml, hown, hts⟩ gd_good (c_Mo_take_V l D cB cI cJ mo m_row m_shelves m_many m_widths m_mark m_shownMark m_stack m_places m_kinds m_ats m_ends mL sp t d z_fault z_size z_shown z_wasRun wL z_ended z_hints z_hasWidth z_width z_first z_moved z_deepest xL yL (by omega) ) cal_Mo_take_V ml_Mo_155 ⟨Nat.le_of_ble_eq_true rfl, Nat.le_of_ble_eq_true rfl⟩ hZ hP hD hC 0 (ci := 8) rfl rfl rfl rfl hl.1 rfl (Nat.le_of_ble_eq_true rfl) d_Mo_flats_159 ⟨Nat.le_of_ble_eq_true rfl, Nat.le_of_ble_eq_true rfl⟩) hZ hP hD hS hC (fun w1 H locs hq hP hD hS => ?_)
              obtain ⟨t_16, rfl, hv_16⟩ := hq
              have hP : va_P D classes [(m_stack, .inl (cI, 48, .inl g_stack)), (m_mark, .inl (cI, 28000, .inl gm)), (mo, .inr (8, [.int z_fault, .int z_size, .ref m_row, .ref m_shelves, .ref m_many, .ref m_widths, .int (nI mL), .ref m_mark, .int z_shown, .ref m_shownMark, .int z_wasRun, .int wL, .int z_ended, .int (nI sp), .int z_hints, .int z_hasWidth, .int z_width, .int z_first, .int z_moved, .int z_deepest, .int xL, .int yL, .int (nI t_16), .ref m_stack, .ref m_places, .int (nI d), .ref m_kinds, .ref m_ats, .ref m_ends]))] H := hP
              have hD : va_D A_ [(m_stack, .inl (cI, 48, .inl g_stack)), (m_mark, .inl (cI, 28000, .inl gm)), (mo, .inr (8, [.int z_fault, .int z_size, .ref m_row, .ref m_shelves, .ref m_many, .ref m_widths, .int (nI mL), .ref m_mark, .int z_shown, .ref m_shownMark, .int z_wasRun, .int wL, .int z_ended, .int (nI sp), .int z_hints, .int z_hasWidth, .int z_width, .int z_first, .int z_moved, .int z_deepest, .int xL, .int yL, .int (nI t_16), .ref m_stack, .ref m_places, .int (nI d), .ref m_kinds, .ref m_ats, .ref m_ends]))] := hD
              exact t_vret hx hb hr hlk d_Mo_flats_162 (hP.subm (ws' := [(mo, .inr (8, [.int z_fault, .int z_size, .ref m_row, .ref m_shelves, .ref m_many, .ref m_widths, .int (nI mL), .ref m_mark, .int z_shown, .ref m_shownMark, .int z_wasRun, .int wL, .int z_ended, .int (nI sp), .int z_hints, .int z_hasWidth, .int z_width, .int z_first, .int z_moved, .int z_deepest, .int xL, .int yL, .int (nI t_16), .ref m_stack, .ref m_places, .int (nI d), .ref m_kinds, .ref m_ats, .ref m_ends])), (m_stack, .inl (cI, 48, .inl g_stack)), (m_mark, .inl (cI, 28000, .inl gm))]) [2, 0, 1] rfl) (hD.sub (ws' := [(mo, .inr (8, [.int z_fault, .int z_size, .ref m_row, .ref m_shelves, .ref m_many, .ref m_widths, .int (nI mL), .ref m_mark, .int z_shown, .ref m_shownMark, .int z_wasRun, .int wL, .int z_ended, .int (nI sp), .int z_hints, .int z_hasWidth, .int z_width, .int z_first, .int z_moved, .int z_deepest, .int xL, .int yL, .int (nI t_16), .ref m_stack, .ref m_places, .int (nI d), .ref m_kinds, .ref m_ats, .ref m_ends])), (m_stack, .inl (cI, 48, .inl g_stack)), (m_mark, .inl (cI, 28000, .inl gm))]) [2, 0, 1] rfl rfl) hS ⟨rfl, rfl, rfl, _, _, _, mL, t_16, _, rfl, (by omega)⟩
            · have n_44 : ¬ (t) ≤ (i) := fun z => c_44 ((nI_leI (a := t) (b := i) (by omega) (by omega)).mpr z)
              refine lv_aload_n hx hb d_Mo_flats_47 rfl (lv_at hl 0 rfl) ?_
              refine va_get (D := D) (ci := 8) (v := .int wL) (C := R_Mo) (T := F_Mo) (N := 29) hx hb hts i_Mo hown hZ.1 hP 0 rfl rfl 11 (by decide) (hts _ fl_Mo_75) (fun _ h9 => h9) rfl d_Mo_flats_48 ?_
              refine lv_if_ne (tgt := 158) hx hb d_Mo_flats_51 (by decide) (fun c_51 => ?_) (fun c_51 => ?_)
              · refine lv_aload_n hx hb d_Mo_flats_158 rfl (lv_at hl 0 rfl) ?_
                have hC : Cut [(mo, .inr (8, [.int z_fault, .int z_size, .ref m_row, .ref m_shelves, .ref m_many, .ref m_widths, .int (nI mL), .ref m_mark, .int z_shown, .ref m_shownMark, .int z_wasRun, .int wL, .int z_ended, .int (nI sp), .int z_hints, .int z_hasWidth, .int z_width, .int z_first, .int z_moved, .int z_deepest, .int xL, .int yL, .int (nI t), .ref m_stack, .ref m_places, .int (nI d), .ref m_kinds, .ref m_ats, .ref m_ends])), (m_stack, .inl (cI, 48, .inl g_stack)), (m_mark, .inl (cI, 28000, .inl gm))] [(mo, .inr (8, [.int z_fault, .int z_size, .ref m_row, .ref m_shelves, .ref m_many, .ref m_widths, .int (nI mL), .ref m_mark, .int z_shown, .ref m_shownMark, .int z_wasRun, .int wL, .int z_ended, .int (nI sp), .int z_hints, .int z_hasWidth, .int z_width, .int z_first, .int z_moved, .int z_deepest, .int xL, .int yL, .int (nI t), .ref m_stack, .ref m_places, .int (nI d), .ref m_kinds, .ref m_ats, .ref m_ends]))] [(m_stack, .inl (cI, 48, .inl g_stack)), (m_mark, .inl (cI, 28000, .inl gm))] [0] [1, 2] := ⟨rfl, rfl, rfl, rfl, by decide⟩
                refine goV0 (trV (As := []) (rest := []) ⟨hx, hb, hml, hown, hts⟩ gd_good (c_Mo_take_V l D cB cI cJ mo m_row m_shelves m_many m_widths m_mark m_shownMark m_stack m_places m_kinds m_ats m_ends mL sp t d z_fault z_size z_shown z_wasRun wL z_ended z_hints z_hasWidth z_width z_first z_moved z_deepest xL yL (by omega) ) cal_Mo_take_V ml_Mo_155 ⟨Nat.le_of_ble_eq_true rfl, Nat.le_of_ble_eq_true rfl⟩ hZ hP hD hC 0 (ci := 8) rfl rfl rfl rfl hl.1 rfl (Nat.le_of_ble_eq_true rfl) d_Mo_flats_159 ⟨Nat.le_of_ble_eq_true rfl, Nat.le_of_ble_eq_true rfl⟩) hZ hP hD hS hC (fun w1 H locs hq hP hD hS => ?_)
                obtain ⟨t_17, rfl, hv_17⟩ := hq
                have hP : va_P D classes [(m_stack, .inl (cI, 48, .inl g_stack)), (m_mark, .inl (cI, 28000, .inl gm)), (mo, .inr (8, [.int z_fault, .int z_size, .ref m_row, .ref m_shelves, .ref m_many, .ref m_widths, .int (nI mL), .ref m_mark, .int z_shown, .ref m_shownMark, .int z_wasRun, .int wL, .int z_ended, .int (nI sp), .int z_hints, .int z_hasWidth, .int z_width, .int z_first, .int z_moved, .int z_deepest, .int xL, .int yL, .int (nI t_17), .ref m_stack, .ref m_places, .int (nI d), .ref m_kinds, .ref m_ats, .ref m_ends]))] H := hP
                have hD : va_D A_ [(m_stack, .inl (cI, 48, .inl g_stack)), (m_mark, .inl (cI, 28000, .inl gm)), (mo, .inr (8, [.int z_fault, .int z_size, .ref m_row, .ref m_shelves, .ref m_many, .ref m_widths, .int (nI mL), .ref m_mark, .int z_shown, .ref m_shownMark, .int z_wasRun, .int wL, .int z_ended, .int (nI sp), .int z_hints, .int z_hasWidth, .int z_width, .int z_first, .int z_moved, .int z_deepest, .int xL, .int yL, .int (nI t_17), .ref m_stack, .ref m_places, .int (nI d), .ref m_kinds, .ref m_ats, .ref m_ends]))] := hD
                exact t_vret hx hb hr hlk d_Mo_flats_162 (hP.subm (ws' := [(mo, .inr (8, [.int z_fault, .int z_size, .ref m_row, .ref m_shelves, .ref m_many, .ref m_widths, .int (nI mL), .ref m_mark, .int z_shown, .ref m_shownMark, .int z_wasRun, .int wL, .int z_ended, .int (nI sp), .int z_hints, .int z_hasWidth, .int z_width, .int z_first, .int z_moved, .int z_deepest, .int xL, .int yL, .int (nI t_17), .ref m_stack, .ref m_places, .int (nI d), .ref m_kinds, .ref m_ats, .ref m_ends])), (m_stack, .inl (cI, 48, .inl g_stack)), (m_mark, .inl (cI, 28000, .inl gm))]) [2, 0, 1] rfl) (hD.sub (ws' := [(mo, .inr (8, [.int z_fault, .int z_size, .ref m_row, .ref m_shelves, .ref m_many, .ref m_widths, .int (nI mL), .ref m_mark, .int z_shown, .ref m_shownMark, .int z_wasRun, .int wL, .int z_ended, .int (nI sp), .int z_hints, .int z_hasWidth, .int z_width, .int z_first, .int z_moved, .int z_deepest, .int xL, .int yL, .int (nI t_17), .ref m_stack, .ref m_places, .int (nI d), .ref m_kinds, .ref m_ats, .ref m_ends])), (m_stack, .inl (cI, 48, .inl g_stack)), (m_mark, .inl (cI, 28000, .inl gm))]) [2, 0, 1] rfl rfl) hS ⟨rfl, rfl, rfl, _, _, _, mL, t_17, _, rfl, (by omega)⟩
              · refine lv_iload_n hx hb d_Mo_flats_54 rfl (lv_at hl 3 rfl) ?_
                refine lv_iconst (v := 1) hx hb d_Mo_flats_55 (by decide) ?_
                refine lv_icmp_ne (tgt := 68) hx hb d_Mo_flats_56 (by decide) (fun c_56 => ?_) (fun c_56 => ?_)
                · have n_56 : ¬ (i) = (1) := fun z => c_56 ((nI_eq (a := i) (b := 1) (by omega) (by omega)).mpr z)
                  refine lv_iconst (v := 0) hx hb d_Mo_flats_68 (by decide) ?_
                  refine lv_istore (lv' := [(4, .int 0), (0, .ref mo), (1, .int c), (2, .int (nI (t % 4))), (3, .int (nI i))]) hx hb d_Mo_flats_69 hl (by decide) rfl (fun ls hl => ?_)
                  refine lv_iload_n hx hb d_Mo_flats_71 rfl (lv_at hl 2 rfl) ?_
                  refine lv_if_eq (tgt := 115) hx hb d_Mo_flats_72 (by decide) (fun c_72 => ?_) (fun c_72 => ?_)
                  · refine lv_aload_n hx hb d_Mo_flats_115 rfl (lv_at hl 1 rfl) ?_
                    refine lv_iload hx hb d_Mo_flats_116 (lv_at hl 0 rfl) ?_
                    refine lv_aload_n hx hb d_Mo_flats_118 rfl (lv_at hl 1 rfl) ?_
                    refine va_get (D := D) (ci := 8) (v := .ref m_stack) (C := R_Mo) (T := F_Mo) (N := 29) hx hb hts i_Mo hown hZ.1 hP 0 rfl rfl 23 (by decide) (hts _ fl_Mo_29) (fun _ h9 => h9) rfl d_Mo_flats_119 ?_
                    refine lv_iload_n hx hb d_Mo_flats_122 rfl (lv_at hl 4 rfl) ?_
                    refine va_iald hx hb hZ.1 hP 1 1 rfl rfl (vp_in_nI (by omega) (by omega)) d_Mo_flats_123 ?_
                    refine lv_tv (y := g_stack i) (by rw [nI_clamp (by omega)]) ?_
                    refine lv_aload_n hx hb d_Mo_flats_124 rfl (lv_at hl 1 rfl) ?_
                    refine va_get (D := D) (ci := 8) (v := .ref m_stack) (C := R_Mo) (T := F_Mo) (N := 29) hx hb hts i_Mo hown hZ.1 hP 0 rfl rfl 23 (by decide) (hts _ fl_Mo_29) (fun _ h9 => h9) rfl d_Mo_flats_125 ?_
                    refine lv_iload_n hx hb d_Mo_flats_128 rfl (lv_at hl 4 rfl) ?_
                    refine lv_iconst (v := 1) hx hb d_Mo_flats_129 (by decide) ?_
                    refine lv_iadd hx hb d_Mo_flats_130 ?_
                    refine lv_tv (y := nI (i + 1)) (nI_add i 1) ?_
                    refine va_iald hx hb hZ.1 hP 1 1 rfl rfl (vp_in_nI (by omega) (by omega)) d_Mo_flats_131 ?_
                    refine lv_tv (y := g_stack (i + 1)) (by rw [nI_clamp (by omega)]) ?_
                    refine lv_aload_n hx hb d_Mo_flats_132 rfl (lv_at hl 1 rfl) ?_
                    refine va_get (D := D) (ci := 8) (v := .ref m_stack) (C := R_Mo) (T := F_Mo) (N := 29) hx hb hts i_Mo hown hZ.1 hP 0 rfl rfl 23 (by decide) (hts _ fl_Mo_29) (fun _ h9 => h9) rfl d_Mo_flats_133 ?_
                    refine lv_iload_n hx hb d_Mo_flats_136 rfl (lv_at hl 4 rfl) ?_
                    refine lv_iconst (v := 2) hx hb d_Mo_flats_137 (by decide) ?_
                    refine lv_iadd hx hb d_Mo_flats_138 ?_
                    refine lv_tv (y := nI (i + 2)) (nI_add i 2) ?_
                    refine va_iald hx hb hZ.1 hP 1 1 rfl rfl (vp_in_nI (by omega) (by omega)) d_Mo_flats_139 ?_
                    refine lv_tv (y := g_stack (i + 2)) (by rw [nI_clamp (by omega)]) ?_
                    refine lv_iconst (v := 0) hx hb d_Mo_flats_140 (by decide) ?_
                    refine lv_aload_n hx hb d_Mo_flats_141 rfl (lv_at hl 1 rfl) ?_
                    refine va_get (D := D) (ci := 8) (v := .ref m_stack) (C := R_Mo) (T := F_Mo) (N := 29) hx hb hts i_Mo hown hZ.1 hP 0 rfl rfl 23 (by decide) (hts _ fl_Mo_29) (fun _ h9 => h9) rfl d_Mo_flats_142 ?_
                    refine lv_iload_n hx hb d_Mo_flats_145 rfl (lv_at hl 4 rfl) ?_
                    refine lv_iconst (v := 3) hx hb d_Mo_flats_146 (by decide) ?_
                    refine lv_iadd hx hb d_Mo_flats_147 ?_
                    refine lv_tv (y := nI (i + 3)) (nI_add i 3) ?_
                    refine va_iald hx hb hZ.1 hP 1 1 rfl rfl (vp_in_nI (by omega) (by omega)) d_Mo_flats_148 ?_
                    refine lv_tv (y := g_stack (i + 3)) (by rw [nI_clamp (by omega)]) ?_
                    have hC : Cut [(mo, .inr (8, [.int z_fault, .int z_size, .ref m_row, .ref m_shelves, .ref m_many, .ref m_widths, .int (nI mL), .ref m_mark, .int z_shown, .ref m_shownMark, .int z_wasRun, .int wL, .int z_ended, .int (nI sp), .int z_hints, .int z_hasWidth, .int z_width, .int z_first, .int z_moved, .int z_deepest, .int xL, .int yL, .int (nI t), .ref m_stack, .ref m_places, .int (nI d), .ref m_kinds, .ref m_ats, .ref m_ends])), (m_stack, .inl (cI, 48, .inl g_stack)), (m_mark, .inl (cI, 28000, .inl gm))] [(mo, .inr (8, [.int z_fault, .int z_size, .ref m_row, .ref m_shelves, .ref m_many, .ref m_widths, .int (nI mL), .ref m_mark, .int z_shown, .ref m_shownMark, .int z_wasRun, .int wL, .int z_ended, .int (nI sp), .int z_hints, .int z_hasWidth, .int z_width, .int z_first, .int z_moved, .int z_deepest, .int xL, .int yL, .int (nI t), .ref m_stack, .ref m_places, .int (nI d), .ref m_kinds, .ref m_ats, .ref m_ends])), (m_mark, .inl (cI, 28000, .inl gm))] [(m_stack, .inl (cI, 48, .inl g_stack))] [0, 2] [1] := ⟨rfl, rfl, rfl, rfl, by decide⟩
                    refine goV0 (trV (As := [.int 0, .int (g_stack i), .int (g_stack (i + 1)), .int (g_stack (i + 2)), .int 0, .int (g_stack (i + 3))]) (rest := []) ⟨hx, hb, hml, hown, hts⟩ gd_good (c_Mo_curve l D cB cI cJ mo m_row m_shelves m_many m_widths m_mark m_shownMark m_stack m_places m_kinds m_ats m_ends mL sp t d z_fault z_size z_shown z_wasRun wL z_ended z_hints z_hasWidth z_width z_first z_moved z_deepest xL yL gm 0 (g_stack i) (g_stack (i + 1)) (g_stack (i + 2)) 0 (g_stack (i + 3)) (by omega) ) cal_Mo_curve ml_Mo_158 ⟨Nat.le_of_ble_eq_true rfl, Nat.le_of_ble_eq_true rfl⟩ hZ hP hD hC 0 (ci := 8) rfl rfl rfl rfl hl.1 rfl (Nat.le_of_ble_eq_true rfl) d_Mo_flats_149 ⟨Nat.le_of_ble_eq_true rfl, Nat.le_of_ble_eq_true rfl⟩) hZ hP hD hS hC (fun w1 H locs hq hP hD hS => ?_)
                    obtain ⟨z_x_18, z_y_18, z_wrong_18, mk_18, g_mark_18, rfl, hv_18⟩ := hq
                    have hP : va_P D classes [(m_stack, .inl (cI, 48, .inl g_stack)), (mo, .inr (8, [.int z_fault, .int z_size, .ref m_row, .ref m_shelves, .ref m_many, .ref m_widths, .int (nI mk_18), .ref m_mark, .int z_shown, .ref m_shownMark, .int z_wasRun, .int z_wrong_18, .int z_ended, .int (nI sp), .int z_hints, .int z_hasWidth, .int z_width, .int z_first, .int z_moved, .int z_deepest, .int z_x_18, .int z_y_18, .int (nI t), .ref m_stack, .ref m_places, .int (nI d), .ref m_kinds, .ref m_ats, .ref m_ends])), (m_mark, .inl (cI, 28000, .inl g_mark_18))] H := hP
                    have hD : va_D A_ [(m_stack, .inl (cI, 48, .inl g_stack)), (mo, .inr (8, [.int z_fault, .int z_size, .ref m_row, .ref m_shelves, .ref m_many, .ref m_widths, .int (nI mk_18), .ref m_mark, .int z_shown, .ref m_shownMark, .int z_wasRun, .int z_wrong_18, .int z_ended, .int (nI sp), .int z_hints, .int z_hasWidth, .int z_width, .int z_first, .int z_moved, .int z_deepest, .int z_x_18, .int z_y_18, .int (nI t), .ref m_stack, .ref m_places, .int (nI d), .ref m_kinds, .ref m_ats, .ref m_ends])), (m_mark, .inl (cI, 28000, .inl g_mark_18))] := hD
                    refine lv_iinc (v := nI (i + 4)) (lv' := [(3, .int (nI (i + 4))), (4, .int 0), (0, .ref mo), (1, .int c), (2, .int (nI (t % 4)))]) hx hb d_Mo_flats_152 hl (k := 4) rfl (nI_add i 4) (by decide) rfl (fun ls hl => ?_)
                    refine lv_goto (tgt := 39) hx hb d_Mo_flats_155 (by decide) ?_
                    exact ih_39  (i + 4) z_x_18 z_y_18 z_wrong_18 mk_18 g_mark_18 _ _ _ ⟨by omega, by omega, by omega⟩ (by omega) (hP.subm [1, 0, 2] rfl) (hD.sub [1, 0, 2] rfl rfl) hS (lv_sub hl [2, 3, 4, 0] rfl)
                  · refine lv_aload_n hx hb d_Mo_flats_75 rfl (lv_at hl 1 rfl) ?_
                    refine lv_aload_n hx hb d_Mo_flats_76 rfl (lv_at hl 1 rfl) ?_
                    refine va_get (D := D) (ci := 8) (v := .ref m_stack) (C := R_Mo) (T := F_Mo) (N := 29) hx hb hts i_Mo hown hZ.1 hP 0 rfl rfl 23 (by decide) (hts _ fl_Mo_29) (fun _ h9 => h9) rfl d_Mo_flats_77 ?_
                    refine lv_iload_n hx hb d_Mo_flats_80 rfl (lv_at hl 4 rfl) ?_
                    refine va_iald hx hb hZ.1 hP 1 1 rfl rfl (vp_in_nI (by omega) (by omega)) d_Mo_flats_81 ?_
                    refine lv_tv (y := g_stack i) (by rw [nI_clamp (by omega)]) ?_
                    refine lv_iload hx hb d_Mo_flats_82 (lv_at hl 0 rfl) ?_
                    refine lv_aload_n hx hb d_Mo_flats_84 rfl (lv_at hl 1 rfl) ?_
                    refine va_get (D := D) (ci := 8) (v := .ref m_stack) (C := R_Mo) (T := F_Mo) (N := 29) hx hb hts i_Mo hown hZ.1 hP 0 rfl rfl 23 (by decide) (hts _ fl_Mo_29) (fun _ h9 => h9) rfl d_Mo_flats_85 ?_
                    refine lv_iload_n hx hb d_Mo_flats_88 rfl (lv_at hl 4 rfl) ?_
                    refine lv_iconst (v := 1) hx hb d_Mo_flats_89 (by decide) ?_
                    refine lv_iadd hx hb d_Mo_flats_90 ?_
                    refine lv_tv (y := nI (i + 1)) (nI_add i 1) ?_
                    refine va_iald hx hb hZ.1 hP 1 1 rfl rfl (vp_in_nI (by omega) (by omega)) d_Mo_flats_91 ?_
                    refine lv_tv (y := g_stack (i + 1)) (by rw [nI_clamp (by omega)]) ?_
                    refine lv_aload_n hx hb d_Mo_flats_92 rfl (lv_at hl 1 rfl) ?_
                    refine va_get (D := D) (ci := 8) (v := .ref m_stack) (C := R_Mo) (T := F_Mo) (N := 29) hx hb hts i_Mo hown hZ.1 hP 0 rfl rfl 23 (by decide) (hts _ fl_Mo_29) (fun _ h9 => h9) rfl d_Mo_flats_93 ?_
                    refine lv_iload_n hx hb d_Mo_flats_96 rfl (lv_at hl 4 rfl) ?_
                    refine lv_iconst (v := 2) hx hb d_Mo_flats_97 (by decide) ?_
                    refine lv_iadd hx hb d_Mo_flats_98 ?_
                    refine lv_tv (y := nI (i + 2)) (nI_add i 2) ?_
                    refine va_iald hx hb hZ.1 hP 1 1 rfl rfl (vp_in_nI (by omega) (by omega)) d_Mo_flats_99 ?_
                    refine lv_tv (y := g_stack (i + 2)) (by rw [nI_clamp (by omega)]) ?_
                    refine lv_aload_n hx hb d_Mo_flats_100 rfl (lv_at hl 1 rfl) ?_
                    refine va_get (D := D) (ci := 8) (v := .ref m_stack) (C := R_Mo) (T := F_Mo) (N := 29) hx hb hts i_Mo hown hZ.1 hP 0 rfl rfl 23 (by decide) (hts _ fl_Mo_29) (fun _ h9 => h9) rfl d_Mo_flats_101 ?_
                    refine lv_iload_n hx hb d_Mo_flats_104 rfl (lv_at hl 4 rfl) ?_
                    refine lv_iconst (v := 3) hx hb d_Mo_flats_105 (by decide) ?_
                    refine lv_iadd hx hb d_Mo_flats_106 ?_
                    refine lv_tv (y := nI (i + 3)) (nI_add i 3) ?_
                    refine va_iald hx hb hZ.1 hP 1 1 rfl rfl (vp_in_nI (by omega) (by omega)) d_Mo_flats_107 ?_
                    refine lv_tv (y := g_stack (i + 3)) (by rw [nI_clamp (by omega)]) ?_
                    refine lv_iconst (v := 0) hx hb d_Mo_flats_108 (by decide) ?_
                    have hC : Cut [(mo, .inr (8, [.int z_fault, .int z_size, .ref m_row, .ref m_shelves, .ref m_many, .ref m_widths, .int (nI mL), .ref m_mark, .int z_shown, .ref m_shownMark, .int z_wasRun, .int wL, .int z_ended, .int (nI sp), .int z_hints, .int z_hasWidth, .int z_width, .int z_first, .int z_moved, .int z_deepest, .int xL, .int yL, .int (nI t), .ref m_stack, .ref m_places, .int (nI d), .ref m_kinds, .ref m_ats, .ref m_ends])), (m_stack, .inl (cI, 48, .inl g_stack)), (m_mark, .inl (cI, 28000, .inl gm))] [(mo, .inr (8, [.int z_fault, .int z_size, .ref m_row, .ref m_shelves, .ref m_many, .ref m_widths, .int (nI mL), .ref m_mark, .int z_shown, .ref m_shownMark, .int z_wasRun, .int wL, .int z_ended, .int (nI sp), .int z_hints, .int z_hasWidth, .int z_width, .int z_first, .int z_moved, .int z_deepest, .int xL, .int yL, .int (nI t), .ref m_stack, .ref m_places, .int (nI d), .ref m_kinds, .ref m_ats, .ref m_ends])), (m_mark, .inl (cI, 28000, .inl gm))] [(m_stack, .inl (cI, 48, .inl g_stack))] [0, 2] [1] := ⟨rfl, rfl, rfl, rfl, by decide⟩
                    refine goV0 (trV (As := [.int (g_stack i), .int 0, .int (g_stack (i + 1)), .int (g_stack (i + 2)), .int (g_stack (i + 3)), .int 0]) (rest := []) ⟨hx, hb, hml, hown, hts⟩ gd_good (c_Mo_curve l D cB cI cJ mo m_row m_shelves m_many m_widths m_mark m_shownMark m_stack m_places m_kinds m_ats m_ends mL sp t d z_fault z_size z_shown z_wasRun wL z_ended z_hints z_hasWidth z_width z_first z_moved z_deepest xL yL gm (g_stack i) 0 (g_stack (i + 1)) (g_stack (i + 2)) (g_stack (i + 3)) 0 (by omega) ) cal_Mo_curve ml_Mo_158 ⟨Nat.le_of_ble_eq_true rfl, Nat.le_of_ble_eq_true rfl⟩ hZ hP hD hC 0 (ci := 8) rfl rfl rfl rfl hl.1 rfl (Nat.le_of_ble_eq_true rfl) d_Mo_flats_109 ⟨Nat.le_of_ble_eq_true rfl, Nat.le_of_ble_eq_true rfl⟩) hZ hP hD hS hC (fun w1 H locs hq hP hD hS => ?_)
                    obtain ⟨z_x_19, z_y_19, z_wrong_19, mk_19, g_mark_19, rfl, hv_19⟩ := hq
                    have hP : va_P D classes [(m_stack, .inl (cI, 48, .inl g_stack)), (mo, .inr (8, [.int z_fault, .int z_size, .ref m_row, .ref m_shelves, .ref m_many, .ref m_widths, .int (nI mk_19), .ref m_mark, .int z_shown, .ref m_shownMark, .int z_wasRun, .int z_wrong_19, .int z_ended, .int (nI sp), .int z_hints, .int z_hasWidth, .int z_width, .int z_first, .int z_moved, .int z_deepest, .int z_x_19, .int z_y_19, .int (nI t), .ref m_stack, .ref m_places, .int (nI d), .ref m_kinds, .ref m_ats, .ref m_ends])), (m_mark, .inl (cI, 28000, .inl g_mark_19))] H := hP
                    have hD : va_D A_ [(m_stack, .inl (cI, 48, .inl g_stack)), (mo, .inr (8, [.int z_fault, .int z_size, .ref m_row, .ref m_shelves, .ref m_many, .ref m_widths, .int (nI mk_19), .ref m_mark, .int z_shown, .ref m_shownMark, .int z_wasRun, .int z_wrong_19, .int z_ended, .int (nI sp), .int z_hints, .int z_hasWidth, .int z_width, .int z_first, .int z_moved, .int z_deepest, .int z_x_19, .int z_y_19, .int (nI t), .ref m_stack, .ref m_places, .int (nI d), .ref m_kinds, .ref m_ats, .ref m_ends])), (m_mark, .inl (cI, 28000, .inl g_mark_19))] := hD
                    refine lv_goto (tgt := 152) hx hb d_Mo_flats_112 (by decide) ?_
                    refine lv_iinc (v := nI (i + 4)) (lv' := [(3, .int (nI (i + 4))), (4, .int 0), (0, .ref mo), (1, .int c), (2, .int (nI (t % 4)))]) hx hb d_Mo_flats_152 hl (k := 4) rfl (nI_add i 4) (by decide) rfl (fun ls hl => ?_)
                    refine lv_goto (tgt := 39) hx hb d_Mo_flats_155 (by decide) ?_
                    exact ih_39  (i + 4) z_x_19 z_y_19 z_wrong_19 mk_19 g_mark_19 _ _ _ ⟨by omega, by omega, by omega⟩ (by omega) (hP.subm [1, 0, 2] rfl) (hD.sub [1, 0, 2] rfl rfl) hS (lv_sub hl [2, 3, 4, 0] rfl)
                · have n_56 : (i) = (1) := (nI_eq (a := i) (b := 1) (by omega) (by omega)).mp c_56
                  refine lv_aload_n hx hb d_Mo_flats_59 rfl (lv_at hl 0 rfl) ?_
                  refine va_get (D := D) (ci := 8) (v := .ref m_stack) (C := R_Mo) (T := F_Mo) (N := 29) hx hb hts i_Mo hown hZ.1 hP 0 rfl rfl 23 (by decide) (hts _ fl_Mo_29) (fun _ h9 => h9) rfl d_Mo_flats_60 ?_
                  refine lv_iconst (v := 0) hx hb d_Mo_flats_63 (by decide) ?_
                  refine va_iald hx hb hZ.1 hP 1 1 rfl rfl (show vp_in (nI 0) 48 from vp_in_nI (by decide) (by decide)) d_Mo_flats_64 ?_
                  refine lv_tv (y := g_stack 0) rfl ?_
                  refine lv_goto (tgt := 69) hx hb d_Mo_flats_65 (by decide) ?_
                  refine lv_istore (lv' := [(4, .int (g_stack 0)), (0, .ref mo), (1, .int c), (2, .int (nI (t % 4))), (3, .int (nI i))]) hx hb d_Mo_flats_69 hl (by decide) rfl (fun ls hl => ?_)
                  refine lv_iload_n hx hb d_Mo_flats_71 rfl (lv_at hl 2 rfl) ?_
                  refine lv_if_eq (tgt := 115) hx hb d_Mo_flats_72 (by decide) (fun c_72 => ?_) (fun c_72 => ?_)
                  · refine lv_aload_n hx hb d_Mo_flats_115 rfl (lv_at hl 1 rfl) ?_
                    refine lv_iload hx hb d_Mo_flats_116 (lv_at hl 0 rfl) ?_
                    refine lv_aload_n hx hb d_Mo_flats_118 rfl (lv_at hl 1 rfl) ?_
                    refine va_get (D := D) (ci := 8) (v := .ref m_stack) (C := R_Mo) (T := F_Mo) (N := 29) hx hb hts i_Mo hown hZ.1 hP 0 rfl rfl 23 (by decide) (hts _ fl_Mo_29) (fun _ h9 => h9) rfl d_Mo_flats_119 ?_
                    refine lv_iload_n hx hb d_Mo_flats_122 rfl (lv_at hl 4 rfl) ?_
                    refine va_iald hx hb hZ.1 hP 1 1 rfl rfl (vp_in_nI (by omega) (by omega)) d_Mo_flats_123 ?_
                    refine lv_tv (y := g_stack i) (by rw [nI_clamp (by omega)]) ?_
                    refine lv_aload_n hx hb d_Mo_flats_124 rfl (lv_at hl 1 rfl) ?_
                    refine va_get (D := D) (ci := 8) (v := .ref m_stack) (C := R_Mo) (T := F_Mo) (N := 29) hx hb hts i_Mo hown hZ.1 hP 0 rfl rfl 23 (by decide) (hts _ fl_Mo_29) (fun _ h9 => h9) rfl d_Mo_flats_125 ?_
                    refine lv_iload_n hx hb d_Mo_flats_128 rfl (lv_at hl 4 rfl) ?_
                    refine lv_iconst (v := 1) hx hb d_Mo_flats_129 (by decide) ?_
                    refine lv_iadd hx hb d_Mo_flats_130 ?_
                    refine lv_tv (y := nI (i + 1)) (nI_add i 1) ?_
                    refine va_iald hx hb hZ.1 hP 1 1 rfl rfl (vp_in_nI (by omega) (by omega)) d_Mo_flats_131 ?_
                    refine lv_tv (y := g_stack (i + 1)) (by rw [nI_clamp (by omega)]) ?_
                    refine lv_aload_n hx hb d_Mo_flats_132 rfl (lv_at hl 1 rfl) ?_
                    refine va_get (D := D) (ci := 8) (v := .ref m_stack) (C := R_Mo) (T := F_Mo) (N := 29) hx hb hts i_Mo hown hZ.1 hP 0 rfl rfl 23 (by decide) (hts _ fl_Mo_29) (fun _ h9 => h9) rfl d_Mo_flats_133 ?_
                    refine lv_iload_n hx hb d_Mo_flats_136 rfl (lv_at hl 4 rfl) ?_
                    refine lv_iconst (v := 2) hx hb d_Mo_flats_137 (by decide) ?_
                    refine lv_iadd hx hb d_Mo_flats_138 ?_
                    refine lv_tv (y := nI (i + 2)) (nI_add i 2) ?_
                    refine va_iald hx hb hZ.1 hP 1 1 rfl rfl (vp_in_nI (by omega) (by omega)) d_Mo_flats_139 ?_
                    refine lv_tv (y := g_stack (i + 2)) (by rw [nI_clamp (by omega)]) ?_
                    refine lv_iconst (v := 0) hx hb d_Mo_flats_140 (by decide) ?_
                    refine lv_aload_n hx hb d_Mo_flats_141 rfl (lv_at hl 1 rfl) ?_
                    refine va_get (D := D) (ci := 8) (v := .ref m_stack) (C := R_Mo) (T := F_Mo) (N := 29) hx hb hts i_Mo hown hZ.1 hP 0 rfl rfl 23 (by decide) (hts _ fl_Mo_29) (fun _ h9 => h9) rfl d_Mo_flats_142 ?_
                    refine lv_iload_n hx hb d_Mo_flats_145 rfl (lv_at hl 4 rfl) ?_
                    refine lv_iconst (v := 3) hx hb d_Mo_flats_146 (by decide) ?_
                    refine lv_iadd hx hb d_Mo_flats_147 ?_
                    refine lv_tv (y := nI (i + 3)) (nI_add i 3) ?_
                    refine va_iald hx hb hZ.1 hP 1 1 rfl rfl (vp_in_nI (by omega) (by omega)) d_Mo_flats_148 ?_
                    refine lv_tv (y := g_stack (i + 3)) (by rw [nI_clamp (by omega)]) ?_
                    have hC : Cut [(mo, .inr (8, [.int z_fault, .int z_size, .ref m_row, .ref m_shelves, .ref m_many, .ref m_widths, .int (nI mL), .ref m_mark, .int z_shown, .ref m_shownMark, .int z_wasRun, .int wL, .int z_ended, .int (nI sp), .int z_hints, .int z_hasWidth, .int z_width, .int z_first, .int z_moved, .int z_deepest, .int xL, .int yL, .int (nI t), .ref m_stack, .ref m_places, .int (nI d), .ref m_kinds, .ref m_ats, .ref m_ends])), (m_stack, .inl (cI, 48, .inl g_stack)), (m_mark, .inl (cI, 28000, .inl gm))] [(mo, .inr (8, [.int z_fault, .int z_size, .ref m_row, .ref m_shelves, .ref m_many, .ref m_widths, .int (nI mL), .ref m_mark, .int z_shown, .ref m_shownMark, .int z_wasRun, .int wL, .int z_ended, .int (nI sp), .int z_hints, .int z_hasWidth, .int z_width, .int z_first, .int z_moved, .int z_deepest, .int xL, .int yL, .int (nI t), .ref m_stack, .ref m_places, .int (nI d), .ref m_kinds, .ref m_ats, .ref m_ends])), (m_mark, .inl (cI, 28000, .inl gm))] [(m_stack, .inl (cI, 48, .inl g_stack))] [0, 2] [1] := ⟨rfl, rfl, rfl, rfl, by decide⟩
                    refine goV0 (trV (As := [.int (g_stack 0), .int (g_stack i), .int (g_stack (i + 1)), .int (g_stack (i + 2)), .int 0, .int (g_stack (i + 3))]) (rest := []) ⟨hx, hb, hml, hown, hts⟩ gd_good (c_Mo_curve l D cB cI cJ mo m_row m_shelves m_many m_widths m_mark m_shownMark m_stack m_places m_kinds m_ats m_ends mL sp t d z_fault z_size z_shown z_wasRun wL z_ended z_hints z_hasWidth z_width z_first z_moved z_deepest xL yL gm (g_stack 0) (g_stack i) (g_stack (i + 1)) (g_stack (i + 2)) 0 (g_stack (i + 3)) (by omega) ) cal_Mo_curve ml_Mo_158 ⟨Nat.le_of_ble_eq_true rfl, Nat.le_of_ble_eq_true rfl⟩ hZ hP hD hC 0 (ci := 8) rfl rfl rfl rfl hl.1 rfl (Nat.le_of_ble_eq_true rfl) d_Mo_flats_149 ⟨Nat.le_of_ble_eq_true rfl, Nat.le_of_ble_eq_true rfl⟩) hZ hP hD hS hC (fun w1 H locs hq hP hD hS => ?_)
                    obtain ⟨z_x_20, z_y_20, z_wrong_20, mk_20, g_mark_20, rfl, hv_20⟩ := hq
                    have hP : va_P D classes [(m_stack, .inl (cI, 48, .inl g_stack)), (mo, .inr (8, [.int z_fault, .int z_size, .ref m_row, .ref m_shelves, .ref m_many, .ref m_widths, .int (nI mk_20), .ref m_mark, .int z_shown, .ref m_shownMark, .int z_wasRun, .int z_wrong_20, .int z_ended, .int (nI sp), .int z_hints, .int z_hasWidth, .int z_width, .int z_first, .int z_moved, .int z_deepest, .int z_x_20, .int z_y_20, .int (nI t), .ref m_stack, .ref m_places, .int (nI d), .ref m_kinds, .ref m_ats, .ref m_ends])), (m_mark, .inl (cI, 28000, .inl g_mark_20))] H := hP
                    have hD : va_D A_ [(m_stack, .inl (cI, 48, .inl g_stack)), (mo, .inr (8, [.int z_fault, .int z_size, .ref m_row, .ref m_shelves, .ref m_many, .ref m_widths, .int (nI mk_20), .ref m_mark, .int z_shown, .ref m_shownMark, .int z_wasRun, .int z_wrong_20, .int z_ended, .int (nI sp), .int z_hints, .int z_hasWidth, .int z_width, .int z_first, .int z_moved, .int z_deepest, .int z_x_20, .int z_y_20, .int (nI t), .ref m_stack, .ref m_places, .int (nI d), .ref m_kinds, .ref m_ats, .ref m_ends])), (m_mark, .inl (cI, 28000, .inl g_mark_20))] := hD
                    refine lv_iinc (v := nI (i + 4)) (lv' := [(3, .int (nI (i + 4))), (4, .int (g_stack 0)), (0, .ref mo), (1, .int c), (2, .int (nI (t % 4)))]) hx hb d_Mo_flats_152 hl (k := 4) rfl (nI_add i 4) (by decide) rfl (fun ls hl => ?_)
                    refine lv_goto (tgt := 39) hx hb d_Mo_flats_155 (by decide) ?_
                    exact ih_39  (i + 4) z_x_20 z_y_20 z_wrong_20 mk_20 g_mark_20 _ _ _ ⟨by omega, by omega, by omega⟩ (by omega) (hP.subm [1, 0, 2] rfl) (hD.sub [1, 0, 2] rfl rfl) hS (lv_sub hl [2, 3, 4, 0] rfl)
                  · refine lv_aload_n hx hb d_Mo_flats_75 rfl (lv_at hl 1 rfl) ?_
                    refine lv_aload_n hx hb d_Mo_flats_76 rfl (lv_at hl 1 rfl) ?_
                    refine va_get (D := D) (ci := 8) (v := .ref m_stack) (C := R_Mo) (T := F_Mo) (N := 29) hx hb hts i_Mo hown hZ.1 hP 0 rfl rfl 23 (by decide) (hts _ fl_Mo_29) (fun _ h9 => h9) rfl d_Mo_flats_77 ?_
                    refine lv_iload_n hx hb d_Mo_flats_80 rfl (lv_at hl 4 rfl) ?_
                    refine va_iald hx hb hZ.1 hP 1 1 rfl rfl (vp_in_nI (by omega) (by omega)) d_Mo_flats_81 ?_
                    refine lv_tv (y := g_stack i) (by rw [nI_clamp (by omega)]) ?_
                    refine lv_iload hx hb d_Mo_flats_82 (lv_at hl 0 rfl) ?_
                    refine lv_aload_n hx hb d_Mo_flats_84 rfl (lv_at hl 1 rfl) ?_
                    refine va_get (D := D) (ci := 8) (v := .ref m_stack) (C := R_Mo) (T := F_Mo) (N := 29) hx hb hts i_Mo hown hZ.1 hP 0 rfl rfl 23 (by decide) (hts _ fl_Mo_29) (fun _ h9 => h9) rfl d_Mo_flats_85 ?_
                    refine lv_iload_n hx hb d_Mo_flats_88 rfl (lv_at hl 4 rfl) ?_
                    refine lv_iconst (v := 1) hx hb d_Mo_flats_89 (by decide) ?_
                    refine lv_iadd hx hb d_Mo_flats_90 ?_
                    refine lv_tv (y := nI (i + 1)) (nI_add i 1) ?_
                    refine va_iald hx hb hZ.1 hP 1 1 rfl rfl (vp_in_nI (by omega) (by omega)) d_Mo_flats_91 ?_
                    refine lv_tv (y := g_stack (i + 1)) (by rw [nI_clamp (by omega)]) ?_
                    refine lv_aload_n hx hb d_Mo_flats_92 rfl (lv_at hl 1 rfl) ?_
                    refine va_get (D := D) (ci := 8) (v := .ref m_stack) (C := R_Mo) (T := F_Mo) (N := 29) hx hb hts i_Mo hown hZ.1 hP 0 rfl rfl 23 (by decide) (hts _ fl_Mo_29) (fun _ h9 => h9) rfl d_Mo_flats_93 ?_
                    refine lv_iload_n hx hb d_Mo_flats_96 rfl (lv_at hl 4 rfl) ?_
                    refine lv_iconst (v := 2) hx hb d_Mo_flats_97 (by decide) ?_
                    refine lv_iadd hx hb d_Mo_flats_98 ?_
                    refine lv_tv (y := nI (i + 2)) (nI_add i 2) ?_
                    refine va_iald hx hb hZ.1 hP 1 1 rfl rfl (vp_in_nI (by omega) (by omega)) d_Mo_flats_99 ?_
                    refine lv_tv (y := g_stack (i + 2)) (by rw [nI_clamp (by omega)]) ?_
                    refine lv_aload_n hx hb d_Mo_flats_100 rfl (lv_at hl 1 rfl) ?_
                    refine va_get (D := D) (ci := 8) (v := .ref m_stack) (C := R_Mo) (T := F_Mo) (N := 29) hx hb hts i_Mo hown hZ.1 hP 0 rfl rfl 23 (by decide) (hts _ fl_Mo_29) (fun _ h9 => h9) rfl d_Mo_flats_101 ?_
                    refine lv_iload_n hx hb d_Mo_flats_104 rfl (lv_at hl 4 rfl) ?_
                    refine lv_iconst (v := 3) hx hb d_Mo_flats_105 (by decide) ?_
                    refine lv_iadd hx hb d_Mo_flats_106 ?_
                    refine lv_tv (y := nI (i + 3)) (nI_add i 3) ?_
                    refine va_iald hx hb hZ.1 hP 1 1 rfl rfl (vp_in_nI (by omega) (by omega)) d_Mo_flats_107 ?_
                    refine lv_tv (y := g_stack (i + 3)) (by rw [nI_clamp (by omega)]) ?_
                    refine lv_iconst (v := 0) hx hb d_Mo_flats_108 (by decide) ?_
                    have hC : Cut [(mo, .inr (8, [.int z_fault, .int z_size, .ref m_row, .ref m_shelves, .ref m_many, .ref m_widths, .int (nI mL), .ref m_mark, .int z_shown, .ref m_shownMark, .int z_wasRun, .int wL, .int z_ended, .int (nI sp), .int z_hints, .int z_hasWidth, .int z_width, .int z_first, .int z_moved, .int z_deepest, .int xL, .int yL, .int (nI t), .ref m_stack, .ref m_places, .int (nI d), .ref m_kinds, .ref m_ats, .ref m_ends])), (m_stack, .inl (cI, 48, .inl g_stack)), (m_mark, .inl (cI, 28000, .inl gm))] [(mo, .inr (8, [.int z_fault, .int z_size, .ref m_row, .ref m_shelves, .ref m_many, .ref m_widths, .int (nI mL), .ref m_mark, .int z_shown, .ref m_shownMark, .int z_wasRun, .int wL, .int z_ended, .int (nI sp), .int z_hints, .int z_hasWidth, .int z_width, .int z_first, .int z_moved, .int z_deepest, .int xL, .int yL, .int (nI t), .ref m_stack, .ref m_places, .int (nI d), .ref m_kinds, .ref m_ats, .ref m_ends])), (m_mark, .inl (cI, 28000, .inl gm))] [(m_stack, .inl (cI, 48, .inl g_stack))] [0, 2] [1] := ⟨rfl, rfl, rfl, rfl, by decide⟩
                    refine goV0 (trV (As := [.int (g_stack i), .int (g_stack 0), .int (g_stack (i + 1)), .int (g_stack (i + 2)), .int (g_stack (i + 3)), .int 0]) (rest := []) ⟨hx, hb, hml, hown, hts⟩ gd_good (c_Mo_curve l D cB cI cJ mo m_row m_shelves m_many m_widths m_mark m_shownMark m_stack m_places m_kinds m_ats m_ends mL sp t d z_fault z_size z_shown z_wasRun wL z_ended z_hints z_hasWidth z_width z_first z_moved z_deepest xL yL gm (g_stack i) (g_stack 0) (g_stack (i + 1)) (g_stack (i + 2)) (g_stack (i + 3)) 0 (by omega) ) cal_Mo_curve ml_Mo_158 ⟨Nat.le_of_ble_eq_true rfl, Nat.le_of_ble_eq_true rfl⟩ hZ hP hD hC 0 (ci := 8) rfl rfl rfl rfl hl.1 rfl (Nat.le_of_ble_eq_true rfl) d_Mo_flats_109 ⟨Nat.le_of_ble_eq_true rfl, Nat.le_of_ble_eq_true rfl⟩) hZ hP hD hS hC (fun w1 H locs hq hP hD hS => ?_)
                    obtain ⟨z_x_21, z_y_21, z_wrong_21, mk_21, g_mark_21, rfl, hv_21⟩ := hq
                    have hP : va_P D classes [(m_stack, .inl (cI, 48, .inl g_stack)), (mo, .inr (8, [.int z_fault, .int z_size, .ref m_row, .ref m_shelves, .ref m_many, .ref m_widths, .int (nI mk_21), .ref m_mark, .int z_shown, .ref m_shownMark, .int z_wasRun, .int z_wrong_21, .int z_ended, .int (nI sp), .int z_hints, .int z_hasWidth, .int z_width, .int z_first, .int z_moved, .int z_deepest, .int z_x_21, .int z_y_21, .int (nI t), .ref m_stack, .ref m_places, .int (nI d), .ref m_kinds, .ref m_ats, .ref m_ends])), (m_mark, .inl (cI, 28000, .inl g_mark_21))] H := hP
                    have hD : va_D A_ [(m_stack, .inl (cI, 48, .inl g_stack)), (mo, .inr (8, [.int z_fault, .int z_size, .ref m_row, .ref m_shelves, .ref m_many, .ref m_widths, .int (nI mk_21), .ref m_mark, .int z_shown, .ref m_shownMark, .int z_wasRun, .int z_wrong_21, .int z_ended, .int (nI sp), .int z_hints, .int z_hasWidth, .int z_width, .int z_first, .int z_moved, .int z_deepest, .int z_x_21, .int z_y_21, .int (nI t), .ref m_stack, .ref m_places, .int (nI d), .ref m_kinds, .ref m_ats, .ref m_ends])), (m_mark, .inl (cI, 28000, .inl g_mark_21))] := hD
                    refine lv_goto (tgt := 152) hx hb d_Mo_flats_112 (by decide) ?_
                    refine lv_iinc (v := nI (i + 4)) (lv' := [(3, .int (nI (i + 4))), (4, .int (g_stack 0)), (0, .ref mo), (1, .int c), (2, .int (nI (t % 4)))]) hx hb d_Mo_flats_152 hl (k := 4) rfl (nI_add i 4) (by decide) rfl (fun ls hl => ?_)
                    refine lv_goto (tgt := 39) hx hb d_Mo_flats_155 (by decide) ?_
                    exact ih_39  (i + 4) z_x_21 z_y_21 z_wrong_21 mk_21 g_mark_21 _ _ _ ⟨by omega, by omega, by omega⟩ (by omega) (hP.subm [1, 0, 2] rfl) (hD.sub [1, 0, 2] rfl rfl) hS (lv_sub hl [2, 3, 4, 0] rfl)
        exact lp_39 _ (t % 4) z_x z_y z_wrong_15 mk g_mark _ _ _ ⟨by omega, by omega, by omega⟩ (Nat.lt_succ_self _) (hP.subm [2, 0, 1] rfl) (hD.sub [2, 0, 1] rfl rfl) hS (lv_sub hl [2, 3, 1, 0] rfl)
set_option maxHeartbeats 1000000 in
set_option maxRecDepth 100000 in
theorem c_Mo_waves (l : Launch) (D : va_G) (cB cI cJ : ClassId) (mo m_row m_shelves m_many m_widths m_mark m_shownMark m_stack m_places m_kinds m_ats m_ends : Nat) (mk sp t d : Nat) (z_fault z_size z_shown z_wasRun z_wrong z_ended z_hints z_hasWidth z_width z_first z_moved z_deepest z_x z_y : Int32) (g_stack g_mark : Nat → Int32) (c : Int32) (hiv : t ≤ 48 ∧ d ≤ 10 ∧ mk ≤ 4000 ∧ sp ≤ 20000) : Tr l D classes (TY cB cI cJ) gd_tbl nx_tbl y_Mo_waves b_Mo_waves 6 none ({ frames := 3, cells := 0, slots := 0, locals := 77 }) [.ref mo, .int c] [(mo, .inr (8, [.int z_fault, .int z_size, .ref m_row, .ref m_shelves, .ref m_many, .ref m_widths, .int (nI mk), .ref m_mark, .int z_shown, .ref m_shownMark, .int z_wasRun, .int z_wrong, .int z_ended, .int (nI sp), .int z_hints, .int z_hasWidth, .int z_width, .int z_first, .int z_moved, .int z_deepest, .int z_x, .int z_y, .int (nI t), .ref m_stack, .ref m_places, .int (nI d), .ref m_kinds, .ref m_ats, .ref m_ends])), (m_stack, .inl (cI, 48, .inl g_stack)), (m_mark, .inl (cI, 28000, .inl g_mark))] (pV0 (fun w => ∃ (z_x' : Int32) (z_y' : Int32) (z_wrong' : Int32) (mk' : Nat) (t' : Nat) (g_mark' : Nat → Int32), w = [(mo, .inr (8, [.int z_fault, .int z_size, .ref m_row, .ref m_shelves, .ref m_many, .ref m_widths, .int (nI mk'), .ref m_mark, .int z_shown, .ref m_shownMark, .int z_wasRun, .int z_wrong', .int z_ended, .int (nI sp), .int z_hints, .int z_hasWidth, .int z_width, .int z_first, .int z_moved, .int z_deepest, .int z_x', .int z_y', .int (nI t'), .ref m_stack, .ref m_places, .int (nI d), .ref m_kinds, .ref m_ats, .ref m_ends])), (m_stack, .inl (cI, 48, .inl g_stack)), (m_mark, .inl (cI, 28000, .inl g_mark'))] ∧ (t' ≤ 48 ∧ d ≤ 10 ∧ mk' ≤ 4000 ∧ sp ≤ 20000))) := by
  refine Tr.intro (by decide +kernel) nx_ok (Nat.le_of_ble_eq_true rfl) ?_
  intro p_ e_ s_ m_ args_ below_ meth_ c_ A_ ls hx hb hml hown hts hr hlk hnm hZ hP hD hS hl
  have hl : lv_has ls 6 [(0, .ref mo), (1, .int c)] := hl
  refine lv_aload_n hx hb d_Mo_waves_0 rfl (lv_at hl 0 rfl) ?_
  refine lv_aload_n hx hb d_Mo_waves_1 rfl (lv_at hl 0 rfl) ?_
  refine va_get (D := D) (ci := 8) (v := .int (nI t)) (C := R_Mo) (T := F_Mo) (N := 29) hx hb hts i_Mo hown hZ.1 hP 0 rfl rfl 22 (by decide) (hts _ fl_Mo_82) (fun _ h9 => h9) rfl d_Mo_waves_2 ?_
  refine lv_iconst (v := 4) hx hb d_Mo_waves_5 (by decide) ?_
  refine lv_icmp_lt (tgt := 23) hx hb d_Mo_waves_6 (by decide) (fun c_6 => ?_) (fun c_6 => ?_)
  · have n_6 : (t) < (4) := (nI_ltI (a := t) (b := 4) (by omega) (by omega)).mp c_6
    refine lv_iconst (v := 0) hx hb d_Mo_waves_23 (by decide) ?_
    have hC : Cut [(mo, .inr (8, [.int z_fault, .int z_size, .ref m_row, .ref m_shelves, .ref m_many, .ref m_widths, .int (nI mk), .ref m_mark, .int z_shown, .ref m_shownMark, .int z_wasRun, .int z_wrong, .int z_ended, .int (nI sp), .int z_hints, .int z_hasWidth, .int z_width, .int z_first, .int z_moved, .int z_deepest, .int z_x, .int z_y, .int (nI t), .ref m_stack, .ref m_places, .int (nI d), .ref m_kinds, .ref m_ats, .ref m_ends])), (m_stack, .inl (cI, 48, .inl g_stack)), (m_mark, .inl (cI, 28000, .inl g_mark))] [(mo, .inr (8, [.int z_fault, .int z_size, .ref m_row, .ref m_shelves, .ref m_many, .ref m_widths, .int (nI mk), .ref m_mark, .int z_shown, .ref m_shownMark, .int z_wasRun, .int z_wrong, .int z_ended, .int (nI sp), .int z_hints, .int z_hasWidth, .int z_width, .int z_first, .int z_moved, .int z_deepest, .int z_x, .int z_y, .int (nI t), .ref m_stack, .ref m_places, .int (nI d), .ref m_kinds, .ref m_ats, .ref m_ends]))] [(m_stack, .inl (cI, 48, .inl g_stack)), (m_mark, .inl (cI, 28000, .inl g_mark))] [0] [1, 2] := ⟨rfl, rfl, rfl, rfl, by decide⟩
    refine goI0 (trV (As := [.int 0]) (rest := []) ⟨hx, hb, hml, hown, hts⟩ gd_good (c_Mo_may l D cB cI cJ mo m_row m_shelves m_many m_widths m_mark m_shownMark m_stack m_places m_kinds m_ats m_ends mk sp t d z_fault z_size z_shown z_wasRun z_wrong z_ended z_hints z_hasWidth z_width z_first z_moved z_deepest z_x z_y 0 (by omega) ) cal_Mo_may ml_Mo_162 ⟨Nat.le_of_ble_eq_true rfl, Nat.le_of_ble_eq_true rfl⟩ hZ hP hD hC 0 (ci := 8) rfl rfl rfl rfl hl.1 rfl (Nat.le_of_ble_eq_true rfl) d_Mo_waves_24 ⟨Nat.le_of_ble_eq_true rfl, Nat.le_of_ble_eq_true rfl⟩) hZ hP hD hS hC (fun r_24 w1 H locs hq hP hD hS => ?_)
    obtain ⟨z_wrong_1, rfl, hv_1, hx_1, hz_1⟩ := hq
    have hP : va_P D classes [(m_stack, .inl (cI, 48, .inl g_stack)), (m_mark, .inl (cI, 28000, .inl g_mark)), (mo, .inr (8, [.int z_fault, .int z_size, .ref m_row, .ref m_shelves, .ref m_many, .ref m_widths, .int (nI mk), .ref m_mark, .int z_shown, .ref m_shownMark, .int z_wasRun, .int z_wrong_1, .int z_ended, .int (nI sp), .int z_hints, .int z_hasWidth, .int z_width, .int z_first, .int z_moved, .int z_deepest, .int z_x, .int z_y, .int (nI t), .ref m_stack, .ref m_places, .int (nI d), .ref m_kinds, .ref m_ats, .ref m_ends]))] H := hP
    have hD : va_D A_ [(m_stack, .inl (cI, 48, .inl g_stack)), (m_mark, .inl (cI, 28000, .inl g_mark)), (mo, .inr (8, [.int z_fault, .int z_size, .ref m_row, .ref m_shelves, .ref m_many, .ref m_widths, .int (nI mk), .ref m_mark, .int z_shown, .ref m_shownMark, .int z_wasRun, .int z_wrong_1, .int z_ended, .int (nI sp), .int z_hints, .int z_hasWidth, .int z_width, .int z_first, .int z_moved, .int z_deepest, .int z_x, .int z_y, .int (nI t), .ref m_stack, .ref m_places, .int (nI d), .ref m_kinds, .ref m_ats, .ref m_ends]))] := hD
    refine lv_if_eq (tgt := 198) hx hb d_Mo_waves_27 (by decide) (fun c_27 => ?_) (fun c_27 => ?_)
    · exact t_vret hx hb hr hlk d_Mo_waves_198 (hP.subm (ws' := [(mo, .inr (8, [.int z_fault, .int z_size, .ref m_row, .ref m_shelves, .ref m_many, .ref m_widths, .int (nI mk), .ref m_mark, .int z_shown, .ref m_shownMark, .int z_wasRun, .int z_wrong_1, .int z_ended, .int (nI sp), .int z_hints, .int z_hasWidth, .int z_width, .int z_first, .int z_moved, .int z_deepest, .int z_x, .int z_y, .int (nI t), .ref m_stack, .ref m_places, .int (nI d), .ref m_kinds, .ref m_ats, .ref m_ends])), (m_stack, .inl (cI, 48, .inl g_stack)), (m_mark, .inl (cI, 28000, .inl g_mark))]) [2, 0, 1] rfl) (hD.sub (ws' := [(mo, .inr (8, [.int z_fault, .int z_size, .ref m_row, .ref m_shelves, .ref m_many, .ref m_widths, .int (nI mk), .ref m_mark, .int z_shown, .ref m_shownMark, .int z_wasRun, .int z_wrong_1, .int z_ended, .int (nI sp), .int z_hints, .int z_hasWidth, .int z_width, .int z_first, .int z_moved, .int z_deepest, .int z_x, .int z_y, .int (nI t), .ref m_stack, .ref m_places, .int (nI d), .ref m_kinds, .ref m_ats, .ref m_ends])), (m_stack, .inl (cI, 48, .inl g_stack)), (m_mark, .inl (cI, 28000, .inl g_mark))]) [2, 0, 1] rfl rfl) hS ⟨rfl, rfl, rfl, _, _, _, mk, t, _, rfl, (by omega)⟩
    · refine lv_aload_n hx hb d_Mo_waves_30 rfl (lv_at hl 0 rfl) ?_
      refine va_get (D := D) (ci := 8) (v := .int (nI t)) (C := R_Mo) (T := F_Mo) (N := 29) hx hb hts i_Mo hown hZ.1 hP 2 rfl rfl 22 (by decide) (hts _ fl_Mo_82) (fun _ h9 => h9) rfl d_Mo_waves_31 ?_
      refine lv_aload_n hx hb d_Mo_waves_34 rfl (lv_at hl 0 rfl) ?_
      refine va_get (D := D) (ci := 8) (v := .int (nI t)) (C := R_Mo) (T := F_Mo) (N := 29) hx hb hts i_Mo hown hZ.1 hP 2 rfl rfl 22 (by decide) (hts _ fl_Mo_82) (fun _ h9 => h9) rfl d_Mo_waves_35 ?_
      refine lv_iconst (v := 4) hx hb d_Mo_waves_38 (by decide) ?_
      refine lv_irem hx hb d_Mo_waves_39 (by decide) ?_
      refine lv_tv (y := nI (t % 4)) (pk_rem (a := t) (d := 4) (by omega) (by omega) (by omega)) ?_
      refine lv_isub hx hb d_Mo_waves_40 ?_
      refine lv_tv (y := nI (t - (t % 4))) (pk_sub (a := t) (b := t % 4) (by omega)) ?_
      refine lv_istore_n (lv' := [(2, .int (nI (t - (t % 4)))), (0, .ref mo), (1, .int c)]) hx hb d_Mo_waves_41 rfl hl (by decide) rfl (fun ls hl => ?_)
      refine lv_iconst (v := 0) hx hb d_Mo_waves_42 (by decide) ?_
      refine lv_istore_n (lv' := [(3, .int 0), (2, .int (nI (t - (t % 4)))), (0, .ref mo), (1, .int c)]) hx hb d_Mo_waves_43 rfl hl (by decide) rfl (fun ls hl => ?_)
      have lp_44 : ∀ (fu : Nat) (i : Nat) (xL : Int32) (yL : Int32) (wL : Int32) (mL : Nat) (gm : Nat → Int32) (H : Heap) (locs : List Loc) (ls : Array Slot), (mL ≤ 4000 ∧ i ≤ 60 ∧ i % 4 = 0) → (70 - i) < fu → va_P D classes [(mo, .inr (8, [.int z_fault, .int z_size, .ref m_row, .ref m_shelves, .ref m_many, .ref m_widths, .int (nI mL), .ref m_mark, .int z_shown, .ref m_shownMark, .int z_wasRun, .int wL, .int z_ended, .int (nI sp), .int z_hints, .int z_hasWidth, .int z_width, .int z_first, .int z_moved, .int z_deepest, .int xL, .int yL, .int (nI t), .ref m_stack, .ref m_places, .int (nI d), .ref m_kinds, .ref m_ats, .ref m_ends])), (m_stack, .inl (cI, 48, .inl g_stack)), (m_mark, .inl (cI, 28000, .inl gm))] H → va_D A_ [(mo, .inr (8, [.int z_fault, .int z_size, .ref m_row, .ref m_shelves, .ref m_many, .ref m_widths, .int (nI mL), .ref m_mark, .int z_shown, .ref m_shownMark, .int z_wasRun, .int wL, .int z_ended, .int (nI sp), .int z_hints, .int z_hasWidth, .int z_width, .int z_first, .int z_moved, .int z_deepest, .int xL, .int yL, .int (nI t), .ref m_stack, .ref m_places, .int (nI d), .ref m_kinds, .ref m_ats, .ref m_ends])), (m_stack, .inl (cI, 48, .inl g_stack)), (m_mark, .inl (cI, 28000, .inl gm))] → va_S A_ s_.heap H locs → lv_has ls 6 [(0, .ref mo), (1, .int c), (2, .int (nI (t - t % 4))), (3, .int (nI i))] → W p_ l e_ ({ frames := 3, cells := 0, slots := 0, locals := 77 }) s_ m_ args_ below_ meth_ c_ H locs (0) (0) (MQT below_ D classes A_ (pV0 (fun w => ∃ (z_x' : Int32) (z_y' : Int32) (z_wrong' : Int32) (mk' : Nat) (t' : Nat) (g_mark' : Nat → Int32), w = [(mo, .inr (8, [.int z_fault, .int z_size, .ref m_row, .ref m_shelves, .ref m_many, .ref m_widths, .int (nI mk'), .ref m_mark, .int z_shown, .ref m_shownMark, .int z_wasRun, .int z_wrong', .int z_ended, .int (nI sp), .int z_hints, .int z_hasWidth, .int z_width, .int z_first, .int z_moved, .int z_deepest, .int z_x', .int z_y', .int (nI t'), .ref m_stack, .ref m_places, .int (nI d), .ref m_kinds, .ref m_ats, .ref m_ends])), (m_stack, .inl (cI, 48, .inl g_stack)), (m_mark, .inl (cI, 28000, .inl g_mark'))] ∧ (t' ≤ 48 ∧ d ≤ 10 ∧ mk' ≤ 4000 ∧ sp ≤ 20000))) s_) (F0 m_ 44 ls []) := by
        intro fu
        induction fu with
        | zero => intro i xL yL wL mL gm H locs ls hinv hfu; exact absurd hfu (Nat.not_lt_zero _)
        | succ fu ih_44 =>
          intro i xL yL wL mL gm H locs ls hinv hfu hP hD hS hl
          obtain ⟨hmL, hi1, hi2⟩ := hinv
          refine lv_iload_n hx hb d_Mo_waves_44 rfl (lv_at hl 3 rfl) ?_
          refine lv_iload_n hx hb d_Mo_waves_45 rfl (lv_at hl 2 rfl) ?_
          refine lv_icmp_ge (tgt := 194) hx hb d_Mo_waves_46 (by decide) (fun c_46 => ?_) (fun c_46 => ?_)
          · have n_46 : (t - t % 4) ≤ (i) := (nI_leI (a := t - t % 4) (b := i) (by omega) (by omega)).mp c_46
            refine lv_aload_n hx hb d_Mo_waves_194 rfl (lv_at hl 0 rfl) ?_
            have hC : Cut [(mo, .inr (8, [.int z_fault, .int z_size, .ref m_row, .ref m_shelves, .ref m_many, .ref m_widths, .int (nI mL), .ref m_mark, .int z_shown, .ref m_shownMark, .int z_wasRun, .int wL, .int z_ended, .int (nI sp), .int z_hints, .int z_hasWidth, .int z_width, .int z_first, .int z_moved, .int z_deepest, .int xL, .int yL, .int (nI t), .ref m_stack, .ref m_places, .int (nI d), .ref m_kinds, .ref m_ats, .ref m_ends])), (m_stack, .inl (cI, 48, .inl g_stack)), (m_mark, .inl (cI, 28000, .inl gm))] [(mo, .inr (8, [.int z_fault, .int z_size, .ref m_row, .ref m_shelves, .ref m_many, .ref m_widths, .int (nI mL), .ref m_mark, .int z_shown, .ref m_shownMark, .int z_wasRun, .int wL, .int z_ended, .int (nI sp), .int z_hints, .int z_hasWidth, .int z_width, .int z_first, .int z_moved, .int z_deepest, .int xL, .int yL, .int (nI t), .ref m_stack, .ref m_places, .int (nI d), .ref m_kinds, .ref m_ats, .ref m_ends]))] [(m_stack, .inl (cI, 48, .inl g_stack)), (m_mark, .inl (cI, 28000, .inl gm))] [0] [1, 2] := ⟨rfl, rfl, rfl, rfl, by decide⟩
            refine goV0 (trV (As := []) (rest := []) ⟨hx, hb, hml, hown, hts⟩ gd_good (c_Mo_take_V l D cB cI cJ mo m_row m_shelves m_many m_widths m_mark m_shownMark m_stack m_places m_kinds m_ats m_ends mL sp t d z_fault z_size z_shown z_wasRun wL z_ended z_hints z_hasWidth z_width z_first z_moved z_deepest xL yL (by omega) ) cal_Mo_take_V ml_Mo_155 ⟨Nat.le_of_ble_eq_true rfl, Nat.le_of_ble_eq_true rfl⟩ hZ hP hD hC 0 (ci := 8) rfl rfl rfl rfl hl.1 rfl (Nat.le_of_ble_eq_true rfl) d_Mo_waves_195 ⟨Nat.le_of_ble_eq_true rfl, Nat.le_of_ble_eq_true rfl⟩) hZ hP hD hS hC (fun w1 H locs hq hP hD hS => ?_)
            obtain ⟨t_2, rfl, hv_2⟩ := hq
            have hP : va_P D classes [(m_stack, .inl (cI, 48, .inl g_stack)), (m_mark, .inl (cI, 28000, .inl gm)), (mo, .inr (8, [.int z_fault, .int z_size, .ref m_row, .ref m_shelves, .ref m_many, .ref m_widths, .int (nI mL), .ref m_mark, .int z_shown, .ref m_shownMark, .int z_wasRun, .int wL, .int z_ended, .int (nI sp), .int z_hints, .int z_hasWidth, .int z_width, .int z_first, .int z_moved, .int z_deepest, .int xL, .int yL, .int (nI t_2), .ref m_stack, .ref m_places, .int (nI d), .ref m_kinds, .ref m_ats, .ref m_ends]))] H := hP
            have hD : va_D A_ [(m_stack, .inl (cI, 48, .inl g_stack)), (m_mark, .inl (cI, 28000, .inl gm)), (mo, .inr (8, [.int z_fault, .int z_size, .ref m_row, .ref m_shelves, .ref m_many, .ref m_widths, .int (nI mL), .ref m_mark, .int z_shown, .ref m_shownMark, .int z_wasRun, .int wL, .int z_ended, .int (nI sp), .int z_hints, .int z_hasWidth, .int z_width, .int z_first, .int z_moved, .int z_deepest, .int xL, .int yL, .int (nI t_2), .ref m_stack, .ref m_places, .int (nI d), .ref m_kinds, .ref m_ats, .ref m_ends]))] := hD
            exact t_vret hx hb hr hlk d_Mo_waves_198 (hP.subm (ws' := [(mo, .inr (8, [.int z_fault, .int z_size, .ref m_row, .ref m_shelves, .ref m_many, .ref m_widths, .int (nI mL), .ref m_mark, .int z_shown, .ref m_shownMark, .int z_wasRun, .int wL, .int z_ended, .int (nI sp), .int z_hints, .int z_hasWidth, .int z_width, .int z_first, .int z_moved, .int z_deepest, .int xL, .int yL, .int (nI t_2), .ref m_stack, .ref m_places, .int (nI d), .ref m_kinds, .ref m_ats, .ref m_ends])), (m_stack, .inl (cI, 48, .inl g_stack)), (m_mark, .inl (cI, 28000, .inl gm))]) [2, 0, 1] rfl) (hD.sub (ws' := [(mo, .inr (8, [.int z_fault, .int z_size, .ref m_row, .ref m_shelves, .ref m_many, .ref m_widths, .int (nI mL), .ref m_mark, .int z_shown, .ref m_shownMark, .int z_wasRun, .int wL, .int z_ended, .int (nI sp), .int z_hints, .int z_hasWidth, .int z_width, .int z_first, .int z_moved, .int z_deepest, .int xL, .int yL, .int (nI t_2), .ref m_stack, .ref m_places, .int (nI d), .ref m_kinds, .ref m_ats, .ref m_ends])), (m_stack, .inl (cI, 48, .inl g_stack)), (m_mark, .inl (cI, 28000, .inl gm))]) [2, 0, 1] rfl rfl) hS ⟨rfl, rfl, rfl, _, _, _, mL, t_2, _, rfl, (by omega)⟩
          · have n_46 : ¬ (t - t % 4) ≤ (i) := fun z => c_46 ((nI_leI (a := t - t % 4) (b := i) (by omega) (by omega)).mpr z)
            refine lv_aload_n hx hb d_Mo_waves_49 rfl (lv_at hl 0 rfl) ?_
            refine va_get (D := D) (ci := 8) (v := .int wL) (C := R_Mo) (T := F_Mo) (N := 29) hx hb hts i_Mo hown hZ.1 hP 0 rfl rfl 11 (by decide) (hts _ fl_Mo_75) (fun _ h9 => h9) rfl d_Mo_waves_50 ?_
            refine lv_if_ne (tgt := 194) hx hb d_Mo_waves_53 (by decide) (fun c_53 => ?_) (fun c_53 => ?_)
            · refine lv_aload_n hx hb d_Mo_waves_194 rfl (lv_at hl 0 rfl) ?_
              have hC : Cut [(mo, .inr (8, [.int z_fault, .int z_size, .ref m_row, .ref m_shelves, .ref m_many, .ref m_widths, .int (nI mL), .ref m_mark, .int z_shown, .ref m_shownMark, .int z_wasRun, .int wL, .int z_ended, .int (nI sp), .int z_hints, .int z_hasWidth, .int z_width, .int z_first, .int z_moved, .int z_deepest, .int xL, .int yL, .int (nI t), .ref m_stack, .ref m_places, .int (nI d), .ref m_kinds, .ref m_ats, .ref m_ends])), (m_stack, .inl (cI, 48, .inl g_stack)), (m_mark, .inl (cI, 28000, .inl gm))] [(mo, .inr (8, [.int z_fault, .int z_size, .ref m_row, .ref m_shelves, .ref m_many, .ref m_widths, .int (nI mL), .ref m_mark, .int z_shown, .ref m_shownMark, .int z_wasRun, .int wL, .int z_ended, .int (nI sp), .int z_hints, .int z_hasWidth, .int z_width, .int z_first, .int z_moved, .int z_deepest, .int xL, .int yL, .int (nI t), .ref m_stack, .ref m_places, .int (nI d), .ref m_kinds, .ref m_ats, .ref m_ends]))] [(m_stack, .inl (cI, 48, .inl g_stack)), (m_mark, .inl (cI, 28000, .inl gm))] [0] [1, 2] := ⟨rfl, rfl, rfl, rfl, by decide⟩
              refine goV0 (trV (As := []) (rest := []) ⟨hx, hb, hml, hown, hts⟩ gd_good (c_Mo_take_V l D cB cI cJ mo m_row m_shelves m_many m_widths m_mark m_shownMark m_stack m_places m_kinds m_ats m_ends mL sp t d z_fault z_size z_shown z_wasRun wL z_ended z_hints z_hasWidth z_width z_first z_moved z_deepest xL yL (by omega) ) cal_Mo_take_V ml_Mo_155 ⟨Nat.le_of_ble_eq_true rfl, Nat.le_of_ble_eq_true rfl⟩ hZ hP hD hC 0 (ci := 8) rfl rfl rfl rfl hl.1 rfl (Nat.le_of_ble_eq_true rfl) d_Mo_waves_195 ⟨Nat.le_of_ble_eq_true rfl, Nat.le_of_ble_eq_true rfl⟩) hZ hP hD hS hC (fun w1 H locs hq hP hD hS => ?_)
              obtain ⟨t_3, rfl, hv_3⟩ := hq
              have hP : va_P D classes [(m_stack, .inl (cI, 48, .inl g_stack)), (m_mark, .inl (cI, 28000, .inl gm)), (mo, .inr (8, [.int z_fault, .int z_size, .ref m_row, .ref m_shelves, .ref m_many, .ref m_widths, .int (nI mL), .ref m_mark, .int z_shown, .ref m_shownMark, .int z_wasRun, .int wL, .int z_ended, .int (nI sp), .int z_hints, .int z_hasWidth, .int z_width, .int z_first, .int z_moved, .int z_deepest, .int xL, .int yL, .int (nI t_3), .ref m_stack, .ref m_places, .int (nI d), .ref m_kinds, .ref m_ats, .ref m_ends]))] H := hP
              have hD : va_D A_ [(m_stack, .inl (cI, 48, .inl g_stack)), (m_mark, .inl (cI, 28000, .inl gm)), (mo, .inr (8, [.int z_fault, .int z_size, .ref m_row, .ref m_shelves, .ref m_many, .ref m_widths, .int (nI mL), .ref m_mark, .int z_shown, .ref m_shownMark, .int z_wasRun, .int wL, .int z_ended, .int (nI sp), .int z_hints, .int z_hasWidth, .int z_width, .int z_first, .int z_moved, .int z_deepest, .int xL, .int yL, .int (nI t_3), .ref m_stack, .ref m_places, .int (nI d), .ref m_kinds, .ref m_ats, .ref m_ends]))] := hD
              exact t_vret hx hb hr hlk d_Mo_waves_198 (hP.subm (ws' := [(mo, .inr (8, [.int z_fault, .int z_size, .ref m_row, .ref m_shelves, .ref m_many, .ref m_widths, .int (nI mL), .ref m_mark, .int z_shown, .ref m_shownMark, .int z_wasRun, .int wL, .int z_ended, .int (nI sp), .int z_hints, .int z_hasWidth, .int z_width, .int z_first, .int z_moved, .int z_deepest, .int xL, .int yL, .int (nI t_3), .ref m_stack, .ref m_places, .int (nI d), .ref m_kinds, .ref m_ats, .ref m_ends])), (m_stack, .inl (cI, 48, .inl g_stack)), (m_mark, .inl (cI, 28000, .inl gm))]) [2, 0, 1] rfl) (hD.sub (ws' := [(mo, .inr (8, [.int z_fault, .int z_size, .ref m_row, .ref m_shelves, .ref m_many, .ref m_widths, .int (nI mL), .ref m_mark, .int z_shown, .ref m_shownMark, .int z_wasRun, .int wL, .int z_ended, .int (nI sp), .int z_hints, .int z_hasWidth, .int z_width, .int z_first, .int z_moved, .int z_deepest, .int xL, .int yL, .int (nI t_3), .ref m_stack, .ref m_places, .int (nI d), .ref m_kinds, .ref m_ats, .ref m_ends])), (m_stack, .inl (cI, 48, .inl g_stack)), (m_mark, .inl (cI, 28000, .inl gm))]) [2, 0, 1] rfl rfl) hS ⟨rfl, rfl, rfl, _, _, _, mL, t_3, _, rfl, (by omega)⟩
            · refine lv_iload_n hx hb d_Mo_waves_56 rfl (lv_at hl 3 rfl) ?_
              refine lv_iconst (v := 5) hx hb d_Mo_waves_57 (by decide) ?_
              refine lv_iadd hx hb d_Mo_waves_58 ?_
              refine lv_tv (y := nI (i + 5)) (nI_add i 5) ?_
              refine lv_aload_n hx hb d_Mo_waves_59 rfl (lv_at hl 0 rfl) ?_
              refine va_get (D := D) (ci := 8) (v := .int (nI t)) (C := R_Mo) (T := F_Mo) (N := 29) hx hb hts i_Mo hown hZ.1 hP 0 rfl rfl 22 (by decide) (hts _ fl_Mo_82) (fun _ h9 => h9) rfl d_Mo_waves_60 ?_
              refine lv_icmp_ne (tgt := 80) hx hb d_Mo_waves_63 (by decide) (fun c_63 => ?_) (fun c_63 => ?_)
              · have n_63 : ¬ (i + 5) = (t) := fun z => c_63 ((nI_eq (a := i + 5) (b := t) (by omega) (by omega)).mpr z)
                refine lv_iconst (v := 0) hx hb d_Mo_waves_80 (by decide) ?_
                refine lv_istore (lv' := [(4, .int 0), (0, .ref mo), (1, .int c), (2, .int (nI (t - t % 4))), (3, .int (nI i))]) hx hb d_Mo_waves_81 hl (by decide) rfl (fun ls hl => ?_)
                refine lv_iload_n hx hb d_Mo_waves_83 rfl (lv_at hl 4 rfl) ?_
                refine lv_bipush (v := 8) hx hb d_Mo_waves_84 (by decide) ?_
                refine lv_irem hx hb d_Mo_waves_86 (by decide) ?_
                refine lv_tv (y := nI (i % 8)) (pk_rem (a := i) (d := 8) (by omega) (by omega) (by omega)) ?_
                refine lv_if_ne (tgt := 94) hx hb d_Mo_waves_87 (by decide) (fun c_87 => ?_) (fun c_87 => ?_)
                · have n_87 : ¬ (i % 8) = (0) := fun z => c_87 ((nI_eq (a := i % 8) (b := 0) (by omega) (by omega)).mpr z)
                  refine lv_iconst (v := 0) hx hb d_Mo_waves_94 (by decide) ?_
                  refine lv_iload_n hx hb d_Mo_waves_95 rfl (lv_at hl 2 rfl) ?_
                  refine lv_icmp_ne (tgt := 103) hx hb d_Mo_waves_96 (by decide) (fun c_96 => ?_) (fun c_96 => ?_)
                  · refine lv_iconst (v := 0) hx hb d_Mo_waves_103 (by decide) ?_
                    refine lv_istore (lv' := [(5, .int 0), (4, .int 0), (0, .ref mo), (1, .int c), (2, .int (nI (t - t % 4))), (3, .int (nI i))]) hx hb d_Mo_waves_104 hl (by decide) rfl (fun ls hl => ?_)
                    refine lv_iload hx hb d_Mo_waves_106 (lv_at hl 0 rfl) ?_
                    refine lv_if_eq (tgt := 151) hx hb d_Mo_waves_108 (by decide) (fun c_108 => ?_) (fun c_108 => absurd (by decide) c_108)
                    clear c_108
                    refine lv_aload_n hx hb d_Mo_waves_151 rfl (lv_at hl 2 rfl) ?_
                    refine lv_iconst (v := 0) hx hb d_Mo_waves_152 (by decide) ?_
                    refine lv_aload_n hx hb d_Mo_waves_153 rfl (lv_at hl 2 rfl) ?_
                    refine va_get (D := D) (ci := 8) (v := .ref m_stack) (C := R_Mo) (T := F_Mo) (N := 29) hx hb hts i_Mo hown hZ.1 hP 0 rfl rfl 23 (by decide) (hts _ fl_Mo_29) (fun _ h9 => h9) rfl d_Mo_waves_154 ?_
                    refine lv_iload_n hx hb d_Mo_waves_157 rfl (lv_at hl 5 rfl) ?_
                    refine va_iald hx hb hZ.1 hP 1 1 rfl rfl (vp_in_nI (by omega) (by omega)) d_Mo_waves_158 ?_
                    refine lv_tv (y := g_stack i) (by rw [nI_clamp (by omega)]) ?_
                    refine lv_aload_n hx hb d_Mo_waves_159 rfl (lv_at hl 2 rfl) ?_
                    refine va_get (D := D) (ci := 8) (v := .ref m_stack) (C := R_Mo) (T := F_Mo) (N := 29) hx hb hts i_Mo hown hZ.1 hP 0 rfl rfl 23 (by decide) (hts _ fl_Mo_29) (fun _ h9 => h9) rfl d_Mo_waves_160 ?_
                    refine lv_iload_n hx hb d_Mo_waves_163 rfl (lv_at hl 5 rfl) ?_
                    refine lv_iconst (v := 1) hx hb d_Mo_waves_164 (by decide) ?_
                    refine lv_iadd hx hb d_Mo_waves_165 ?_
                    refine lv_tv (y := nI (i + 1)) (nI_add i 1) ?_
                    refine va_iald hx hb hZ.1 hP 1 1 rfl rfl (vp_in_nI (by omega) (by omega)) d_Mo_waves_166 ?_
                    refine lv_tv (y := g_stack (i + 1)) (by rw [nI_clamp (by omega)]) ?_
                    refine lv_aload_n hx hb d_Mo_waves_167 rfl (lv_at hl 2 rfl) ?_
                    refine va_get (D := D) (ci := 8) (v := .ref m_stack) (C := R_Mo) (T := F_Mo) (N := 29) hx hb hts i_Mo hown hZ.1 hP 0 rfl rfl 23 (by decide) (hts _ fl_Mo_29) (fun _ h9 => h9) rfl d_Mo_waves_168 ?_
                    refine lv_iload_n hx hb d_Mo_waves_171 rfl (lv_at hl 5 rfl) ?_
                    refine lv_iconst (v := 2) hx hb d_Mo_waves_172 (by decide) ?_
                    refine lv_iadd hx hb d_Mo_waves_173 ?_
                    refine lv_tv (y := nI (i + 2)) (nI_add i 2) ?_
                    refine va_iald hx hb hZ.1 hP 1 1 rfl rfl (vp_in_nI (by omega) (by omega)) d_Mo_waves_174 ?_
                    refine lv_tv (y := g_stack (i + 2)) (by rw [nI_clamp (by omega)]) ?_
                    refine lv_aload_n hx hb d_Mo_waves_175 rfl (lv_at hl 2 rfl) ?_
                    refine va_get (D := D) (ci := 8) (v := .ref m_stack) (C := R_Mo) (T := F_Mo) (N := 29) hx hb hts i_Mo hown hZ.1 hP 0 rfl rfl 23 (by decide) (hts _ fl_Mo_29) (fun _ h9 => h9) rfl d_Mo_waves_176 ?_
                    refine lv_iload_n hx hb d_Mo_waves_179 rfl (lv_at hl 5 rfl) ?_
                    refine lv_iconst (v := 3) hx hb d_Mo_waves_180 (by decide) ?_
                    refine lv_iadd hx hb d_Mo_waves_181 ?_
                    refine lv_tv (y := nI (i + 3)) (nI_add i 3) ?_
                    refine va_iald hx hb hZ.1 hP 1 1 rfl rfl (vp_in_nI (by omega) (by omega)) d_Mo_waves_182 ?_
                    refine lv_tv (y := g_stack (i + 3)) (by rw [nI_clamp (by omega)]) ?_
                    refine lv_iload hx hb d_Mo_waves_183 (lv_at hl 1 rfl) ?_
                    have hC : Cut [(mo, .inr (8, [.int z_fault, .int z_size, .ref m_row, .ref m_shelves, .ref m_many, .ref m_widths, .int (nI mL), .ref m_mark, .int z_shown, .ref m_shownMark, .int z_wasRun, .int wL, .int z_ended, .int (nI sp), .int z_hints, .int z_hasWidth, .int z_width, .int z_first, .int z_moved, .int z_deepest, .int xL, .int yL, .int (nI t), .ref m_stack, .ref m_places, .int (nI d), .ref m_kinds, .ref m_ats, .ref m_ends])), (m_stack, .inl (cI, 48, .inl g_stack)), (m_mark, .inl (cI, 28000, .inl gm))] [(mo, .inr (8, [.int z_fault, .int z_size, .ref m_row, .ref m_shelves, .ref m_many, .ref m_widths, .int (nI mL), .ref m_mark, .int z_shown, .ref m_shownMark, .int z_wasRun, .int wL, .int z_ended, .int (nI sp), .int z_hints, .int z_hasWidth, .int z_width, .int z_first, .int z_moved, .int z_deepest, .int xL, .int yL, .int (nI t), .ref m_stack, .ref m_places, .int (nI d), .ref m_kinds, .ref m_ats, .ref m_ends])), (m_mark, .inl (cI, 28000, .inl gm))] [(m_stack, .inl (cI, 48, .inl g_stack))] [0, 2] [1] := ⟨rfl, rfl, rfl, rfl, by decide⟩
                    refine goV0 (trV (As := [.int 0, .int (g_stack i), .int (g_stack (i + 1)), .int (g_stack (i + 2)), .int (g_stack (i + 3)), .int 0]) (rest := []) ⟨hx, hb, hml, hown, hts⟩ gd_good (c_Mo_curve l D cB cI cJ mo m_row m_shelves m_many m_widths m_mark m_shownMark m_stack m_places m_kinds m_ats m_ends mL sp t d z_fault z_size z_shown z_wasRun wL z_ended z_hints z_hasWidth z_width z_first z_moved z_deepest xL yL gm 0 (g_stack i) (g_stack (i + 1)) (g_stack (i + 2)) (g_stack (i + 3)) 0 (by omega) ) cal_Mo_curve ml_Mo_158 ⟨Nat.le_of_ble_eq_true rfl, Nat.le_of_ble_eq_true rfl⟩ hZ hP hD hC 0 (ci := 8) rfl rfl rfl rfl hl.1 rfl (Nat.le_of_ble_eq_true rfl) d_Mo_waves_185 ⟨Nat.le_of_ble_eq_true rfl, Nat.le_of_ble_eq_true rfl⟩) hZ hP hD hS hC (fun w1 H locs hq hP hD hS => ?_)
                    obtain ⟨z_x_4, z_y_4, z_wrong_4, mk_4, g_mark_4, rfl, hv_4⟩ := hq
                    have hP : va_P D classes [(m_stack, .inl (cI, 48, .inl g_stack)), (mo, .inr (8, [.int z_fault, .int z_size, .ref m_row, .ref m_shelves, .ref m_many, .ref m_widths, .int (nI mk_4), .ref m_mark, .int z_shown, .ref m_shownMark, .int z_wasRun, .int z_wrong_4, .int z_ended, .int (nI sp), .int z_hints, .int z_hasWidth, .int z_width, .int z_first, .int z_moved, .int z_deepest, .int z_x_4, .int z_y_4, .int (nI t), .ref m_stack, .ref m_places, .int (nI d), .ref m_kinds, .ref m_ats, .ref m_ends])), (m_mark, .inl (cI, 28000, .inl g_mark_4))] H := hP
                    have hD : va_D A_ [(m_stack, .inl (cI, 48, .inl g_stack)), (mo, .inr (8, [.int z_fault, .int z_size, .ref m_row, .ref m_shelves, .ref m_many, .ref m_widths, .int (nI mk_4), .ref m_mark, .int z_shown, .ref m_shownMark, .int z_wasRun, .int z_wrong_4, .int z_ended, .int (nI sp), .int z_hints, .int z_hasWidth, .int z_width, .int z_first, .int z_moved, .int z_deepest, .int z_x_4, .int z_y_4, .int (nI t), .ref m_stack, .ref m_places, .int (nI d), .ref m_kinds, .ref m_ats, .ref m_ends])), (m_mark, .inl (cI, 28000, .inl g_mark_4))] := hD
                    refine lv_iinc (v := nI (i + 4)) (lv' := [(3, .int (nI (i + 4))), (5, .int 0), (4, .int 0), (0, .ref mo), (1, .int c), (2, .int (nI (t - t % 4)))]) hx hb d_Mo_waves_188 hl (k := 5) rfl (nI_add i 4) (by decide) rfl (fun ls hl => ?_)
                    refine lv_goto (tgt := 44) hx hb d_Mo_waves_191 (by decide) ?_
                    exact ih_44  (i + 4) z_x_4 z_y_4 z_wrong_4 mk_4 g_mark_4 _ _ _ ⟨by omega, by omega, by omega⟩ (by omega) (hP.subm [1, 0, 2] rfl) (hD.sub [1, 0, 2] rfl rfl) hS (lv_sub hl [3, 4, 5, 0] rfl)
                  · refine lv_iconst (v := 1) hx hb d_Mo_waves_99 (by decide) ?_
                    refine lv_goto (tgt := 104) hx hb d_Mo_waves_100 (by decide) ?_
                    refine lv_istore (lv' := [(5, .int 1), (4, .int 0), (0, .ref mo), (1, .int c), (2, .int (nI (t - t % 4))), (3, .int (nI i))]) hx hb d_Mo_waves_104 hl (by decide) rfl (fun ls hl => ?_)
                    refine lv_iload hx hb d_Mo_waves_106 (lv_at hl 0 rfl) ?_
                    refine lv_if_eq (tgt := 151) hx hb d_Mo_waves_108 (by decide) (fun c_108 => absurd c_108 (by decide)) (fun c_108 => ?_)
                    clear c_108
                    refine lv_aload_n hx hb d_Mo_waves_111 rfl (lv_at hl 2 rfl) ?_
                    refine lv_aload_n hx hb d_Mo_waves_112 rfl (lv_at hl 2 rfl) ?_
                    refine va_get (D := D) (ci := 8) (v := .ref m_stack) (C := R_Mo) (T := F_Mo) (N := 29) hx hb hts i_Mo hown hZ.1 hP 0 rfl rfl 23 (by decide) (hts _ fl_Mo_29) (fun _ h9 => h9) rfl d_Mo_waves_113 ?_
                    refine lv_iload_n hx hb d_Mo_waves_116 rfl (lv_at hl 5 rfl) ?_
                    refine va_iald hx hb hZ.1 hP 1 1 rfl rfl (vp_in_nI (by omega) (by omega)) d_Mo_waves_117 ?_
                    refine lv_tv (y := g_stack i) (by rw [nI_clamp (by omega)]) ?_
                    refine lv_iconst (v := 0) hx hb d_Mo_waves_118 (by decide) ?_
                    refine lv_aload_n hx hb d_Mo_waves_119 rfl (lv_at hl 2 rfl) ?_
                    refine va_get (D := D) (ci := 8) (v := .ref m_stack) (C := R_Mo) (T := F_Mo) (N := 29) hx hb hts i_Mo hown hZ.1 hP 0 rfl rfl 23 (by decide) (hts _ fl_Mo_29) (fun _ h9 => h9) rfl d_Mo_waves_120 ?_
                    refine lv_iload_n hx hb d_Mo_waves_123 rfl (lv_at hl 5 rfl) ?_
                    refine lv_iconst (v := 1) hx hb d_Mo_waves_124 (by decide) ?_
                    refine lv_iadd hx hb d_Mo_waves_125 ?_
                    refine lv_tv (y := nI (i + 1)) (nI_add i 1) ?_
                    refine va_iald hx hb hZ.1 hP 1 1 rfl rfl (vp_in_nI (by omega) (by omega)) d_Mo_waves_126 ?_
                    refine lv_tv (y := g_stack (i + 1)) (by rw [nI_clamp (by omega)]) ?_
                    refine lv_aload_n hx hb d_Mo_waves_127 rfl (lv_at hl 2 rfl) ?_
                    refine va_get (D := D) (ci := 8) (v := .ref m_stack) (C := R_Mo) (T := F_Mo) (N := 29) hx hb hts i_Mo hown hZ.1 hP 0 rfl rfl 23 (by decide) (hts _ fl_Mo_29) (fun _ h9 => h9) rfl d_Mo_waves_128 ?_
                    refine lv_iload_n hx hb d_Mo_waves_131 rfl (lv_at hl 5 rfl) ?_
                    refine lv_iconst (v := 2) hx hb d_Mo_waves_132 (by decide) ?_
                    refine lv_iadd hx hb d_Mo_waves_133 ?_
                    refine lv_tv (y := nI (i + 2)) (nI_add i 2) ?_
                    refine va_iald hx hb hZ.1 hP 1 1 rfl rfl (vp_in_nI (by omega) (by omega)) d_Mo_waves_134 ?_
                    refine lv_tv (y := g_stack (i + 2)) (by rw [nI_clamp (by omega)]) ?_
                    refine lv_iload hx hb d_Mo_waves_135 (lv_at hl 1 rfl) ?_
                    refine lv_aload_n hx hb d_Mo_waves_137 rfl (lv_at hl 2 rfl) ?_
                    refine va_get (D := D) (ci := 8) (v := .ref m_stack) (C := R_Mo) (T := F_Mo) (N := 29) hx hb hts i_Mo hown hZ.1 hP 0 rfl rfl 23 (by decide) (hts _ fl_Mo_29) (fun _ h9 => h9) rfl d_Mo_waves_138 ?_
                    refine lv_iload_n hx hb d_Mo_waves_141 rfl (lv_at hl 5 rfl) ?_
                    refine lv_iconst (v := 3) hx hb d_Mo_waves_142 (by decide) ?_
                    refine lv_iadd hx hb d_Mo_waves_143 ?_
                    refine lv_tv (y := nI (i + 3)) (nI_add i 3) ?_
                    refine va_iald hx hb hZ.1 hP 1 1 rfl rfl (vp_in_nI (by omega) (by omega)) d_Mo_waves_144 ?_
                    refine lv_tv (y := g_stack (i + 3)) (by rw [nI_clamp (by omega)]) ?_
                    have hC : Cut [(mo, .inr (8, [.int z_fault, .int z_size, .ref m_row, .ref m_shelves, .ref m_many, .ref m_widths, .int (nI mL), .ref m_mark, .int z_shown, .ref m_shownMark, .int z_wasRun, .int wL, .int z_ended, .int (nI sp), .int z_hints, .int z_hasWidth, .int z_width, .int z_first, .int z_moved, .int z_deepest, .int xL, .int yL, .int (nI t), .ref m_stack, .ref m_places, .int (nI d), .ref m_kinds, .ref m_ats, .ref m_ends])), (m_stack, .inl (cI, 48, .inl g_stack)), (m_mark, .inl (cI, 28000, .inl gm))] [(mo, .inr (8, [.int z_fault, .int z_size, .ref m_row, .ref m_shelves, .ref m_many, .ref m_widths, .int (nI mL), .ref m_mark, .int z_shown, .ref m_shownMark, .int z_wasRun, .int wL, .int z_ended, .int (nI sp), .int z_hints, .int z_hasWidth, .int z_width, .int z_first, .int z_moved, .int z_deepest, .int xL, .int yL, .int (nI t), .ref m_stack, .ref m_places, .int (nI d), .ref m_kinds, .ref m_ats, .ref m_ends])), (m_mark, .inl (cI, 28000, .inl gm))] [(m_stack, .inl (cI, 48, .inl g_stack))] [0, 2] [1] := ⟨rfl, rfl, rfl, rfl, by decide⟩
                    refine goV0 (trV (As := [.int (g_stack i), .int 0, .int (g_stack (i + 1)), .int (g_stack (i + 2)), .int 0, .int (g_stack (i + 3))]) (rest := []) ⟨hx, hb, hml, hown, hts⟩ gd_good (c_Mo_curve l D cB cI cJ mo m_row m_shelves m_many m_widths m_mark m_shownMark m_stack m_places m_kinds m_ats m_ends mL sp t d z_fault z_size z_shown z_wasRun wL z_ended z_hints z_hasWidth z_width z_first z_moved z_deepest xL yL gm (g_stack i) 0 (g_stack (i + 1)) (g_stack (i + 2)) 0 (g_stack (i + 3)) (by omega) ) cal_Mo_curve ml_Mo_158 ⟨Nat.le_of_ble_eq_true rfl, Nat.le_of_ble_eq_true rfl⟩ hZ hP hD hC 0 (ci := 8) rfl rfl rfl rfl hl.1 rfl (Nat.le_of_ble_eq_true rfl) d_Mo_waves_145 ⟨Nat.le_of_ble_eq_true rfl, Nat.le_of_ble_eq_true rfl⟩) hZ hP hD hS hC (fun w1 H locs hq hP hD hS => ?_)
                    obtain ⟨z_x_5, z_y_5, z_wrong_5, mk_5, g_mark_5, rfl, hv_5⟩ := hq
                    have hP : va_P D classes [(m_stack, .inl (cI, 48, .inl g_stack)), (mo, .inr (8, [.int z_fault, .int z_size, .ref m_row, .ref m_shelves, .ref m_many, .ref m_widths, .int (nI mk_5), .ref m_mark, .int z_shown, .ref m_shownMark, .int z_wasRun, .int z_wrong_5, .int z_ended, .int (nI sp), .int z_hints, .int z_hasWidth, .int z_width, .int z_first, .int z_moved, .int z_deepest, .int z_x_5, .int z_y_5, .int (nI t), .ref m_stack, .ref m_places, .int (nI d), .ref m_kinds, .ref m_ats, .ref m_ends])), (m_mark, .inl (cI, 28000, .inl g_mark_5))] H := hP
                    have hD : va_D A_ [(m_stack, .inl (cI, 48, .inl g_stack)), (mo, .inr (8, [.int z_fault, .int z_size, .ref m_row, .ref m_shelves, .ref m_many, .ref m_widths, .int (nI mk_5), .ref m_mark, .int z_shown, .ref m_shownMark, .int z_wasRun, .int z_wrong_5, .int z_ended, .int (nI sp), .int z_hints, .int z_hasWidth, .int z_width, .int z_first, .int z_moved, .int z_deepest, .int z_x_5, .int z_y_5, .int (nI t), .ref m_stack, .ref m_places, .int (nI d), .ref m_kinds, .ref m_ats, .ref m_ends])), (m_mark, .inl (cI, 28000, .inl g_mark_5))] := hD
                    refine lv_goto (tgt := 188) hx hb d_Mo_waves_148 (by decide) ?_
                    refine lv_iinc (v := nI (i + 4)) (lv' := [(3, .int (nI (i + 4))), (5, .int 1), (4, .int 0), (0, .ref mo), (1, .int c), (2, .int (nI (t - t % 4)))]) hx hb d_Mo_waves_188 hl (k := 5) rfl (nI_add i 4) (by decide) rfl (fun ls hl => ?_)
                    refine lv_goto (tgt := 44) hx hb d_Mo_waves_191 (by decide) ?_
                    exact ih_44  (i + 4) z_x_5 z_y_5 z_wrong_5 mk_5 g_mark_5 _ _ _ ⟨by omega, by omega, by omega⟩ (by omega) (hP.subm [1, 0, 2] rfl) (hD.sub [1, 0, 2] rfl rfl) hS (lv_sub hl [3, 4, 5, 0] rfl)
                · have n_87 : (i % 8) = (0) := (nI_eq (a := i % 8) (b := 0) (by omega) (by omega)).mp c_87
                  refine lv_iconst (v := 1) hx hb d_Mo_waves_90 (by decide) ?_
                  refine lv_goto (tgt := 95) hx hb d_Mo_waves_91 (by decide) ?_
                  refine lv_iload_n hx hb d_Mo_waves_95 rfl (lv_at hl 2 rfl) ?_
                  refine lv_icmp_ne (tgt := 103) hx hb d_Mo_waves_96 (by decide) (fun c_96 => ?_) (fun c_96 => ?_)
                  · refine lv_iconst (v := 0) hx hb d_Mo_waves_103 (by decide) ?_
                    refine lv_istore (lv' := [(5, .int 0), (4, .int 0), (0, .ref mo), (1, .int c), (2, .int (nI (t - t % 4))), (3, .int (nI i))]) hx hb d_Mo_waves_104 hl (by decide) rfl (fun ls hl => ?_)
                    refine lv_iload hx hb d_Mo_waves_106 (lv_at hl 0 rfl) ?_
                    refine lv_if_eq (tgt := 151) hx hb d_Mo_waves_108 (by decide) (fun c_108 => ?_) (fun c_108 => absurd (by decide) c_108)
                    clear c_108
                    refine lv_aload_n hx hb d_Mo_waves_151 rfl (lv_at hl 2 rfl) ?_
                    refine lv_iconst (v := 0) hx hb d_Mo_waves_152 (by decide) ?_
                    refine lv_aload_n hx hb d_Mo_waves_153 rfl (lv_at hl 2 rfl) ?_
                    refine va_get (D := D) (ci := 8) (v := .ref m_stack) (C := R_Mo) (T := F_Mo) (N := 29) hx hb hts i_Mo hown hZ.1 hP 0 rfl rfl 23 (by decide) (hts _ fl_Mo_29) (fun _ h9 => h9) rfl d_Mo_waves_154 ?_
                    refine lv_iload_n hx hb d_Mo_waves_157 rfl (lv_at hl 5 rfl) ?_
                    refine va_iald hx hb hZ.1 hP 1 1 rfl rfl (vp_in_nI (by omega) (by omega)) d_Mo_waves_158 ?_
                    refine lv_tv (y := g_stack i) (by rw [nI_clamp (by omega)]) ?_
                    refine lv_aload_n hx hb d_Mo_waves_159 rfl (lv_at hl 2 rfl) ?_
                    refine va_get (D := D) (ci := 8) (v := .ref m_stack) (C := R_Mo) (T := F_Mo) (N := 29) hx hb hts i_Mo hown hZ.1 hP 0 rfl rfl 23 (by decide) (hts _ fl_Mo_29) (fun _ h9 => h9) rfl d_Mo_waves_160 ?_
                    refine lv_iload_n hx hb d_Mo_waves_163 rfl (lv_at hl 5 rfl) ?_
                    refine lv_iconst (v := 1) hx hb d_Mo_waves_164 (by decide) ?_
                    refine lv_iadd hx hb d_Mo_waves_165 ?_
                    refine lv_tv (y := nI (i + 1)) (nI_add i 1) ?_
                    refine va_iald hx hb hZ.1 hP 1 1 rfl rfl (vp_in_nI (by omega) (by omega)) d_Mo_waves_166 ?_
                    refine lv_tv (y := g_stack (i + 1)) (by rw [nI_clamp (by omega)]) ?_
                    refine lv_aload_n hx hb d_Mo_waves_167 rfl (lv_at hl 2 rfl) ?_
                    refine va_get (D := D) (ci := 8) (v := .ref m_stack) (C := R_Mo) (T := F_Mo) (N := 29) hx hb hts i_Mo hown hZ.1 hP 0 rfl rfl 23 (by decide) (hts _ fl_Mo_29) (fun _ h9 => h9) rfl d_Mo_waves_168 ?_
                    refine lv_iload_n hx hb d_Mo_waves_171 rfl (lv_at hl 5 rfl) ?_
                    refine lv_iconst (v := 2) hx hb d_Mo_waves_172 (by decide) ?_
                    refine lv_iadd hx hb d_Mo_waves_173 ?_
                    refine lv_tv (y := nI (i + 2)) (nI_add i 2) ?_
                    refine va_iald hx hb hZ.1 hP 1 1 rfl rfl (vp_in_nI (by omega) (by omega)) d_Mo_waves_174 ?_
                    refine lv_tv (y := g_stack (i + 2)) (by rw [nI_clamp (by omega)]) ?_
                    refine lv_aload_n hx hb d_Mo_waves_175 rfl (lv_at hl 2 rfl) ?_
                    refine va_get (D := D) (ci := 8) (v := .ref m_stack) (C := R_Mo) (T := F_Mo) (N := 29) hx hb hts i_Mo hown hZ.1 hP 0 rfl rfl 23 (by decide) (hts _ fl_Mo_29) (fun _ h9 => h9) rfl d_Mo_waves_176 ?_
                    refine lv_iload_n hx hb d_Mo_waves_179 rfl (lv_at hl 5 rfl) ?_
                    refine lv_iconst (v := 3) hx hb d_Mo_waves_180 (by decide) ?_
                    refine lv_iadd hx hb d_Mo_waves_181 ?_
                    refine lv_tv (y := nI (i + 3)) (nI_add i 3) ?_
                    refine va_iald hx hb hZ.1 hP 1 1 rfl rfl (vp_in_nI (by omega) (by omega)) d_Mo_waves_182 ?_
                    refine lv_tv (y := g_stack (i + 3)) (by rw [nI_clamp (by omega)]) ?_
                    refine lv_iload hx hb d_Mo_waves_183 (lv_at hl 1 rfl) ?_
                    have hC : Cut [(mo, .inr (8, [.int z_fault, .int z_size, .ref m_row, .ref m_shelves, .ref m_many, .ref m_widths, .int (nI mL), .ref m_mark, .int z_shown, .ref m_shownMark, .int z_wasRun, .int wL, .int z_ended, .int (nI sp), .int z_hints, .int z_hasWidth, .int z_width, .int z_first, .int z_moved, .int z_deepest, .int xL, .int yL, .int (nI t), .ref m_stack, .ref m_places, .int (nI d), .ref m_kinds, .ref m_ats, .ref m_ends])), (m_stack, .inl (cI, 48, .inl g_stack)), (m_mark, .inl (cI, 28000, .inl gm))] [(mo, .inr (8, [.int z_fault, .int z_size, .ref m_row, .ref m_shelves, .ref m_many, .ref m_widths, .int (nI mL), .ref m_mark, .int z_shown, .ref m_shownMark, .int z_wasRun, .int wL, .int z_ended, .int (nI sp), .int z_hints, .int z_hasWidth, .int z_width, .int z_first, .int z_moved, .int z_deepest, .int xL, .int yL, .int (nI t), .ref m_stack, .ref m_places, .int (nI d), .ref m_kinds, .ref m_ats, .ref m_ends])), (m_mark, .inl (cI, 28000, .inl gm))] [(m_stack, .inl (cI, 48, .inl g_stack))] [0, 2] [1] := ⟨rfl, rfl, rfl, rfl, by decide⟩
                    refine goV0 (trV (As := [.int 0, .int (g_stack i), .int (g_stack (i + 1)), .int (g_stack (i + 2)), .int (g_stack (i + 3)), .int 0]) (rest := []) ⟨hx, hb, hml, hown, hts⟩ gd_good (c_Mo_curve l D cB cI cJ mo m_row m_shelves m_many m_widths m_mark m_shownMark m_stack m_places m_kinds m_ats m_ends mL sp t d z_fault z_size z_shown z_wasRun wL z_ended z_hints z_hasWidth z_width z_first z_moved z_deepest xL yL gm 0 (g_stack i) (g_stack (i + 1)) (g_stack (i + 2)) (g_stack (i + 3)) 0 (by omega) ) cal_Mo_curve ml_Mo_158 ⟨Nat.le_of_ble_eq_true rfl, Nat.le_of_ble_eq_true rfl⟩ hZ hP hD hC 0 (ci := 8) rfl rfl rfl rfl hl.1 rfl (Nat.le_of_ble_eq_true rfl) d_Mo_waves_185 ⟨Nat.le_of_ble_eq_true rfl, Nat.le_of_ble_eq_true rfl⟩) hZ hP hD hS hC (fun w1 H locs hq hP hD hS => ?_)
                    obtain ⟨z_x_6, z_y_6, z_wrong_6, mk_6, g_mark_6, rfl, hv_6⟩ := hq
                    have hP : va_P D classes [(m_stack, .inl (cI, 48, .inl g_stack)), (mo, .inr (8, [.int z_fault, .int z_size, .ref m_row, .ref m_shelves, .ref m_many, .ref m_widths, .int (nI mk_6), .ref m_mark, .int z_shown, .ref m_shownMark, .int z_wasRun, .int z_wrong_6, .int z_ended, .int (nI sp), .int z_hints, .int z_hasWidth, .int z_width, .int z_first, .int z_moved, .int z_deepest, .int z_x_6, .int z_y_6, .int (nI t), .ref m_stack, .ref m_places, .int (nI d), .ref m_kinds, .ref m_ats, .ref m_ends])), (m_mark, .inl (cI, 28000, .inl g_mark_6))] H := hP
                    have hD : va_D A_ [(m_stack, .inl (cI, 48, .inl g_stack)), (mo, .inr (8, [.int z_fault, .int z_size, .ref m_row, .ref m_shelves, .ref m_many, .ref m_widths, .int (nI mk_6), .ref m_mark, .int z_shown, .ref m_shownMark, .int z_wasRun, .int z_wrong_6, .int z_ended, .int (nI sp), .int z_hints, .int z_hasWidth, .int z_width, .int z_first, .int z_moved, .int z_deepest, .int z_x_6, .int z_y_6, .int (nI t), .ref m_stack, .ref m_places, .int (nI d), .ref m_kinds, .ref m_ats, .ref m_ends])), (m_mark, .inl (cI, 28000, .inl g_mark_6))] := hD
                    refine lv_iinc (v := nI (i + 4)) (lv' := [(3, .int (nI (i + 4))), (5, .int 0), (4, .int 0), (0, .ref mo), (1, .int c), (2, .int (nI (t - t % 4)))]) hx hb d_Mo_waves_188 hl (k := 5) rfl (nI_add i 4) (by decide) rfl (fun ls hl => ?_)
                    refine lv_goto (tgt := 44) hx hb d_Mo_waves_191 (by decide) ?_
                    exact ih_44  (i + 4) z_x_6 z_y_6 z_wrong_6 mk_6 g_mark_6 _ _ _ ⟨by omega, by omega, by omega⟩ (by omega) (hP.subm [1, 0, 2] rfl) (hD.sub [1, 0, 2] rfl rfl) hS (lv_sub hl [3, 4, 5, 0] rfl)
                  · refine lv_iconst (v := 1) hx hb d_Mo_waves_99 (by decide) ?_
                    refine lv_goto (tgt := 104) hx hb d_Mo_waves_100 (by decide) ?_
                    refine lv_istore (lv' := [(5, .int 1), (4, .int 0), (0, .ref mo), (1, .int c), (2, .int (nI (t - t % 4))), (3, .int (nI i))]) hx hb d_Mo_waves_104 hl (by decide) rfl (fun ls hl => ?_)
                    refine lv_iload hx hb d_Mo_waves_106 (lv_at hl 0 rfl) ?_
                    refine lv_if_eq (tgt := 151) hx hb d_Mo_waves_108 (by decide) (fun c_108 => absurd c_108 (by decide)) (fun c_108 => ?_)
                    clear c_108
                    refine lv_aload_n hx hb d_Mo_waves_111 rfl (lv_at hl 2 rfl) ?_
                    refine lv_aload_n hx hb d_Mo_waves_112 rfl (lv_at hl 2 rfl) ?_
                    refine va_get (D := D) (ci := 8) (v := .ref m_stack) (C := R_Mo) (T := F_Mo) (N := 29) hx hb hts i_Mo hown hZ.1 hP 0 rfl rfl 23 (by decide) (hts _ fl_Mo_29) (fun _ h9 => h9) rfl d_Mo_waves_113 ?_
                    refine lv_iload_n hx hb d_Mo_waves_116 rfl (lv_at hl 5 rfl) ?_
                    refine va_iald hx hb hZ.1 hP 1 1 rfl rfl (vp_in_nI (by omega) (by omega)) d_Mo_waves_117 ?_
                    refine lv_tv (y := g_stack i) (by rw [nI_clamp (by omega)]) ?_
                    refine lv_iconst (v := 0) hx hb d_Mo_waves_118 (by decide) ?_
                    refine lv_aload_n hx hb d_Mo_waves_119 rfl (lv_at hl 2 rfl) ?_
                    refine va_get (D := D) (ci := 8) (v := .ref m_stack) (C := R_Mo) (T := F_Mo) (N := 29) hx hb hts i_Mo hown hZ.1 hP 0 rfl rfl 23 (by decide) (hts _ fl_Mo_29) (fun _ h9 => h9) rfl d_Mo_waves_120 ?_
                    refine lv_iload_n hx hb d_Mo_waves_123 rfl (lv_at hl 5 rfl) ?_
                    refine lv_iconst (v := 1) hx hb d_Mo_waves_124 (by decide) ?_
                    refine lv_iadd hx hb d_Mo_waves_125 ?_
                    refine lv_tv (y := nI (i + 1)) (nI_add i 1) ?_
                    refine va_iald hx hb hZ.1 hP 1 1 rfl rfl (vp_in_nI (by omega) (by omega)) d_Mo_waves_126 ?_
                    refine lv_tv (y := g_stack (i + 1)) (by rw [nI_clamp (by omega)]) ?_
                    refine lv_aload_n hx hb d_Mo_waves_127 rfl (lv_at hl 2 rfl) ?_
                    refine va_get (D := D) (ci := 8) (v := .ref m_stack) (C := R_Mo) (T := F_Mo) (N := 29) hx hb hts i_Mo hown hZ.1 hP 0 rfl rfl 23 (by decide) (hts _ fl_Mo_29) (fun _ h9 => h9) rfl d_Mo_waves_128 ?_
                    refine lv_iload_n hx hb d_Mo_waves_131 rfl (lv_at hl 5 rfl) ?_
                    refine lv_iconst (v := 2) hx hb d_Mo_waves_132 (by decide) ?_
                    refine lv_iadd hx hb d_Mo_waves_133 ?_
                    refine lv_tv (y := nI (i + 2)) (nI_add i 2) ?_
                    refine va_iald hx hb hZ.1 hP 1 1 rfl rfl (vp_in_nI (by omega) (by omega)) d_Mo_waves_134 ?_
                    refine lv_tv (y := g_stack (i + 2)) (by rw [nI_clamp (by omega)]) ?_
                    refine lv_iload hx hb d_Mo_waves_135 (lv_at hl 1 rfl) ?_
                    refine lv_aload_n hx hb d_Mo_waves_137 rfl (lv_at hl 2 rfl) ?_
                    refine va_get (D := D) (ci := 8) (v := .ref m_stack) (C := R_Mo) (T := F_Mo) (N := 29) hx hb hts i_Mo hown hZ.1 hP 0 rfl rfl 23 (by decide) (hts _ fl_Mo_29) (fun _ h9 => h9) rfl d_Mo_waves_138 ?_
                    refine lv_iload_n hx hb d_Mo_waves_141 rfl (lv_at hl 5 rfl) ?_
                    refine lv_iconst (v := 3) hx hb d_Mo_waves_142 (by decide) ?_
                    refine lv_iadd hx hb d_Mo_waves_143 ?_
                    refine lv_tv (y := nI (i + 3)) (nI_add i 3) ?_
                    refine va_iald hx hb hZ.1 hP 1 1 rfl rfl (vp_in_nI (by omega) (by omega)) d_Mo_waves_144 ?_
                    refine lv_tv (y := g_stack (i + 3)) (by rw [nI_clamp (by omega)]) ?_
                    have hC : Cut [(mo, .inr (8, [.int z_fault, .int z_size, .ref m_row, .ref m_shelves, .ref m_many, .ref m_widths, .int (nI mL), .ref m_mark, .int z_shown, .ref m_shownMark, .int z_wasRun, .int wL, .int z_ended, .int (nI sp), .int z_hints, .int z_hasWidth, .int z_width, .int z_first, .int z_moved, .int z_deepest, .int xL, .int yL, .int (nI t), .ref m_stack, .ref m_places, .int (nI d), .ref m_kinds, .ref m_ats, .ref m_ends])), (m_stack, .inl (cI, 48, .inl g_stack)), (m_mark, .inl (cI, 28000, .inl gm))] [(mo, .inr (8, [.int z_fault, .int z_size, .ref m_row, .ref m_shelves, .ref m_many, .ref m_widths, .int (nI mL), .ref m_mark, .int z_shown, .ref m_shownMark, .int z_wasRun, .int wL, .int z_ended, .int (nI sp), .int z_hints, .int z_hasWidth, .int z_width, .int z_first, .int z_moved, .int z_deepest, .int xL, .int yL, .int (nI t), .ref m_stack, .ref m_places, .int (nI d), .ref m_kinds, .ref m_ats, .ref m_ends])), (m_mark, .inl (cI, 28000, .inl gm))] [(m_stack, .inl (cI, 48, .inl g_stack))] [0, 2] [1] := ⟨rfl, rfl, rfl, rfl, by decide⟩
                    refine goV0 (trV (As := [.int (g_stack i), .int 0, .int (g_stack (i + 1)), .int (g_stack (i + 2)), .int 0, .int (g_stack (i + 3))]) (rest := []) ⟨hx, hb, hml, hown, hts⟩ gd_good (c_Mo_curve l D cB cI cJ mo m_row m_shelves m_many m_widths m_mark m_shownMark m_stack m_places m_kinds m_ats m_ends mL sp t d z_fault z_size z_shown z_wasRun wL z_ended z_hints z_hasWidth z_width z_first z_moved z_deepest xL yL gm (g_stack i) 0 (g_stack (i + 1)) (g_stack (i + 2)) 0 (g_stack (i + 3)) (by omega) ) cal_Mo_curve ml_Mo_158 ⟨Nat.le_of_ble_eq_true rfl, Nat.le_of_ble_eq_true rfl⟩ hZ hP hD hC 0 (ci := 8) rfl rfl rfl rfl hl.1 rfl (Nat.le_of_ble_eq_true rfl) d_Mo_waves_145 ⟨Nat.le_of_ble_eq_true rfl, Nat.le_of_ble_eq_true rfl⟩) hZ hP hD hS hC (fun w1 H locs hq hP hD hS => ?_)
                    obtain ⟨z_x_7, z_y_7, z_wrong_7, mk_7, g_mark_7, rfl, hv_7⟩ := hq
                    have hP : va_P D classes [(m_stack, .inl (cI, 48, .inl g_stack)), (mo, .inr (8, [.int z_fault, .int z_size, .ref m_row, .ref m_shelves, .ref m_many, .ref m_widths, .int (nI mk_7), .ref m_mark, .int z_shown, .ref m_shownMark, .int z_wasRun, .int z_wrong_7, .int z_ended, .int (nI sp), .int z_hints, .int z_hasWidth, .int z_width, .int z_first, .int z_moved, .int z_deepest, .int z_x_7, .int z_y_7, .int (nI t), .ref m_stack, .ref m_places, .int (nI d), .ref m_kinds, .ref m_ats, .ref m_ends])), (m_mark, .inl (cI, 28000, .inl g_mark_7))] H := hP
                    have hD : va_D A_ [(m_stack, .inl (cI, 48, .inl g_stack)), (mo, .inr (8, [.int z_fault, .int z_size, .ref m_row, .ref m_shelves, .ref m_many, .ref m_widths, .int (nI mk_7), .ref m_mark, .int z_shown, .ref m_shownMark, .int z_wasRun, .int z_wrong_7, .int z_ended, .int (nI sp), .int z_hints, .int z_hasWidth, .int z_width, .int z_first, .int z_moved, .int z_deepest, .int z_x_7, .int z_y_7, .int (nI t), .ref m_stack, .ref m_places, .int (nI d), .ref m_kinds, .ref m_ats, .ref m_ends])), (m_mark, .inl (cI, 28000, .inl g_mark_7))] := hD
                    refine lv_goto (tgt := 188) hx hb d_Mo_waves_148 (by decide) ?_
                    refine lv_iinc (v := nI (i + 4)) (lv' := [(3, .int (nI (i + 4))), (5, .int 1), (4, .int 0), (0, .ref mo), (1, .int c), (2, .int (nI (t - t % 4)))]) hx hb d_Mo_waves_188 hl (k := 5) rfl (nI_add i 4) (by decide) rfl (fun ls hl => ?_)
                    refine lv_goto (tgt := 44) hx hb d_Mo_waves_191 (by decide) ?_
                    exact ih_44  (i + 4) z_x_7 z_y_7 z_wrong_7 mk_7 g_mark_7 _ _ _ ⟨by omega, by omega, by omega⟩ (by omega) (hP.subm [1, 0, 2] rfl) (hD.sub [1, 0, 2] rfl rfl) hS (lv_sub hl [3, 4, 5, 0] rfl)
              · have n_63 : (i + 5) = (t) := (nI_eq (a := i + 5) (b := t) (by omega) (by omega)).mp c_63
                refine lv_aload_n hx hb d_Mo_waves_66 rfl (lv_at hl 0 rfl) ?_
                refine va_get (D := D) (ci := 8) (v := .ref m_stack) (C := R_Mo) (T := F_Mo) (N := 29) hx hb hts i_Mo hown hZ.1 hP 0 rfl rfl 23 (by decide) (hts _ fl_Mo_29) (fun _ h9 => h9) rfl d_Mo_waves_67 ?_
                refine lv_aload_n hx hb d_Mo_waves_70 rfl (lv_at hl 0 rfl) ?_
                refine va_get (D := D) (ci := 8) (v := .int (nI t)) (C := R_Mo) (T := F_Mo) (N := 29) hx hb hts i_Mo hown hZ.1 hP 0 rfl rfl 22 (by decide) (hts _ fl_Mo_82) (fun _ h9 => h9) rfl d_Mo_waves_71 ?_
                refine lv_iconst (v := 1) hx hb d_Mo_waves_74 (by decide) ?_
                refine lv_isub hx hb d_Mo_waves_75 ?_
                refine lv_tv (y := nI (t - 1)) (pk_sub (a := t) (b := 1) (by omega)) ?_
                refine va_iald hx hb hZ.1 hP 1 1 rfl rfl (vp_in_nI (by omega) (by omega)) d_Mo_waves_76 ?_
                refine lv_tv (y := g_stack (t - 1)) (by rw [nI_clamp (by omega)]) ?_
                refine lv_goto (tgt := 81) hx hb d_Mo_waves_77 (by decide) ?_
                refine lv_istore (lv' := [(4, .int (g_stack (t - 1))), (0, .ref mo), (1, .int c), (2, .int (nI (t - t % 4))), (3, .int (nI i))]) hx hb d_Mo_waves_81 hl (by decide) rfl (fun ls hl => ?_)
                refine lv_iload_n hx hb d_Mo_waves_83 rfl (lv_at hl 4 rfl) ?_
                refine lv_bipush (v := 8) hx hb d_Mo_waves_84 (by decide) ?_
                refine lv_irem hx hb d_Mo_waves_86 (by decide) ?_
                refine lv_tv (y := nI (i % 8)) (pk_rem (a := i) (d := 8) (by omega) (by omega) (by omega)) ?_
                refine lv_if_ne (tgt := 94) hx hb d_Mo_waves_87 (by decide) (fun c_87 => ?_) (fun c_87 => ?_)
                · have n_87 : ¬ (i % 8) = (0) := fun z => c_87 ((nI_eq (a := i % 8) (b := 0) (by omega) (by omega)).mpr z)
                  refine lv_iconst (v := 0) hx hb d_Mo_waves_94 (by decide) ?_
                  refine lv_iload_n hx hb d_Mo_waves_95 rfl (lv_at hl 2 rfl) ?_
                  refine lv_icmp_ne (tgt := 103) hx hb d_Mo_waves_96 (by decide) (fun c_96 => ?_) (fun c_96 => ?_)
                  · refine lv_iconst (v := 0) hx hb d_Mo_waves_103 (by decide) ?_
                    refine lv_istore (lv' := [(5, .int 0), (4, .int (g_stack (t - 1))), (0, .ref mo), (1, .int c), (2, .int (nI (t - t % 4))), (3, .int (nI i))]) hx hb d_Mo_waves_104 hl (by decide) rfl (fun ls hl => ?_)
                    refine lv_iload hx hb d_Mo_waves_106 (lv_at hl 0 rfl) ?_
                    refine lv_if_eq (tgt := 151) hx hb d_Mo_waves_108 (by decide) (fun c_108 => ?_) (fun c_108 => absurd (by decide) c_108)
                    clear c_108
                    refine lv_aload_n hx hb d_Mo_waves_151 rfl (lv_at hl 2 rfl) ?_
                    refine lv_iconst (v := 0) hx hb d_Mo_waves_152 (by decide) ?_
                    refine lv_aload_n hx hb d_Mo_waves_153 rfl (lv_at hl 2 rfl) ?_
                    refine va_get (D := D) (ci := 8) (v := .ref m_stack) (C := R_Mo) (T := F_Mo) (N := 29) hx hb hts i_Mo hown hZ.1 hP 0 rfl rfl 23 (by decide) (hts _ fl_Mo_29) (fun _ h9 => h9) rfl d_Mo_waves_154 ?_
                    refine lv_iload_n hx hb d_Mo_waves_157 rfl (lv_at hl 5 rfl) ?_
                    refine va_iald hx hb hZ.1 hP 1 1 rfl rfl (vp_in_nI (by omega) (by omega)) d_Mo_waves_158 ?_
                    refine lv_tv (y := g_stack i) (by rw [nI_clamp (by omega)]) ?_
                    refine lv_aload_n hx hb d_Mo_waves_159 rfl (lv_at hl 2 rfl) ?_
                    refine va_get (D := D) (ci := 8) (v := .ref m_stack) (C := R_Mo) (T := F_Mo) (N := 29) hx hb hts i_Mo hown hZ.1 hP 0 rfl rfl 23 (by decide) (hts _ fl_Mo_29) (fun _ h9 => h9) rfl d_Mo_waves_160 ?_
                    refine lv_iload_n hx hb d_Mo_waves_163 rfl (lv_at hl 5 rfl) ?_
                    refine lv_iconst (v := 1) hx hb d_Mo_waves_164 (by decide) ?_
                    refine lv_iadd hx hb d_Mo_waves_165 ?_
                    refine lv_tv (y := nI (i + 1)) (nI_add i 1) ?_
                    refine va_iald hx hb hZ.1 hP 1 1 rfl rfl (vp_in_nI (by omega) (by omega)) d_Mo_waves_166 ?_
                    refine lv_tv (y := g_stack (i + 1)) (by rw [nI_clamp (by omega)]) ?_
                    refine lv_aload_n hx hb d_Mo_waves_167 rfl (lv_at hl 2 rfl) ?_
                    refine va_get (D := D) (ci := 8) (v := .ref m_stack) (C := R_Mo) (T := F_Mo) (N := 29) hx hb hts i_Mo hown hZ.1 hP 0 rfl rfl 23 (by decide) (hts _ fl_Mo_29) (fun _ h9 => h9) rfl d_Mo_waves_168 ?_
                    refine lv_iload_n hx hb d_Mo_waves_171 rfl (lv_at hl 5 rfl) ?_
                    refine lv_iconst (v := 2) hx hb d_Mo_waves_172 (by decide) ?_
                    refine lv_iadd hx hb d_Mo_waves_173 ?_
                    refine lv_tv (y := nI (i + 2)) (nI_add i 2) ?_
                    refine va_iald hx hb hZ.1 hP 1 1 rfl rfl (vp_in_nI (by omega) (by omega)) d_Mo_waves_174 ?_
                    refine lv_tv (y := g_stack (i + 2)) (by rw [nI_clamp (by omega)]) ?_
                    refine lv_aload_n hx hb d_Mo_waves_175 rfl (lv_at hl 2 rfl) ?_
                    refine va_get (D := D) (ci := 8) (v := .ref m_stack) (C := R_Mo) (T := F_Mo) (N := 29) hx hb hts i_Mo hown hZ.1 hP 0 rfl rfl 23 (by decide) (hts _ fl_Mo_29) (fun _ h9 => h9) rfl d_Mo_waves_176 ?_
                    refine lv_iload_n hx hb d_Mo_waves_179 rfl (lv_at hl 5 rfl) ?_
                    refine lv_iconst (v := 3) hx hb d_Mo_waves_180 (by decide) ?_
                    refine lv_iadd hx hb d_Mo_waves_181 ?_
                    refine lv_tv (y := nI (i + 3)) (nI_add i 3) ?_
                    refine va_iald hx hb hZ.1 hP 1 1 rfl rfl (vp_in_nI (by omega) (by omega)) d_Mo_waves_182 ?_
                    refine lv_tv (y := g_stack (i + 3)) (by rw [nI_clamp (by omega)]) ?_
                    refine lv_iload hx hb d_Mo_waves_183 (lv_at hl 1 rfl) ?_
                    have hC : Cut [(mo, .inr (8, [.int z_fault, .int z_size, .ref m_row, .ref m_shelves, .ref m_many, .ref m_widths, .int (nI mL), .ref m_mark, .int z_shown, .ref m_shownMark, .int z_wasRun, .int wL, .int z_ended, .int (nI sp), .int z_hints, .int z_hasWidth, .int z_width, .int z_first, .int z_moved, .int z_deepest, .int xL, .int yL, .int (nI t), .ref m_stack, .ref m_places, .int (nI d), .ref m_kinds, .ref m_ats, .ref m_ends])), (m_stack, .inl (cI, 48, .inl g_stack)), (m_mark, .inl (cI, 28000, .inl gm))] [(mo, .inr (8, [.int z_fault, .int z_size, .ref m_row, .ref m_shelves, .ref m_many, .ref m_widths, .int (nI mL), .ref m_mark, .int z_shown, .ref m_shownMark, .int z_wasRun, .int wL, .int z_ended, .int (nI sp), .int z_hints, .int z_hasWidth, .int z_width, .int z_first, .int z_moved, .int z_deepest, .int xL, .int yL, .int (nI t), .ref m_stack, .ref m_places, .int (nI d), .ref m_kinds, .ref m_ats, .ref m_ends])), (m_mark, .inl (cI, 28000, .inl gm))] [(m_stack, .inl (cI, 48, .inl g_stack))] [0, 2] [1] := ⟨rfl, rfl, rfl, rfl, by decide⟩
                    refine goV0 (trV (As := [.int 0, .int (g_stack i), .int (g_stack (i + 1)), .int (g_stack (i + 2)), .int (g_stack (i + 3)), .int (g_stack (t - 1))]) (rest := []) ⟨hx, hb, hml, hown, hts⟩ gd_good (c_Mo_curve l D cB cI cJ mo m_row m_shelves m_many m_widths m_mark m_shownMark m_stack m_places m_kinds m_ats m_ends mL sp t d z_fault z_size z_shown z_wasRun wL z_ended z_hints z_hasWidth z_width z_first z_moved z_deepest xL yL gm 0 (g_stack i) (g_stack (i + 1)) (g_stack (i + 2)) (g_stack (i + 3)) (g_stack (t - 1)) (by omega) ) cal_Mo_curve ml_Mo_158 ⟨Nat.le_of_ble_eq_true rfl, Nat.le_of_ble_eq_true rfl⟩ hZ hP hD hC 0 (ci := 8) rfl rfl rfl rfl hl.1 rfl (Nat.le_of_ble_eq_true rfl) d_Mo_waves_185 ⟨Nat.le_of_ble_eq_true rfl, Nat.le_of_ble_eq_true rfl⟩) hZ hP hD hS hC (fun w1 H locs hq hP hD hS => ?_)
                    obtain ⟨z_x_8, z_y_8, z_wrong_8, mk_8, g_mark_8, rfl, hv_8⟩ := hq
                    have hP : va_P D classes [(m_stack, .inl (cI, 48, .inl g_stack)), (mo, .inr (8, [.int z_fault, .int z_size, .ref m_row, .ref m_shelves, .ref m_many, .ref m_widths, .int (nI mk_8), .ref m_mark, .int z_shown, .ref m_shownMark, .int z_wasRun, .int z_wrong_8, .int z_ended, .int (nI sp), .int z_hints, .int z_hasWidth, .int z_width, .int z_first, .int z_moved, .int z_deepest, .int z_x_8, .int z_y_8, .int (nI t), .ref m_stack, .ref m_places, .int (nI d), .ref m_kinds, .ref m_ats, .ref m_ends])), (m_mark, .inl (cI, 28000, .inl g_mark_8))] H := hP
                    have hD : va_D A_ [(m_stack, .inl (cI, 48, .inl g_stack)), (mo, .inr (8, [.int z_fault, .int z_size, .ref m_row, .ref m_shelves, .ref m_many, .ref m_widths, .int (nI mk_8), .ref m_mark, .int z_shown, .ref m_shownMark, .int z_wasRun, .int z_wrong_8, .int z_ended, .int (nI sp), .int z_hints, .int z_hasWidth, .int z_width, .int z_first, .int z_moved, .int z_deepest, .int z_x_8, .int z_y_8, .int (nI t), .ref m_stack, .ref m_places, .int (nI d), .ref m_kinds, .ref m_ats, .ref m_ends])), (m_mark, .inl (cI, 28000, .inl g_mark_8))] := hD
                    refine lv_iinc (v := nI (i + 4)) (lv' := [(3, .int (nI (i + 4))), (5, .int 0), (4, .int (g_stack (t - 1))), (0, .ref mo), (1, .int c), (2, .int (nI (t - t % 4)))]) hx hb d_Mo_waves_188 hl (k := 5) rfl (nI_add i 4) (by decide) rfl (fun ls hl => ?_)
                    refine lv_goto (tgt := 44) hx hb d_Mo_waves_191 (by decide) ?_
                    exact ih_44  (i + 4) z_x_8 z_y_8 z_wrong_8 mk_8 g_mark_8 _ _ _ ⟨by omega, by omega, by omega⟩ (by omega) (hP.subm [1, 0, 2] rfl) (hD.sub [1, 0, 2] rfl rfl) hS (lv_sub hl [3, 4, 5, 0] rfl)
                  · refine lv_iconst (v := 1) hx hb d_Mo_waves_99 (by decide) ?_
                    refine lv_goto (tgt := 104) hx hb d_Mo_waves_100 (by decide) ?_
                    refine lv_istore (lv' := [(5, .int 1), (4, .int (g_stack (t - 1))), (0, .ref mo), (1, .int c), (2, .int (nI (t - t % 4))), (3, .int (nI i))]) hx hb d_Mo_waves_104 hl (by decide) rfl (fun ls hl => ?_)
                    refine lv_iload hx hb d_Mo_waves_106 (lv_at hl 0 rfl) ?_
                    refine lv_if_eq (tgt := 151) hx hb d_Mo_waves_108 (by decide) (fun c_108 => absurd c_108 (by decide)) (fun c_108 => ?_)
                    clear c_108
                    refine lv_aload_n hx hb d_Mo_waves_111 rfl (lv_at hl 2 rfl) ?_
                    refine lv_aload_n hx hb d_Mo_waves_112 rfl (lv_at hl 2 rfl) ?_
                    refine va_get (D := D) (ci := 8) (v := .ref m_stack) (C := R_Mo) (T := F_Mo) (N := 29) hx hb hts i_Mo hown hZ.1 hP 0 rfl rfl 23 (by decide) (hts _ fl_Mo_29) (fun _ h9 => h9) rfl d_Mo_waves_113 ?_
                    refine lv_iload_n hx hb d_Mo_waves_116 rfl (lv_at hl 5 rfl) ?_
                    refine va_iald hx hb hZ.1 hP 1 1 rfl rfl (vp_in_nI (by omega) (by omega)) d_Mo_waves_117 ?_
                    refine lv_tv (y := g_stack i) (by rw [nI_clamp (by omega)]) ?_
                    refine lv_iconst (v := 0) hx hb d_Mo_waves_118 (by decide) ?_
                    refine lv_aload_n hx hb d_Mo_waves_119 rfl (lv_at hl 2 rfl) ?_
                    refine va_get (D := D) (ci := 8) (v := .ref m_stack) (C := R_Mo) (T := F_Mo) (N := 29) hx hb hts i_Mo hown hZ.1 hP 0 rfl rfl 23 (by decide) (hts _ fl_Mo_29) (fun _ h9 => h9) rfl d_Mo_waves_120 ?_
                    refine lv_iload_n hx hb d_Mo_waves_123 rfl (lv_at hl 5 rfl) ?_
                    refine lv_iconst (v := 1) hx hb d_Mo_waves_124 (by decide) ?_
                    refine lv_iadd hx hb d_Mo_waves_125 ?_
                    refine lv_tv (y := nI (i + 1)) (nI_add i 1) ?_
                    refine va_iald hx hb hZ.1 hP 1 1 rfl rfl (vp_in_nI (by omega) (by omega)) d_Mo_waves_126 ?_
                    refine lv_tv (y := g_stack (i + 1)) (by rw [nI_clamp (by omega)]) ?_
                    refine lv_aload_n hx hb d_Mo_waves_127 rfl (lv_at hl 2 rfl) ?_
                    refine va_get (D := D) (ci := 8) (v := .ref m_stack) (C := R_Mo) (T := F_Mo) (N := 29) hx hb hts i_Mo hown hZ.1 hP 0 rfl rfl 23 (by decide) (hts _ fl_Mo_29) (fun _ h9 => h9) rfl d_Mo_waves_128 ?_
                    refine lv_iload_n hx hb d_Mo_waves_131 rfl (lv_at hl 5 rfl) ?_
                    refine lv_iconst (v := 2) hx hb d_Mo_waves_132 (by decide) ?_
                    refine lv_iadd hx hb d_Mo_waves_133 ?_
                    refine lv_tv (y := nI (i + 2)) (nI_add i 2) ?_
                    refine va_iald hx hb hZ.1 hP 1 1 rfl rfl (vp_in_nI (by omega) (by omega)) d_Mo_waves_134 ?_
                    refine lv_tv (y := g_stack (i + 2)) (by rw [nI_clamp (by omega)]) ?_
                    refine lv_iload hx hb d_Mo_waves_135 (lv_at hl 1 rfl) ?_
                    refine lv_aload_n hx hb d_Mo_waves_137 rfl (lv_at hl 2 rfl) ?_
                    refine va_get (D := D) (ci := 8) (v := .ref m_stack) (C := R_Mo) (T := F_Mo) (N := 29) hx hb hts i_Mo hown hZ.1 hP 0 rfl rfl 23 (by decide) (hts _ fl_Mo_29) (fun _ h9 => h9) rfl d_Mo_waves_138 ?_
                    refine lv_iload_n hx hb d_Mo_waves_141 rfl (lv_at hl 5 rfl) ?_
                    refine lv_iconst (v := 3) hx hb d_Mo_waves_142 (by decide) ?_
                    refine lv_iadd hx hb d_Mo_waves_143 ?_
                    refine lv_tv (y := nI (i + 3)) (nI_add i 3) ?_
                    refine va_iald hx hb hZ.1 hP 1 1 rfl rfl (vp_in_nI (by omega) (by omega)) d_Mo_waves_144 ?_
                    refine lv_tv (y := g_stack (i + 3)) (by rw [nI_clamp (by omega)]) ?_
                    have hC : Cut [(mo, .inr (8, [.int z_fault, .int z_size, .ref m_row, .ref m_shelves, .ref m_many, .ref m_widths, .int (nI mL), .ref m_mark, .int z_shown, .ref m_shownMark, .int z_wasRun, .int wL, .int z_ended, .int (nI sp), .int z_hints, .int z_hasWidth, .int z_width, .int z_first, .int z_moved, .int z_deepest, .int xL, .int yL, .int (nI t), .ref m_stack, .ref m_places, .int (nI d), .ref m_kinds, .ref m_ats, .ref m_ends])), (m_stack, .inl (cI, 48, .inl g_stack)), (m_mark, .inl (cI, 28000, .inl gm))] [(mo, .inr (8, [.int z_fault, .int z_size, .ref m_row, .ref m_shelves, .ref m_many, .ref m_widths, .int (nI mL), .ref m_mark, .int z_shown, .ref m_shownMark, .int z_wasRun, .int wL, .int z_ended, .int (nI sp), .int z_hints, .int z_hasWidth, .int z_width, .int z_first, .int z_moved, .int z_deepest, .int xL, .int yL, .int (nI t), .ref m_stack, .ref m_places, .int (nI d), .ref m_kinds, .ref m_ats, .ref m_ends])), (m_mark, .inl (cI, 28000, .inl gm))] [(m_stack, .inl (cI, 48, .inl g_stack))] [0, 2] [1] := ⟨rfl, rfl, rfl, rfl, by decide⟩
                    refine goV0 (trV (As := [.int (g_stack i), .int 0, .int (g_stack (i + 1)), .int (g_stack (i + 2)), .int (g_stack (t - 1)), .int (g_stack (i + 3))]) (rest := []) ⟨hx, hb, hml, hown, hts⟩ gd_good (c_Mo_curve l D cB cI cJ mo m_row m_shelves m_many m_widths m_mark m_shownMark m_stack m_places m_kinds m_ats m_ends mL sp t d z_fault z_size z_shown z_wasRun wL z_ended z_hints z_hasWidth z_width z_first z_moved z_deepest xL yL gm (g_stack i) 0 (g_stack (i + 1)) (g_stack (i + 2)) (g_stack (t - 1)) (g_stack (i + 3)) (by omega) ) cal_Mo_curve ml_Mo_158 ⟨Nat.le_of_ble_eq_true rfl, Nat.le_of_ble_eq_true rfl⟩ hZ hP hD hC 0 (ci := 8) rfl rfl rfl rfl hl.1 rfl (Nat.le_of_ble_eq_true rfl) d_Mo_waves_145 ⟨Nat.le_of_ble_eq_true rfl, Nat.le_of_ble_eq_true rfl⟩) hZ hP hD hS hC (fun w1 H locs hq hP hD hS => ?_)
                    obtain ⟨z_x_9, z_y_9, z_wrong_9, mk_9, g_mark_9, rfl, hv_9⟩ := hq
                    have hP : va_P D classes [(m_stack, .inl (cI, 48, .inl g_stack)), (mo, .inr (8, [.int z_fault, .int z_size, .ref m_row, .ref m_shelves, .ref m_many, .ref m_widths, .int (nI mk_9), .ref m_mark, .int z_shown, .ref m_shownMark, .int z_wasRun, .int z_wrong_9, .int z_ended, .int (nI sp), .int z_hints, .int z_hasWidth, .int z_width, .int z_first, .int z_moved, .int z_deepest, .int z_x_9, .int z_y_9, .int (nI t), .ref m_stack, .ref m_places, .int (nI d), .ref m_kinds, .ref m_ats, .ref m_ends])), (m_mark, .inl (cI, 28000, .inl g_mark_9))] H := hP
                    have hD : va_D A_ [(m_stack, .inl (cI, 48, .inl g_stack)), (mo, .inr (8, [.int z_fault, .int z_size, .ref m_row, .ref m_shelves, .ref m_many, .ref m_widths, .int (nI mk_9), .ref m_mark, .int z_shown, .ref m_shownMark, .int z_wasRun, .int z_wrong_9, .int z_ended, .int (nI sp), .int z_hints, .int z_hasWidth, .int z_width, .int z_first, .int z_moved, .int z_deepest, .int z_x_9, .int z_y_9, .int (nI t), .ref m_stack, .ref m_places, .int (nI d), .ref m_kinds, .ref m_ats, .ref m_ends])), (m_mark, .inl (cI, 28000, .inl g_mark_9))] := hD
                    refine lv_goto (tgt := 188) hx hb d_Mo_waves_148 (by decide) ?_
                    refine lv_iinc (v := nI (i + 4)) (lv' := [(3, .int (nI (i + 4))), (5, .int 1), (4, .int (g_stack (t - 1))), (0, .ref mo), (1, .int c), (2, .int (nI (t - t % 4)))]) hx hb d_Mo_waves_188 hl (k := 5) rfl (nI_add i 4) (by decide) rfl (fun ls hl => ?_)
                    refine lv_goto (tgt := 44) hx hb d_Mo_waves_191 (by decide) ?_
                    exact ih_44  (i + 4) z_x_9 z_y_9 z_wrong_9 mk_9 g_mark_9 _ _ _ ⟨by omega, by omega, by omega⟩ (by omega) (hP.subm [1, 0, 2] rfl) (hD.sub [1, 0, 2] rfl rfl) hS (lv_sub hl [3, 4, 5, 0] rfl)
                · have n_87 : (i % 8) = (0) := (nI_eq (a := i % 8) (b := 0) (by omega) (by omega)).mp c_87
                  refine lv_iconst (v := 1) hx hb d_Mo_waves_90 (by decide) ?_
                  refine lv_goto (tgt := 95) hx hb d_Mo_waves_91 (by decide) ?_
                  refine lv_iload_n hx hb d_Mo_waves_95 rfl (lv_at hl 2 rfl) ?_
                  refine lv_icmp_ne (tgt := 103) hx hb d_Mo_waves_96 (by decide) (fun c_96 => ?_) (fun c_96 => ?_)
                  · refine lv_iconst (v := 0) hx hb d_Mo_waves_103 (by decide) ?_
                    refine lv_istore (lv' := [(5, .int 0), (4, .int (g_stack (t - 1))), (0, .ref mo), (1, .int c), (2, .int (nI (t - t % 4))), (3, .int (nI i))]) hx hb d_Mo_waves_104 hl (by decide) rfl (fun ls hl => ?_)
                    refine lv_iload hx hb d_Mo_waves_106 (lv_at hl 0 rfl) ?_
                    refine lv_if_eq (tgt := 151) hx hb d_Mo_waves_108 (by decide) (fun c_108 => ?_) (fun c_108 => absurd (by decide) c_108)
                    clear c_108
                    refine lv_aload_n hx hb d_Mo_waves_151 rfl (lv_at hl 2 rfl) ?_
                    refine lv_iconst (v := 0) hx hb d_Mo_waves_152 (by decide) ?_
                    refine lv_aload_n hx hb d_Mo_waves_153 rfl (lv_at hl 2 rfl) ?_
                    refine va_get (D := D) (ci := 8) (v := .ref m_stack) (C := R_Mo) (T := F_Mo) (N := 29) hx hb hts i_Mo hown hZ.1 hP 0 rfl rfl 23 (by decide) (hts _ fl_Mo_29) (fun _ h9 => h9) rfl d_Mo_waves_154 ?_
                    refine lv_iload_n hx hb d_Mo_waves_157 rfl (lv_at hl 5 rfl) ?_
                    refine va_iald hx hb hZ.1 hP 1 1 rfl rfl (vp_in_nI (by omega) (by omega)) d_Mo_waves_158 ?_
                    refine lv_tv (y := g_stack i) (by rw [nI_clamp (by omega)]) ?_
                    refine lv_aload_n hx hb d_Mo_waves_159 rfl (lv_at hl 2 rfl) ?_
                    refine va_get (D := D) (ci := 8) (v := .ref m_stack) (C := R_Mo) (T := F_Mo) (N := 29) hx hb hts i_Mo hown hZ.1 hP 0 rfl rfl 23 (by decide) (hts _ fl_Mo_29) (fun _ h9 => h9) rfl d_Mo_waves_160 ?_
                    refine lv_iload_n hx hb d_Mo_waves_163 rfl (lv_at hl 5 rfl) ?_
                    refine lv_iconst (v := 1) hx hb d_Mo_waves_164 (by decide) ?_
                    refine lv_iadd hx hb d_Mo_waves_165 ?_
                    refine lv_tv (y := nI (i + 1)) (nI_add i 1) ?_
                    refine va_iald hx hb hZ.1 hP 1 1 rfl rfl (vp_in_nI (by omega) (by omega)) d_Mo_waves_166 ?_
                    refine lv_tv (y := g_stack (i + 1)) (by rw [nI_clamp (by omega)]) ?_
                    refine lv_aload_n hx hb d_Mo_waves_167 rfl (lv_at hl 2 rfl) ?_
                    refine va_get (D := D) (ci := 8) (v := .ref m_stack) (C := R_Mo) (T := F_Mo) (N := 29) hx hb hts i_Mo hown hZ.1 hP 0 rfl rfl 23 (by decide) (hts _ fl_Mo_29) (fun _ h9 => h9) rfl d_Mo_waves_168 ?_
                    refine lv_iload_n hx hb d_Mo_waves_171 rfl (lv_at hl 5 rfl) ?_
                    refine lv_iconst (v := 2) hx hb d_Mo_waves_172 (by decide) ?_
                    refine lv_iadd hx hb d_Mo_waves_173 ?_
                    refine lv_tv (y := nI (i + 2)) (nI_add i 2) ?_
                    refine va_iald hx hb hZ.1 hP 1 1 rfl rfl (vp_in_nI (by omega) (by omega)) d_Mo_waves_174 ?_
                    refine lv_tv (y := g_stack (i + 2)) (by rw [nI_clamp (by omega)]) ?_
                    refine lv_aload_n hx hb d_Mo_waves_175 rfl (lv_at hl 2 rfl) ?_
                    refine va_get (D := D) (ci := 8) (v := .ref m_stack) (C := R_Mo) (T := F_Mo) (N := 29) hx hb hts i_Mo hown hZ.1 hP 0 rfl rfl 23 (by decide) (hts _ fl_Mo_29) (fun _ h9 => h9) rfl d_Mo_waves_176 ?_
                    refine lv_iload_n hx hb d_Mo_waves_179 rfl (lv_at hl 5 rfl) ?_
                    refine lv_iconst (v := 3) hx hb d_Mo_waves_180 (by decide) ?_
                    refine lv_iadd hx hb d_Mo_waves_181 ?_
                    refine lv_tv (y := nI (i + 3)) (nI_add i 3) ?_
                    refine va_iald hx hb hZ.1 hP 1 1 rfl rfl (vp_in_nI (by omega) (by omega)) d_Mo_waves_182 ?_
                    refine lv_tv (y := g_stack (i + 3)) (by rw [nI_clamp (by omega)]) ?_
                    refine lv_iload hx hb d_Mo_waves_183 (lv_at hl 1 rfl) ?_
                    have hC : Cut [(mo, .inr (8, [.int z_fault, .int z_size, .ref m_row, .ref m_shelves, .ref m_many, .ref m_widths, .int (nI mL), .ref m_mark, .int z_shown, .ref m_shownMark, .int z_wasRun, .int wL, .int z_ended, .int (nI sp), .int z_hints, .int z_hasWidth, .int z_width, .int z_first, .int z_moved, .int z_deepest, .int xL, .int yL, .int (nI t), .ref m_stack, .ref m_places, .int (nI d), .ref m_kinds, .ref m_ats, .ref m_ends])), (m_stack, .inl (cI, 48, .inl g_stack)), (m_mark, .inl (cI, 28000, .inl gm))] [(mo, .inr (8, [.int z_fault, .int z_size, .ref m_row, .ref m_shelves, .ref m_many, .ref m_widths, .int (nI mL), .ref m_mark, .int z_shown, .ref m_shownMark, .int z_wasRun, .int wL, .int z_ended, .int (nI sp), .int z_hints, .int z_hasWidth, .int z_width, .int z_first, .int z_moved, .int z_deepest, .int xL, .int yL, .int (nI t), .ref m_stack, .ref m_places, .int (nI d), .ref m_kinds, .ref m_ats, .ref m_ends])), (m_mark, .inl (cI, 28000, .inl gm))] [(m_stack, .inl (cI, 48, .inl g_stack))] [0, 2] [1] := ⟨rfl, rfl, rfl, rfl, by decide⟩
                    refine goV0 (trV (As := [.int 0, .int (g_stack i), .int (g_stack (i + 1)), .int (g_stack (i + 2)), .int (g_stack (i + 3)), .int (g_stack (t - 1))]) (rest := []) ⟨hx, hb, hml, hown, hts⟩ gd_good (c_Mo_curve l D cB cI cJ mo m_row m_shelves m_many m_widths m_mark m_shownMark m_stack m_places m_kinds m_ats m_ends mL sp t d z_fault z_size z_shown z_wasRun wL z_ended z_hints z_hasWidth z_width z_first z_moved z_deepest xL yL gm 0 (g_stack i) (g_stack (i + 1)) (g_stack (i + 2)) (g_stack (i + 3)) (g_stack (t - 1)) (by omega) ) cal_Mo_curve ml_Mo_158 ⟨Nat.le_of_ble_eq_true rfl, Nat.le_of_ble_eq_true rfl⟩ hZ hP hD hC 0 (ci := 8) rfl rfl rfl rfl hl.1 rfl (Nat.le_of_ble_eq_true rfl) d_Mo_waves_185 ⟨Nat.le_of_ble_eq_true rfl, Nat.le_of_ble_eq_true rfl⟩) hZ hP hD hS hC (fun w1 H locs hq hP hD hS => ?_)
                    obtain ⟨z_x_10, z_y_10, z_wrong_10, mk_10, g_mark_10, rfl, hv_10⟩ := hq
                    have hP : va_P D classes [(m_stack, .inl (cI, 48, .inl g_stack)), (mo, .inr (8, [.int z_fault, .int z_size, .ref m_row, .ref m_shelves, .ref m_many, .ref m_widths, .int (nI mk_10), .ref m_mark, .int z_shown, .ref m_shownMark, .int z_wasRun, .int z_wrong_10, .int z_ended, .int (nI sp), .int z_hints, .int z_hasWidth, .int z_width, .int z_first, .int z_moved, .int z_deepest, .int z_x_10, .int z_y_10, .int (nI t), .ref m_stack, .ref m_places, .int (nI d), .ref m_kinds, .ref m_ats, .ref m_ends])), (m_mark, .inl (cI, 28000, .inl g_mark_10))] H := hP
                    have hD : va_D A_ [(m_stack, .inl (cI, 48, .inl g_stack)), (mo, .inr (8, [.int z_fault, .int z_size, .ref m_row, .ref m_shelves, .ref m_many, .ref m_widths, .int (nI mk_10), .ref m_mark, .int z_shown, .ref m_shownMark, .int z_wasRun, .int z_wrong_10, .int z_ended, .int (nI sp), .int z_hints, .int z_hasWidth, .int z_width, .int z_first, .int z_moved, .int z_deepest, .int z_x_10, .int z_y_10, .int (nI t), .ref m_stack, .ref m_places, .int (nI d), .ref m_kinds, .ref m_ats, .ref m_ends])), (m_mark, .inl (cI, 28000, .inl g_mark_10))] := hD
                    refine lv_iinc (v := nI (i + 4)) (lv' := [(3, .int (nI (i + 4))), (5, .int 0), (4, .int (g_stack (t - 1))), (0, .ref mo), (1, .int c), (2, .int (nI (t - t % 4)))]) hx hb d_Mo_waves_188 hl (k := 5) rfl (nI_add i 4) (by decide) rfl (fun ls hl => ?_)
                    refine lv_goto (tgt := 44) hx hb d_Mo_waves_191 (by decide) ?_
                    exact ih_44  (i + 4) z_x_10 z_y_10 z_wrong_10 mk_10 g_mark_10 _ _ _ ⟨by omega, by omega, by omega⟩ (by omega) (hP.subm [1, 0, 2] rfl) (hD.sub [1, 0, 2] rfl rfl) hS (lv_sub hl [3, 4, 5, 0] rfl)
                  · refine lv_iconst (v := 1) hx hb d_Mo_waves_99 (by decide) ?_
                    refine lv_goto (tgt := 104) hx hb d_Mo_waves_100 (by decide) ?_
                    refine lv_istore (lv' := [(5, .int 1), (4, .int (g_stack (t - 1))), (0, .ref mo), (1, .int c), (2, .int (nI (t - t % 4))), (3, .int (nI i))]) hx hb d_Mo_waves_104 hl (by decide) rfl (fun ls hl => ?_)
                    refine lv_iload hx hb d_Mo_waves_106 (lv_at hl 0 rfl) ?_
                    refine lv_if_eq (tgt := 151) hx hb d_Mo_waves_108 (by decide) (fun c_108 => absurd c_108 (by decide)) (fun c_108 => ?_)
                    clear c_108
                    refine lv_aload_n hx hb d_Mo_waves_111 rfl (lv_at hl 2 rfl) ?_
                    refine lv_aload_n hx hb d_Mo_waves_112 rfl (lv_at hl 2 rfl) ?_
                    refine va_get (D := D) (ci := 8) (v := .ref m_stack) (C := R_Mo) (T := F_Mo) (N := 29) hx hb hts i_Mo hown hZ.1 hP 0 rfl rfl 23 (by decide) (hts _ fl_Mo_29) (fun _ h9 => h9) rfl d_Mo_waves_113 ?_
                    refine lv_iload_n hx hb d_Mo_waves_116 rfl (lv_at hl 5 rfl) ?_
                    refine va_iald hx hb hZ.1 hP 1 1 rfl rfl (vp_in_nI (by omega) (by omega)) d_Mo_waves_117 ?_
                    refine lv_tv (y := g_stack i) (by rw [nI_clamp (by omega)]) ?_
                    refine lv_iconst (v := 0) hx hb d_Mo_waves_118 (by decide) ?_
                    refine lv_aload_n hx hb d_Mo_waves_119 rfl (lv_at hl 2 rfl) ?_
                    refine va_get (D := D) (ci := 8) (v := .ref m_stack) (C := R_Mo) (T := F_Mo) (N := 29) hx hb hts i_Mo hown hZ.1 hP 0 rfl rfl 23 (by decide) (hts _ fl_Mo_29) (fun _ h9 => h9) rfl d_Mo_waves_120 ?_
                    refine lv_iload_n hx hb d_Mo_waves_123 rfl (lv_at hl 5 rfl) ?_
                    refine lv_iconst (v := 1) hx hb d_Mo_waves_124 (by decide) ?_
                    refine lv_iadd hx hb d_Mo_waves_125 ?_
                    refine lv_tv (y := nI (i + 1)) (nI_add i 1) ?_
                    refine va_iald hx hb hZ.1 hP 1 1 rfl rfl (vp_in_nI (by omega) (by omega)) d_Mo_waves_126 ?_
                    refine lv_tv (y := g_stack (i + 1)) (by rw [nI_clamp (by omega)]) ?_
                    refine lv_aload_n hx hb d_Mo_waves_127 rfl (lv_at hl 2 rfl) ?_
                    refine va_get (D := D) (ci := 8) (v := .ref m_stack) (C := R_Mo) (T := F_Mo) (N := 29) hx hb hts i_Mo hown hZ.1 hP 0 rfl rfl 23 (by decide) (hts _ fl_Mo_29) (fun _ h9 => h9) rfl d_Mo_waves_128 ?_
                    refine lv_iload_n hx hb d_Mo_waves_131 rfl (lv_at hl 5 rfl) ?_
                    refine lv_iconst (v := 2) hx hb d_Mo_waves_132 (by decide) ?_
                    refine lv_iadd hx hb d_Mo_waves_133 ?_
                    refine lv_tv (y := nI (i + 2)) (nI_add i 2) ?_
                    refine va_iald hx hb hZ.1 hP 1 1 rfl rfl (vp_in_nI (by omega) (by omega)) d_Mo_waves_134 ?_
                    refine lv_tv (y := g_stack (i + 2)) (by rw [nI_clamp (by omega)]) ?_
                    refine lv_iload hx hb d_Mo_waves_135 (lv_at hl 1 rfl) ?_
                    refine lv_aload_n hx hb d_Mo_waves_137 rfl (lv_at hl 2 rfl) ?_
                    refine va_get (D := D) (ci := 8) (v := .ref m_stack) (C := R_Mo) (T := F_Mo) (N := 29) hx hb hts i_Mo hown hZ.1 hP 0 rfl rfl 23 (by decide) (hts _ fl_Mo_29) (fun _ h9 => h9) rfl d_Mo_waves_138 ?_
                    refine lv_iload_n hx hb d_Mo_waves_141 rfl (lv_at hl 5 rfl) ?_
                    refine lv_iconst (v := 3) hx hb d_Mo_waves_142 (by decide) ?_
                    refine lv_iadd hx hb d_Mo_waves_143 ?_
                    refine lv_tv (y := nI (i + 3)) (nI_add i 3) ?_
                    refine va_iald hx hb hZ.1 hP 1 1 rfl rfl (vp_in_nI (by omega) (by omega)) d_Mo_waves_144 ?_
                    refine lv_tv (y := g_stack (i + 3)) (by rw [nI_clamp (by omega)]) ?_
                    have hC : Cut [(mo, .inr (8, [.int z_fault, .int z_size, .ref m_row, .ref m_shelves, .ref m_many, .ref m_widths, .int (nI mL), .ref m_mark, .int z_shown, .ref m_shownMark, .int z_wasRun, .int wL, .int z_ended, .int (nI sp), .int z_hints, .int z_hasWidth, .int z_width, .int z_first, .int z_moved, .int z_deepest, .int xL, .int yL, .int (nI t), .ref m_stack, .ref m_places, .int (nI d), .ref m_kinds, .ref m_ats, .ref m_ends])), (m_stack, .inl (cI, 48, .inl g_stack)), (m_mark, .inl (cI, 28000, .inl gm))] [(mo, .inr (8, [.int z_fault, .int z_size, .ref m_row, .ref m_shelves, .ref m_many, .ref m_widths, .int (nI mL), .ref m_mark, .int z_shown, .ref m_shownMark, .int z_wasRun, .int wL, .int z_ended, .int (nI sp), .int z_hints, .int z_hasWidth, .int z_width, .int z_first, .int z_moved, .int z_deepest, .int xL, .int yL, .int (nI t), .ref m_stack, .ref m_places, .int (nI d), .ref m_kinds, .ref m_ats, .ref m_ends])), (m_mark, .inl (cI, 28000, .inl gm))] [(m_stack, .inl (cI, 48, .inl g_stack))] [0, 2] [1] := ⟨rfl, rfl, rfl, rfl, by decide⟩
                    refine goV0 (trV (As := [.int (g_stack i), .int 0, .int (g_stack (i + 1)), .int (g_stack (i + 2)), .int (g_stack (t - 1)), .int (g_stack (i + 3))]) (rest := []) ⟨hx, hb, hml, hown, hts⟩ gd_good (c_Mo_curve l D cB cI cJ mo m_row m_shelves m_many m_widths m_mark m_shownMark m_stack m_places m_kinds m_ats m_ends mL sp t d z_fault z_size z_shown z_wasRun wL z_ended z_hints z_hasWidth z_width z_first z_moved z_deepest xL yL gm (g_stack i) 0 (g_stack (i + 1)) (g_stack (i + 2)) (g_stack (t - 1)) (g_stack (i + 3)) (by omega) ) cal_Mo_curve ml_Mo_158 ⟨Nat.le_of_ble_eq_true rfl, Nat.le_of_ble_eq_true rfl⟩ hZ hP hD hC 0 (ci := 8) rfl rfl rfl rfl hl.1 rfl (Nat.le_of_ble_eq_true rfl) d_Mo_waves_145 ⟨Nat.le_of_ble_eq_true rfl, Nat.le_of_ble_eq_true rfl⟩) hZ hP hD hS hC (fun w1 H locs hq hP hD hS => ?_)
                    obtain ⟨z_x_11, z_y_11, z_wrong_11, mk_11, g_mark_11, rfl, hv_11⟩ := hq
                    have hP : va_P D classes [(m_stack, .inl (cI, 48, .inl g_stack)), (mo, .inr (8, [.int z_fault, .int z_size, .ref m_row, .ref m_shelves, .ref m_many, .ref m_widths, .int (nI mk_11), .ref m_mark, .int z_shown, .ref m_shownMark, .int z_wasRun, .int z_wrong_11, .int z_ended, .int (nI sp), .int z_hints, .int z_hasWidth, .int z_width, .int z_first, .int z_moved, .int z_deepest, .int z_x_11, .int z_y_11, .int (nI t), .ref m_stack, .ref m_places, .int (nI d), .ref m_kinds, .ref m_ats, .ref m_ends])), (m_mark, .inl (cI, 28000, .inl g_mark_11))] H := hP
                    have hD : va_D A_ [(m_stack, .inl (cI, 48, .inl g_stack)), (mo, .inr (8, [.int z_fault, .int z_size, .ref m_row, .ref m_shelves, .ref m_many, .ref m_widths, .int (nI mk_11), .ref m_mark, .int z_shown, .ref m_shownMark, .int z_wasRun, .int z_wrong_11, .int z_ended, .int (nI sp), .int z_hints, .int z_hasWidth, .int z_width, .int z_first, .int z_moved, .int z_deepest, .int z_x_11, .int z_y_11, .int (nI t), .ref m_stack, .ref m_places, .int (nI d), .ref m_kinds, .ref m_ats, .ref m_ends])), (m_mark, .inl (cI, 28000, .inl g_mark_11))] := hD
                    refine lv_goto (tgt := 188) hx hb d_Mo_waves_148 (by decide) ?_
                    refine lv_iinc (v := nI (i + 4)) (lv' := [(3, .int (nI (i + 4))), (5, .int 1), (4, .int (g_stack (t - 1))), (0, .ref mo), (1, .int c), (2, .int (nI (t - t % 4)))]) hx hb d_Mo_waves_188 hl (k := 5) rfl (nI_add i 4) (by decide) rfl (fun ls hl => ?_)
                    refine lv_goto (tgt := 44) hx hb d_Mo_waves_191 (by decide) ?_
                    exact ih_44  (i + 4) z_x_11 z_y_11 z_wrong_11 mk_11 g_mark_11 _ _ _ ⟨by omega, by omega, by omega⟩ (by omega) (hP.subm [1, 0, 2] rfl) (hD.sub [1, 0, 2] rfl rfl) hS (lv_sub hl [3, 4, 5, 0] rfl)
      exact lp_44 _ 0 z_x z_y z_wrong_1 mk g_mark _ _ _ ⟨by omega, by omega, by omega⟩ (Nat.lt_succ_self _) (hP.subm [2, 0, 1] rfl) (hD.sub [2, 0, 1] rfl rfl) hS (lv_sub hl [2, 3, 1, 0] rfl)
  · have n_6 : ¬ (t) < (4) := fun z => c_6 ((nI_ltI (a := t) (b := 4) (by omega) (by omega)).mpr z)
    refine lv_aload_n hx hb d_Mo_waves_9 rfl (lv_at hl 0 rfl) ?_
    refine va_get (D := D) (ci := 8) (v := .int (nI t)) (C := R_Mo) (T := F_Mo) (N := 29) hx hb hts i_Mo hown hZ.1 hP 0 rfl rfl 22 (by decide) (hts _ fl_Mo_82) (fun _ h9 => h9) rfl d_Mo_waves_10 ?_
    refine lv_iconst (v := 4) hx hb d_Mo_waves_13 (by decide) ?_
    refine lv_irem hx hb d_Mo_waves_14 (by decide) ?_
    refine lv_tv (y := nI (t % 4)) (pk_rem (a := t) (d := 4) (by omega) (by omega) (by omega)) ?_
    refine lv_iconst (v := 2) hx hb d_Mo_waves_15 (by decide) ?_
    refine lv_icmp_ge (tgt := 23) hx hb d_Mo_waves_16 (by decide) (fun c_16 => ?_) (fun c_16 => ?_)
    · have n_16 : (2) ≤ (t % 4) := (nI_leI (a := 2) (b := t % 4) (by omega) (by omega)).mp c_16
      refine lv_iconst (v := 0) hx hb d_Mo_waves_23 (by decide) ?_
      have hC : Cut [(mo, .inr (8, [.int z_fault, .int z_size, .ref m_row, .ref m_shelves, .ref m_many, .ref m_widths, .int (nI mk), .ref m_mark, .int z_shown, .ref m_shownMark, .int z_wasRun, .int z_wrong, .int z_ended, .int (nI sp), .int z_hints, .int z_hasWidth, .int z_width, .int z_first, .int z_moved, .int z_deepest, .int z_x, .int z_y, .int (nI t), .ref m_stack, .ref m_places, .int (nI d), .ref m_kinds, .ref m_ats, .ref m_ends])), (m_stack, .inl (cI, 48, .inl g_stack)), (m_mark, .inl (cI, 28000, .inl g_mark))] [(mo, .inr (8, [.int z_fault, .int z_size, .ref m_row, .ref m_shelves, .ref m_many, .ref m_widths, .int (nI mk), .ref m_mark, .int z_shown, .ref m_shownMark, .int z_wasRun, .int z_wrong, .int z_ended, .int (nI sp), .int z_hints, .int z_hasWidth, .int z_width, .int z_first, .int z_moved, .int z_deepest, .int z_x, .int z_y, .int (nI t), .ref m_stack, .ref m_places, .int (nI d), .ref m_kinds, .ref m_ats, .ref m_ends]))] [(m_stack, .inl (cI, 48, .inl g_stack)), (m_mark, .inl (cI, 28000, .inl g_mark))] [0] [1, 2] := ⟨rfl, rfl, rfl, rfl, by decide⟩
      refine goI0 (trV (As := [.int 0]) (rest := []) ⟨hx, hb, hml, hown, hts⟩ gd_good (c_Mo_may l D cB cI cJ mo m_row m_shelves m_many m_widths m_mark m_shownMark m_stack m_places m_kinds m_ats m_ends mk sp t d z_fault z_size z_shown z_wasRun z_wrong z_ended z_hints z_hasWidth z_width z_first z_moved z_deepest z_x z_y 0 (by omega) ) cal_Mo_may ml_Mo_162 ⟨Nat.le_of_ble_eq_true rfl, Nat.le_of_ble_eq_true rfl⟩ hZ hP hD hC 0 (ci := 8) rfl rfl rfl rfl hl.1 rfl (Nat.le_of_ble_eq_true rfl) d_Mo_waves_24 ⟨Nat.le_of_ble_eq_true rfl, Nat.le_of_ble_eq_true rfl⟩) hZ hP hD hS hC (fun r_24 w1 H locs hq hP hD hS => ?_)
      obtain ⟨z_wrong_12, rfl, hv_12, hx_12, hz_12⟩ := hq
      have hP : va_P D classes [(m_stack, .inl (cI, 48, .inl g_stack)), (m_mark, .inl (cI, 28000, .inl g_mark)), (mo, .inr (8, [.int z_fault, .int z_size, .ref m_row, .ref m_shelves, .ref m_many, .ref m_widths, .int (nI mk), .ref m_mark, .int z_shown, .ref m_shownMark, .int z_wasRun, .int z_wrong_12, .int z_ended, .int (nI sp), .int z_hints, .int z_hasWidth, .int z_width, .int z_first, .int z_moved, .int z_deepest, .int z_x, .int z_y, .int (nI t), .ref m_stack, .ref m_places, .int (nI d), .ref m_kinds, .ref m_ats, .ref m_ends]))] H := hP
      have hD : va_D A_ [(m_stack, .inl (cI, 48, .inl g_stack)), (m_mark, .inl (cI, 28000, .inl g_mark)), (mo, .inr (8, [.int z_fault, .int z_size, .ref m_row, .ref m_shelves, .ref m_many, .ref m_widths, .int (nI mk), .ref m_mark, .int z_shown, .ref m_shownMark, .int z_wasRun, .int z_wrong_12, .int z_ended, .int (nI sp), .int z_hints, .int z_hasWidth, .int z_width, .int z_first, .int z_moved, .int z_deepest, .int z_x, .int z_y, .int (nI t), .ref m_stack, .ref m_places, .int (nI d), .ref m_kinds, .ref m_ats, .ref m_ends]))] := hD
      refine lv_if_eq (tgt := 198) hx hb d_Mo_waves_27 (by decide) (fun c_27 => ?_) (fun c_27 => ?_)
      · exact t_vret hx hb hr hlk d_Mo_waves_198 (hP.subm (ws' := [(mo, .inr (8, [.int z_fault, .int z_size, .ref m_row, .ref m_shelves, .ref m_many, .ref m_widths, .int (nI mk), .ref m_mark, .int z_shown, .ref m_shownMark, .int z_wasRun, .int z_wrong_12, .int z_ended, .int (nI sp), .int z_hints, .int z_hasWidth, .int z_width, .int z_first, .int z_moved, .int z_deepest, .int z_x, .int z_y, .int (nI t), .ref m_stack, .ref m_places, .int (nI d), .ref m_kinds, .ref m_ats, .ref m_ends])), (m_stack, .inl (cI, 48, .inl g_stack)), (m_mark, .inl (cI, 28000, .inl g_mark))]) [2, 0, 1] rfl) (hD.sub (ws' := [(mo, .inr (8, [.int z_fault, .int z_size, .ref m_row, .ref m_shelves, .ref m_many, .ref m_widths, .int (nI mk), .ref m_mark, .int z_shown, .ref m_shownMark, .int z_wasRun, .int z_wrong_12, .int z_ended, .int (nI sp), .int z_hints, .int z_hasWidth, .int z_width, .int z_first, .int z_moved, .int z_deepest, .int z_x, .int z_y, .int (nI t), .ref m_stack, .ref m_places, .int (nI d), .ref m_kinds, .ref m_ats, .ref m_ends])), (m_stack, .inl (cI, 48, .inl g_stack)), (m_mark, .inl (cI, 28000, .inl g_mark))]) [2, 0, 1] rfl rfl) hS ⟨rfl, rfl, rfl, _, _, _, mk, t, _, rfl, (by omega)⟩
      · refine lv_aload_n hx hb d_Mo_waves_30 rfl (lv_at hl 0 rfl) ?_
        refine va_get (D := D) (ci := 8) (v := .int (nI t)) (C := R_Mo) (T := F_Mo) (N := 29) hx hb hts i_Mo hown hZ.1 hP 2 rfl rfl 22 (by decide) (hts _ fl_Mo_82) (fun _ h9 => h9) rfl d_Mo_waves_31 ?_
        refine lv_aload_n hx hb d_Mo_waves_34 rfl (lv_at hl 0 rfl) ?_
        refine va_get (D := D) (ci := 8) (v := .int (nI t)) (C := R_Mo) (T := F_Mo) (N := 29) hx hb hts i_Mo hown hZ.1 hP 2 rfl rfl 22 (by decide) (hts _ fl_Mo_82) (fun _ h9 => h9) rfl d_Mo_waves_35 ?_
        refine lv_iconst (v := 4) hx hb d_Mo_waves_38 (by decide) ?_
        refine lv_irem hx hb d_Mo_waves_39 (by decide) ?_
        refine lv_tv (y := nI (t % 4)) (pk_rem (a := t) (d := 4) (by omega) (by omega) (by omega)) ?_
        refine lv_isub hx hb d_Mo_waves_40 ?_
        refine lv_tv (y := nI (t - (t % 4))) (pk_sub (a := t) (b := t % 4) (by omega)) ?_
        refine lv_istore_n (lv' := [(2, .int (nI (t - (t % 4)))), (0, .ref mo), (1, .int c)]) hx hb d_Mo_waves_41 rfl hl (by decide) rfl (fun ls hl => ?_)
        refine lv_iconst (v := 0) hx hb d_Mo_waves_42 (by decide) ?_
        refine lv_istore_n (lv' := [(3, .int 0), (2, .int (nI (t - (t % 4)))), (0, .ref mo), (1, .int c)]) hx hb d_Mo_waves_43 rfl hl (by decide) rfl (fun ls hl => ?_)
        have lp_44 : ∀ (fu : Nat) (i : Nat) (xL : Int32) (yL : Int32) (wL : Int32) (mL : Nat) (gm : Nat → Int32) (H : Heap) (locs : List Loc) (ls : Array Slot), (mL ≤ 4000 ∧ i ≤ 60 ∧ i % 4 = 0) → (70 - i) < fu → va_P D classes [(mo, .inr (8, [.int z_fault, .int z_size, .ref m_row, .ref m_shelves, .ref m_many, .ref m_widths, .int (nI mL), .ref m_mark, .int z_shown, .ref m_shownMark, .int z_wasRun, .int wL, .int z_ended, .int (nI sp), .int z_hints, .int z_hasWidth, .int z_width, .int z_first, .int z_moved, .int z_deepest, .int xL, .int yL, .int (nI t), .ref m_stack, .ref m_places, .int (nI d), .ref m_kinds, .ref m_ats, .ref m_ends])), (m_stack, .inl (cI, 48, .inl g_stack)), (m_mark, .inl (cI, 28000, .inl gm))] H → va_D A_ [(mo, .inr (8, [.int z_fault, .int z_size, .ref m_row, .ref m_shelves, .ref m_many, .ref m_widths, .int (nI mL), .ref m_mark, .int z_shown, .ref m_shownMark, .int z_wasRun, .int wL, .int z_ended, .int (nI sp), .int z_hints, .int z_hasWidth, .int z_width, .int z_first, .int z_moved, .int z_deepest, .int xL, .int yL, .int (nI t), .ref m_stack, .ref m_places, .int (nI d), .ref m_kinds, .ref m_ats, .ref m_ends])), (m_stack, .inl (cI, 48, .inl g_stack)), (m_mark, .inl (cI, 28000, .inl gm))] → va_S A_ s_.heap H locs → lv_has ls 6 [(0, .ref mo), (1, .int c), (2, .int (nI (t - t % 4))), (3, .int (nI i))] → W p_ l e_ ({ frames := 3, cells := 0, slots := 0, locals := 77 }) s_ m_ args_ below_ meth_ c_ H locs (0) (0) (MQT below_ D classes A_ (pV0 (fun w => ∃ (z_x' : Int32) (z_y' : Int32) (z_wrong' : Int32) (mk' : Nat) (t' : Nat) (g_mark' : Nat → Int32), w = [(mo, .inr (8, [.int z_fault, .int z_size, .ref m_row, .ref m_shelves, .ref m_many, .ref m_widths, .int (nI mk'), .ref m_mark, .int z_shown, .ref m_shownMark, .int z_wasRun, .int z_wrong', .int z_ended, .int (nI sp), .int z_hints, .int z_hasWidth, .int z_width, .int z_first, .int z_moved, .int z_deepest, .int z_x', .int z_y', .int (nI t'), .ref m_stack, .ref m_places, .int (nI d), .ref m_kinds, .ref m_ats, .ref m_ends])), (m_stack, .inl (cI, 48, .inl g_stack)), (m_mark, .inl (cI, 28000, .inl g_mark'))] ∧ (t' ≤ 48 ∧ d ≤ 10 ∧ mk' ≤ 4000 ∧ sp ≤ 20000))) s_) (F0 m_ 44 ls []) := by
          intro fu
          induction fu with
          | zero => intro i xL yL wL mL gm H locs ls hinv hfu; exact absurd hfu (Nat.not_lt_zero _)
          | succ fu ih_44 =>
            intro i xL yL wL mL gm H locs ls hinv hfu hP hD hS hl
            obtain ⟨hmL, hi1, hi2⟩ := hinv
            refine lv_iload_n hx hb d_Mo_waves_44 rfl (lv_at hl 3 rfl) ?_
            refine lv_iload_n hx hb d_Mo_waves_45 rfl (lv_at hl 2 rfl) ?_
            refine lv_icmp_ge (tgt := 194) hx hb d_Mo_waves_46 (by decide) (fun c_46 => ?_) (fun c_46 => ?_)
            · have n_46 : (t - t % 4) ≤ (i) := (nI_leI (a := t - t % 4) (b := i) (by omega) (by omega)).mp c_46
              refine lv_aload_n hx hb d_Mo_waves_194 rfl (lv_at hl 0 rfl) ?_
              have hC : Cut [(mo, .inr (8, [.int z_fault, .int z_size, .ref m_row, .ref m_shelves, .ref m_many, .ref m_widths, .int (nI mL), .ref m_mark, .int z_shown, .ref m_shownMark, .int z_wasRun, .int wL, .int z_ended, .int (nI sp), .int z_hints, .int z_hasWidth, .int z_width, .int z_first, .int z_moved, .int z_deepest, .int xL, .int yL, .int (nI t), .ref m_stack, .ref m_places, .int (nI d), .ref m_kinds, .ref m_ats, .ref m_ends])), (m_stack, .inl (cI, 48, .inl g_stack)), (m_mark, .inl (cI, 28000, .inl gm))] [(mo, .inr (8, [.int z_fault, .int z_size, .ref m_row, .ref m_shelves, .ref m_many, .ref m_widths, .int (nI mL), .ref m_mark, .int z_shown, .ref m_shownMark, .int z_wasRun, .int wL, .int z_ended, .int (nI sp), .int z_hints, .int z_hasWidth, .int z_width, .int z_first, .int z_moved, .int z_deepest, .int xL, .int yL, .int (nI t), .ref m_stack, .ref m_places, .int (nI d), .ref m_kinds, .ref m_ats, .ref m_ends]))] [(m_stack, .inl (cI, 48, .inl g_stack)), (m_mark, .inl (cI, 28000, .inl gm))] [0] [1, 2] := ⟨rfl, rfl, rfl, rfl, by decide⟩
              refine goV0 (trV (As := []) (rest := []) ⟨hx, hb, hml, hown, hts⟩ gd_good (c_Mo_take_V l D cB cI cJ mo m_row m_shelves m_many m_widths m_mark m_shownMark m_stack m_places m_kinds m_ats m_ends mL sp t d z_fault z_size z_shown z_wasRun wL z_ended z_hints z_hasWidth z_width z_first z_moved z_deepest xL yL (by omega) ) cal_Mo_take_V ml_Mo_155 ⟨Nat.le_of_ble_eq_true rfl, Nat.le_of_ble_eq_true rfl⟩ hZ hP hD hC 0 (ci := 8) rfl rfl rfl rfl hl.1 rfl (Nat.le_of_ble_eq_true rfl) d_Mo_waves_195 ⟨Nat.le_of_ble_eq_true rfl, Nat.le_of_ble_eq_true rfl⟩) hZ hP hD hS hC (fun w1 H locs hq hP hD hS => ?_)
              obtain ⟨t_13, rfl, hv_13⟩ := hq
              have hP : va_P D classes [(m_stack, .inl (cI, 48, .inl g_stack)), (m_mark, .inl (cI, 28000, .inl gm)), (mo, .inr (8, [.int z_fault, .int z_size, .ref m_row, .ref m_shelves, .ref m_many, .ref m_widths, .int (nI mL), .ref m_mark, .int z_shown, .ref m_shownMark, .int z_wasRun, .int wL, .int z_ended, .int (nI sp), .int z_hints, .int z_hasWidth, .int z_width, .int z_first, .int z_moved, .int z_deepest, .int xL, .int yL, .int (nI t_13), .ref m_stack, .ref m_places, .int (nI d), .ref m_kinds, .ref m_ats, .ref m_ends]))] H := hP
              have hD : va_D A_ [(m_stack, .inl (cI, 48, .inl g_stack)), (m_mark, .inl (cI, 28000, .inl gm)), (mo, .inr (8, [.int z_fault, .int z_size, .ref m_row, .ref m_shelves, .ref m_many, .ref m_widths, .int (nI mL), .ref m_mark, .int z_shown, .ref m_shownMark, .int z_wasRun, .int wL, .int z_ended, .int (nI sp), .int z_hints, .int z_hasWidth, .int z_width, .int z_first, .int z_moved, .int z_deepest, .int xL, .int yL, .int (nI t_13), .ref m_stack, .ref m_places, .int (nI d), .ref m_kinds, .ref m_ats, .ref m_ends]))] := hD
              exact t_vret hx hb hr hlk d_Mo_waves_198 (hP.subm (ws' := [(mo, .inr (8, [.int z_fault, .int z_size, .ref m_row, .ref m_shelves, .ref m_many, .ref m_widths, .int (nI mL), .ref m_mark, .int z_shown, .ref m_shownMark, .int z_wasRun, .int wL, .int z_ended, .int (nI sp), .int z_hints, .int z_hasWidth, .int z_width, .int z_first, .int z_moved, .int z_deepest, .int xL, .int yL, .int (nI t_13), .ref m_stack, .ref m_places, .int (nI d), .ref m_kinds, .ref m_ats, .ref m_ends])), (m_stack, .inl (cI, 48, .inl g_stack)), (m_mark, .inl (cI, 28000, .inl gm))]) [2, 0, 1] rfl) (hD.sub (ws' := [(mo, .inr (8, [.int z_fault, .int z_size, .ref m_row, .ref m_shelves, .ref m_many, .ref m_widths, .int (nI mL), .ref m_mark, .int z_shown, .ref m_shownMark, .int z_wasRun, .int wL, .int z_ended, .int (nI sp), .int z_hints, .int z_hasWidth, .int z_width, .int z_first, .int z_moved, .int z_deepest, .int xL, .int yL, .int (nI t_13), .ref m_stack, .ref m_places, .int (nI d), .ref m_kinds, .ref m_ats, .ref m_ends])), (m_stack, .inl (cI, 48, .inl g_stack)), (m_mark, .inl (cI, 28000, .inl gm))]) [2, 0, 1] rfl rfl) hS ⟨rfl, rfl, rfl, _, _, _, mL, t_13, _, rfl, (by omega)⟩
            · have n_46 : ¬ (t - t % 4) ≤ (i) := fun z => c_46 ((nI_leI (a := t - t % 4) (b := i) (by omega) (by omega)).mpr z)
              refine lv_aload_n hx hb d_Mo_waves_49 rfl (lv_at hl 0 rfl) ?_
              refine va_get (D := D) (ci := 8) (v := .int wL) (C := R_Mo) (T := F_Mo) (N := 29) hx hb hts i_Mo hown hZ.1 hP 0 rfl rfl 11 (by decide) (hts _ fl_Mo_75) (fun _ h9 => h9) rfl d_Mo_waves_50 ?_
              refine lv_if_ne (tgt := 194) hx hb d_Mo_waves_53 (by decide) (fun c_53 => ?_) (fun c_53 => ?_)
              · refine lv_aload_n hx hb d_Mo_waves_194 rfl (lv_at hl 0 rfl) ?_
                have hC : Cut [(mo, .inr (8, [.int z_fault, .int z_size, .ref m_row, .ref m_shelves, .ref m_many, .ref m_widths, .int (nI mL), .ref m_mark, .int z_shown, .ref m_shownMark, .int z_wasRun, .int wL, .int z_ended, .int (nI sp), .int z_hints, .int z_hasWidth, .int z_width, .int z_first, .int z_moved, .int z_deepest, .int xL, .int yL, .int (nI t), .ref m_stack, .ref m_places, .int (nI d), .ref m_kinds, .ref m_ats, .ref m_ends])), (m_stack, .inl (cI, 48, .inl g_stack)), (m_mark, .inl (cI, 28000, .inl gm))] [(mo, .inr (8, [.int z_fault, .int z_size, .ref m_row, .ref m_shelves, .ref m_many, .ref m_widths, .int (nI mL), .ref m_mark, .int z_shown, .ref m_shownMark, .int z_wasRun, .int wL, .int z_ended, .int (nI sp), .int z_hints, .int z_hasWidth, .int z_width, .int z_first, .int z_moved, .int z_deepest, .int xL, .int yL, .int (nI t), .ref m_stack, .ref m_places, .int (nI d), .ref m_kinds, .ref m_ats, .ref m_ends]))] [(m_stack, .inl (cI, 48, .inl g_stack)), (m_mark, .inl (cI, 28000, .inl gm))] [0] [1, 2] := ⟨rfl, rfl, rfl, rfl, by decide⟩
                refine goV0 (trV (As := []) (rest := []) ⟨hx, hb, hml, hown, hts⟩ gd_good (c_Mo_take_V l D cB cI cJ mo m_row m_shelves m_many m_widths m_mark m_shownMark m_stack m_places m_kinds m_ats m_ends mL sp t d z_fault z_size z_shown z_wasRun wL z_ended z_hints z_hasWidth z_width z_first z_moved z_deepest xL yL (by omega) ) cal_Mo_take_V ml_Mo_155 ⟨Nat.le_of_ble_eq_true rfl, Nat.le_of_ble_eq_true rfl⟩ hZ hP hD hC 0 (ci := 8) rfl rfl rfl rfl hl.1 rfl (Nat.le_of_ble_eq_true rfl) d_Mo_waves_195 ⟨Nat.le_of_ble_eq_true rfl, Nat.le_of_ble_eq_true rfl⟩) hZ hP hD hS hC (fun w1 H locs hq hP hD hS => ?_)
                obtain ⟨t_14, rfl, hv_14⟩ := hq
                have hP : va_P D classes [(m_stack, .inl (cI, 48, .inl g_stack)), (m_mark, .inl (cI, 28000, .inl gm)), (mo, .inr (8, [.int z_fault, .int z_size, .ref m_row, .ref m_shelves, .ref m_many, .ref m_widths, .int (nI mL), .ref m_mark, .int z_shown, .ref m_shownMark, .int z_wasRun, .int wL, .int z_ended, .int (nI sp), .int z_hints, .int z_hasWidth, .int z_width, .int z_first, .int z_moved, .int z_deepest, .int xL, .int yL, .int (nI t_14), .ref m_stack, .ref m_places, .int (nI d), .ref m_kinds, .ref m_ats, .ref m_ends]))] H := hP
                have hD : va_D A_ [(m_stack, .inl (cI, 48, .inl g_stack)), (m_mark, .inl (cI, 28000, .inl gm)), (mo, .inr (8, [.int z_fault, .int z_size, .ref m_row, .ref m_shelves, .ref m_many, .ref m_widths, .int (nI mL), .ref m_mark, .int z_shown, .ref m_shownMark, .int z_wasRun, .int wL, .int z_ended, .int (nI sp), .int z_hints, .int z_hasWidth, .int z_width, .int z_first, .int z_moved, .int z_deepest, .int xL, .int yL, .int (nI t_14), .ref m_stack, .ref m_places, .int (nI d), .ref m_kinds, .ref m_ats, .ref m_ends]))] := hD
                exact t_vret hx hb hr hlk d_Mo_waves_198 (hP.subm (ws' := [(mo, .inr (8, [.int z_fault, .int z_size, .ref m_row, .ref m_shelves, .ref m_many, .ref m_widths, .int (nI mL), .ref m_mark, .int z_shown, .ref m_shownMark, .int z_wasRun, .int wL, .int z_ended, .int (nI sp), .int z_hints, .int z_hasWidth, .int z_width, .int z_first, .int z_moved, .int z_deepest, .int xL, .int yL, .int (nI t_14), .ref m_stack, .ref m_places, .int (nI d), .ref m_kinds, .ref m_ats, .ref m_ends])), (m_stack, .inl (cI, 48, .inl g_stack)), (m_mark, .inl (cI, 28000, .inl gm))]) [2, 0, 1] rfl) (hD.sub (ws' := [(mo, .inr (8, [.int z_fault, .int z_size, .ref m_row, .ref m_shelves, .ref m_many, .ref m_widths, .int (nI mL), .ref m_mark, .int z_shown, .ref m_shownMark, .int z_wasRun, .int wL, .int z_ended, .int (nI sp), .int z_hints, .int z_hasWidth, .int z_width, .int z_first, .int z_moved, .int z_deepest, .int xL, .int yL, .int (nI t_14), .ref m_stack, .ref m_places, .int (nI d), .ref m_kinds, .ref m_ats, .ref m_ends])), (m_stack, .inl (cI, 48, .inl g_stack)), (m_mark, .inl (cI, 28000, .inl gm))]) [2, 0, 1] rfl rfl) hS ⟨rfl, rfl, rfl, _, _, _, mL, t_14, _, rfl, (by omega)⟩
              · refine lv_iload_n hx hb d_Mo_waves_56 rfl (lv_at hl 3 rfl) ?_
                refine lv_iconst (v := 5) hx hb d_Mo_waves_57 (by decide) ?_
                refine lv_iadd hx hb d_Mo_waves_58 ?_
                refine lv_tv (y := nI (i + 5)) (nI_add i 5) ?_
                refine lv_aload_n hx hb d_Mo_waves_59 rfl (lv_at hl 0 rfl) ?_
                refine va_get (D := D) (ci := 8) (v := .int (nI t)) (C := R_Mo) (T := F_Mo) (N := 29) hx hb hts i_Mo hown hZ.1 hP 0 rfl rfl 22 (by decide) (hts _ fl_Mo_82) (fun _ h9 => h9) rfl d_Mo_waves_60 ?_
                refine lv_icmp_ne (tgt := 80) hx hb d_Mo_waves_63 (by decide) (fun c_63 => ?_) (fun c_63 => ?_)
                · have n_63 : ¬ (i + 5) = (t) := fun z => c_63 ((nI_eq (a := i + 5) (b := t) (by omega) (by omega)).mpr z)
                  refine lv_iconst (v := 0) hx hb d_Mo_waves_80 (by decide) ?_
                  refine lv_istore (lv' := [(4, .int 0), (0, .ref mo), (1, .int c), (2, .int (nI (t - t % 4))), (3, .int (nI i))]) hx hb d_Mo_waves_81 hl (by decide) rfl (fun ls hl => ?_)
                  refine lv_iload_n hx hb d_Mo_waves_83 rfl (lv_at hl 4 rfl) ?_
                  refine lv_bipush (v := 8) hx hb d_Mo_waves_84 (by decide) ?_
                  refine lv_irem hx hb d_Mo_waves_86 (by decide) ?_
                  refine lv_tv (y := nI (i % 8)) (pk_rem (a := i) (d := 8) (by omega) (by omega) (by omega)) ?_
                  refine lv_if_ne (tgt := 94) hx hb d_Mo_waves_87 (by decide) (fun c_87 => ?_) (fun c_87 => ?_)
                  · have n_87 : ¬ (i % 8) = (0) := fun z => c_87 ((nI_eq (a := i % 8) (b := 0) (by omega) (by omega)).mpr z)
                    refine lv_iconst (v := 0) hx hb d_Mo_waves_94 (by decide) ?_
                    refine lv_iload_n hx hb d_Mo_waves_95 rfl (lv_at hl 2 rfl) ?_
                    refine lv_icmp_ne (tgt := 103) hx hb d_Mo_waves_96 (by decide) (fun c_96 => ?_) (fun c_96 => ?_)
                    · refine lv_iconst (v := 0) hx hb d_Mo_waves_103 (by decide) ?_
                      refine lv_istore (lv' := [(5, .int 0), (4, .int 0), (0, .ref mo), (1, .int c), (2, .int (nI (t - t % 4))), (3, .int (nI i))]) hx hb d_Mo_waves_104 hl (by decide) rfl (fun ls hl => ?_)
                      refine lv_iload hx hb d_Mo_waves_106 (lv_at hl 0 rfl) ?_
                      refine lv_if_eq (tgt := 151) hx hb d_Mo_waves_108 (by decide) (fun c_108 => ?_) (fun c_108 => absurd (by decide) c_108)
                      clear c_108
                      refine lv_aload_n hx hb d_Mo_waves_151 rfl (lv_at hl 2 rfl) ?_
                      refine lv_iconst (v := 0) hx hb d_Mo_waves_152 (by decide) ?_
                      refine lv_aload_n hx hb d_Mo_waves_153 rfl (lv_at hl 2 rfl) ?_
                      refine va_get (D := D) (ci := 8) (v := .ref m_stack) (C := R_Mo) (T := F_Mo) (N := 29) hx hb hts i_Mo hown hZ.1 hP 0 rfl rfl 23 (by decide) (hts _ fl_Mo_29) (fun _ h9 => h9) rfl d_Mo_waves_154 ?_
                      refine lv_iload_n hx hb d_Mo_waves_157 rfl (lv_at hl 5 rfl) ?_
                      refine va_iald hx hb hZ.1 hP 1 1 rfl rfl (vp_in_nI (by omega) (by omega)) d_Mo_waves_158 ?_
                      refine lv_tv (y := g_stack i) (by rw [nI_clamp (by omega)]) ?_
                      refine lv_aload_n hx hb d_Mo_waves_159 rfl (lv_at hl 2 rfl) ?_
                      refine va_get (D := D) (ci := 8) (v := .ref m_stack) (C := R_Mo) (T := F_Mo) (N := 29) hx hb hts i_Mo hown hZ.1 hP 0 rfl rfl 23 (by decide) (hts _ fl_Mo_29) (fun _ h9 => h9) rfl d_Mo_waves_160 ?_
                      refine lv_iload_n hx hb d_Mo_waves_163 rfl (lv_at hl 5 rfl) ?_
                      refine lv_iconst (v := 1) hx hb d_Mo_waves_164 (by decide) ?_
                      refine lv_iadd hx hb d_Mo_waves_165 ?_
                      refine lv_tv (y := nI (i + 1)) (nI_add i 1) ?_
                      refine va_iald hx hb hZ.1 hP 1 1 rfl rfl (vp_in_nI (by omega) (by omega)) d_Mo_waves_166 ?_
                      refine lv_tv (y := g_stack (i + 1)) (by rw [nI_clamp (by omega)]) ?_
                      refine lv_aload_n hx hb d_Mo_waves_167 rfl (lv_at hl 2 rfl) ?_
                      refine va_get (D := D) (ci := 8) (v := .ref m_stack) (C := R_Mo) (T := F_Mo) (N := 29) hx hb hts i_Mo hown hZ.1 hP 0 rfl rfl 23 (by decide) (hts _ fl_Mo_29) (fun _ h9 => h9) rfl d_Mo_waves_168 ?_
                      refine lv_iload_n hx hb d_Mo_waves_171 rfl (lv_at hl 5 rfl) ?_
                      refine lv_iconst (v := 2) hx hb d_Mo_waves_172 (by decide) ?_
                      refine lv_iadd hx hb d_Mo_waves_173 ?_
                      refine lv_tv (y := nI (i + 2)) (nI_add i 2) ?_
                      refine va_iald hx hb hZ.1 hP 1 1 rfl rfl (vp_in_nI (by omega) (by omega)) d_Mo_waves_174 ?_
                      refine lv_tv (y := g_stack (i + 2)) (by rw [nI_clamp (by omega)]) ?_
                      refine lv_aload_n hx hb d_Mo_waves_175 rfl (lv_at hl 2 rfl) ?_
                      refine va_get (D := D) (ci := 8) (v := .ref m_stack) (C := R_Mo) (T := F_Mo) (N := 29) hx hb hts i_Mo hown hZ.1 hP 0 rfl rfl 23 (by decide) (hts _ fl_Mo_29) (fun _ h9 => h9) rfl d_Mo_waves_176 ?_
                      refine lv_iload_n hx hb d_Mo_waves_179 rfl (lv_at hl 5 rfl) ?_
                      refine lv_iconst (v := 3) hx hb d_Mo_waves_180 (by decide) ?_
                      refine lv_iadd hx hb d_Mo_waves_181 ?_
                      refine lv_tv (y := nI (i + 3)) (nI_add i 3) ?_
                      refine va_iald hx hb hZ.1 hP 1 1 rfl rfl (vp_in_nI (by omega) (by omega)) d_Mo_waves_182 ?_
                      refine lv_tv (y := g_stack (i + 3)) (by rw [nI_clamp (by omega)]) ?_
                      refine lv_iload hx hb d_Mo_waves_183 (lv_at hl 1 rfl) ?_
                      have hC : Cut [(mo, .inr (8, [.int z_fault, .int z_size, .ref m_row, .ref m_shelves, .ref m_many, .ref m_widths, .int (nI mL), .ref m_mark, .int z_shown, .ref m_shownMark, .int z_wasRun, .int wL, .int z_ended, .int (nI sp), .int z_hints, .int z_hasWidth, .int z_width, .int z_first, .int z_moved, .int z_deepest, .int xL, .int yL, .int (nI t), .ref m_stack, .ref m_places, .int (nI d), .ref m_kinds, .ref m_ats, .ref m_ends])), (m_stack, .inl (cI, 48, .inl g_stack)), (m_mark, .inl (cI, 28000, .inl gm))] [(mo, .inr (8, [.int z_fault, .int z_size, .ref m_row, .ref m_shelves, .ref m_many, .ref m_widths, .int (nI mL), .ref m_mark, .int z_shown, .ref m_shownMark, .int z_wasRun, .int wL, .int z_ended, .int (nI sp), .int z_hints, .int z_hasWidth, .int z_width, .int z_first, .int z_moved, .int z_deepest, .int xL, .int yL, .int (nI t), .ref m_stack, .ref m_places, .int (nI d), .ref m_kinds, .ref m_ats, .ref m_ends])), (m_mark, .inl (cI, 28000, .inl gm))] [(m_stack, .inl (cI, 48, .inl g_stack))] [0, 2] [1] := ⟨rfl, rfl, rfl, rfl, by decide⟩
                      refine goV0 (trV (As := [.int 0, .int (g_stack i), .int (g_stack (i + 1)), .int (g_stack (i + 2)), .int (g_stack (i + 3)), .int 0]) (rest := []) ⟨hx, hb, hml, hown, hts⟩ gd_good (c_Mo_curve l D cB cI cJ mo m_row m_shelves m_many m_widths m_mark m_shownMark m_stack m_places m_kinds m_ats m_ends mL sp t d z_fault z_size z_shown z_wasRun wL z_ended z_hints z_hasWidth z_width z_first z_moved z_deepest xL yL gm 0 (g_stack i) (g_stack (i + 1)) (g_stack (i + 2)) (g_stack (i + 3)) 0 (by omega) ) cal_Mo_curve ml_Mo_158 ⟨Nat.le_of_ble_eq_true rfl, Nat.le_of_ble_eq_true rfl⟩ hZ hP hD hC 0 (ci := 8) rfl rfl rfl rfl hl.1 rfl (Nat.le_of_ble_eq_true rfl) d_Mo_waves_185 ⟨Nat.le_of_ble_eq_true rfl, Nat.le_of_ble_eq_true rfl⟩) hZ hP hD hS hC (fun w1 H locs hq hP hD hS => ?_)
                      obtain ⟨z_x_15, z_y_15, z_wrong_15, mk_15, g_mark_15, rfl, hv_15⟩ := hq
                      have hP : va_P D classes [(m_stack, .inl (cI, 48, .inl g_stack)), (mo, .inr (8, [.int z_fault, .int z_size, .ref m_row, .ref m_shelves, .ref m_many, .ref m_widths, .int (nI mk_15), .ref m_mark, .int z_shown, .ref m_shownMark, .int z_wasRun, .int z_wrong_15, .int z_ended, .int (nI sp), .int z_hints, .int z_hasWidth, .int z_width, .int z_first, .int z_moved, .int z_deepest, .int z_x_15, .int z_y_15, .int (nI t), .ref m_stack, .ref m_places, .int (nI d), .ref m_kinds, .ref m_ats, .ref m_ends])), (m_mark, .inl (cI, 28000, .inl g_mark_15))] H := hP
                      have hD : va_D A_ [(m_stack, .inl (cI, 48, .inl g_stack)), (mo, .inr (8, [.int z_fault, .int z_size, .ref m_row, .ref m_shelves, .ref m_many, .ref m_widths, .int (nI mk_15), .ref m_mark, .int z_shown, .ref m_shownMark, .int z_wasRun, .int z_wrong_15, .int z_ended, .int (nI sp), .int z_hints, .int z_hasWidth, .int z_width, .int z_first, .int z_moved, .int z_deepest, .int z_x_15, .int z_y_15, .int (nI t), .ref m_stack, .ref m_places, .int (nI d), .ref m_kinds, .ref m_ats, .ref m_ends])), (m_mark, .inl (cI, 28000, .inl g_mark_15))] := hD
                      refine lv_iinc (v := nI (i + 4)) (lv' := [(3, .int (nI (i + 4))), (5, .int 0), (4, .int 0), (0, .ref mo), (1, .int c), (2, .int (nI (t - t % 4)))]) hx hb d_Mo_waves_188 hl (k := 5) rfl (nI_add i 4) (by decide) rfl (fun ls hl => ?_)
                      refine lv_goto (tgt := 44) hx hb d_Mo_waves_191 (by decide) ?_
                      exact ih_44  (i + 4) z_x_15 z_y_15 z_wrong_15 mk_15 g_mark_15 _ _ _ ⟨by omega, by omega, by omega⟩ (by omega) (hP.subm [1, 0, 2] rfl) (hD.sub [1, 0, 2] rfl rfl) hS (lv_sub hl [3, 4, 5, 0] rfl)
                    · refine lv_iconst (v := 1) hx hb d_Mo_waves_99 (by decide) ?_
                      refine lv_goto (tgt := 104) hx hb d_Mo_waves_100 (by decide) ?_
                      refine lv_istore (lv' := [(5, .int 1), (4, .int 0), (0, .ref mo), (1, .int c), (2, .int (nI (t - t % 4))), (3, .int (nI i))]) hx hb d_Mo_waves_104 hl (by decide) rfl (fun ls hl => ?_)
                      refine lv_iload hx hb d_Mo_waves_106 (lv_at hl 0 rfl) ?_
                      refine lv_if_eq (tgt := 151) hx hb d_Mo_waves_108 (by decide) (fun c_108 => absurd c_108 (by decide)) (fun c_108 => ?_)
                      clear c_108
                      refine lv_aload_n hx hb d_Mo_waves_111 rfl (lv_at hl 2 rfl) ?_
                      refine lv_aload_n hx hb d_Mo_waves_112 rfl (lv_at hl 2 rfl) ?_
                      refine va_get (D := D) (ci := 8) (v := .ref m_stack) (C := R_Mo) (T := F_Mo) (N := 29) hx hb hts i_Mo hown hZ.1 hP 0 rfl rfl 23 (by decide) (hts _ fl_Mo_29) (fun _ h9 => h9) rfl d_Mo_waves_113 ?_
                      refine lv_iload_n hx hb d_Mo_waves_116 rfl (lv_at hl 5 rfl) ?_
                      refine va_iald hx hb hZ.1 hP 1 1 rfl rfl (vp_in_nI (by omega) (by omega)) d_Mo_waves_117 ?_
                      refine lv_tv (y := g_stack i) (by rw [nI_clamp (by omega)]) ?_
                      refine lv_iconst (v := 0) hx hb d_Mo_waves_118 (by decide) ?_
                      refine lv_aload_n hx hb d_Mo_waves_119 rfl (lv_at hl 2 rfl) ?_
                      refine va_get (D := D) (ci := 8) (v := .ref m_stack) (C := R_Mo) (T := F_Mo) (N := 29) hx hb hts i_Mo hown hZ.1 hP 0 rfl rfl 23 (by decide) (hts _ fl_Mo_29) (fun _ h9 => h9) rfl d_Mo_waves_120 ?_
                      refine lv_iload_n hx hb d_Mo_waves_123 rfl (lv_at hl 5 rfl) ?_
                      refine lv_iconst (v := 1) hx hb d_Mo_waves_124 (by decide) ?_
                      refine lv_iadd hx hb d_Mo_waves_125 ?_
                      refine lv_tv (y := nI (i + 1)) (nI_add i 1) ?_
                      refine va_iald hx hb hZ.1 hP 1 1 rfl rfl (vp_in_nI (by omega) (by omega)) d_Mo_waves_126 ?_
                      refine lv_tv (y := g_stack (i + 1)) (by rw [nI_clamp (by omega)]) ?_
                      refine lv_aload_n hx hb d_Mo_waves_127 rfl (lv_at hl 2 rfl) ?_
                      refine va_get (D := D) (ci := 8) (v := .ref m_stack) (C := R_Mo) (T := F_Mo) (N := 29) hx hb hts i_Mo hown hZ.1 hP 0 rfl rfl 23 (by decide) (hts _ fl_Mo_29) (fun _ h9 => h9) rfl d_Mo_waves_128 ?_
                      refine lv_iload_n hx hb d_Mo_waves_131 rfl (lv_at hl 5 rfl) ?_
                      refine lv_iconst (v := 2) hx hb d_Mo_waves_132 (by decide) ?_
                      refine lv_iadd hx hb d_Mo_waves_133 ?_
                      refine lv_tv (y := nI (i + 2)) (nI_add i 2) ?_
                      refine va_iald hx hb hZ.1 hP 1 1 rfl rfl (vp_in_nI (by omega) (by omega)) d_Mo_waves_134 ?_
                      refine lv_tv (y := g_stack (i + 2)) (by rw [nI_clamp (by omega)]) ?_
                      refine lv_iload hx hb d_Mo_waves_135 (lv_at hl 1 rfl) ?_
                      refine lv_aload_n hx hb d_Mo_waves_137 rfl (lv_at hl 2 rfl) ?_
                      refine va_get (D := D) (ci := 8) (v := .ref m_stack) (C := R_Mo) (T := F_Mo) (N := 29) hx hb hts i_Mo hown hZ.1 hP 0 rfl rfl 23 (by decide) (hts _ fl_Mo_29) (fun _ h9 => h9) rfl d_Mo_waves_138 ?_
                      refine lv_iload_n hx hb d_Mo_waves_141 rfl (lv_at hl 5 rfl) ?_
                      refine lv_iconst (v := 3) hx hb d_Mo_waves_142 (by decide) ?_
                      refine lv_iadd hx hb d_Mo_waves_143 ?_
                      refine lv_tv (y := nI (i + 3)) (nI_add i 3) ?_
                      refine va_iald hx hb hZ.1 hP 1 1 rfl rfl (vp_in_nI (by omega) (by omega)) d_Mo_waves_144 ?_
                      refine lv_tv (y := g_stack (i + 3)) (by rw [nI_clamp (by omega)]) ?_
                      have hC : Cut [(mo, .inr (8, [.int z_fault, .int z_size, .ref m_row, .ref m_shelves, .ref m_many, .ref m_widths, .int (nI mL), .ref m_mark, .int z_shown, .ref m_shownMark, .int z_wasRun, .int wL, .int z_ended, .int (nI sp), .int z_hints, .int z_hasWidth, .int z_width, .int z_first, .int z_moved, .int z_deepest, .int xL, .int yL, .int (nI t), .ref m_stack, .ref m_places, .int (nI d), .ref m_kinds, .ref m_ats, .ref m_ends])), (m_stack, .inl (cI, 48, .inl g_stack)), (m_mark, .inl (cI, 28000, .inl gm))] [(mo, .inr (8, [.int z_fault, .int z_size, .ref m_row, .ref m_shelves, .ref m_many, .ref m_widths, .int (nI mL), .ref m_mark, .int z_shown, .ref m_shownMark, .int z_wasRun, .int wL, .int z_ended, .int (nI sp), .int z_hints, .int z_hasWidth, .int z_width, .int z_first, .int z_moved, .int z_deepest, .int xL, .int yL, .int (nI t), .ref m_stack, .ref m_places, .int (nI d), .ref m_kinds, .ref m_ats, .ref m_ends])), (m_mark, .inl (cI, 28000, .inl gm))] [(m_stack, .inl (cI, 48, .inl g_stack))] [0, 2] [1] := ⟨rfl, rfl, rfl, rfl, by decide⟩
                      refine goV0 (trV (As := [.int (g_stack i), .int 0, .int (g_stack (i + 1)), .int (g_stack (i + 2)), .int 0, .int (g_stack (i + 3))]) (rest := []) ⟨hx, hb, hml, hown, hts⟩ gd_good (c_Mo_curve l D cB cI cJ mo m_row m_shelves m_many m_widths m_mark m_shownMark m_stack m_places m_kinds m_ats m_ends mL sp t d z_fault z_size z_shown z_wasRun wL z_ended z_hints z_hasWidth z_width z_first z_moved z_deepest xL yL gm (g_stack i) 0 (g_stack (i + 1)) (g_stack (i + 2)) 0 (g_stack (i + 3)) (by omega) ) cal_Mo_curve ml_Mo_158 ⟨Nat.le_of_ble_eq_true rfl, Nat.le_of_ble_eq_true rfl⟩ hZ hP hD hC 0 (ci := 8) rfl rfl rfl rfl hl.1 rfl (Nat.le_of_ble_eq_true rfl) d_Mo_waves_145 ⟨Nat.le_of_ble_eq_true rfl, Nat.le_of_ble_eq_true rfl⟩) hZ hP hD hS hC (fun w1 H locs hq hP hD hS => ?_)
                      obtain ⟨z_x_16, z_y_16, z_wrong_16, mk_16, g_mark_16, rfl, hv_16⟩ := hq
                      have hP : va_P D classes [(m_stack, .inl (cI, 48, .inl g_stack)), (mo, .inr (8, [.int z_fault, .int z_size, .ref m_row, .ref m_shelves, .ref m_many, .ref m_widths, .int (nI mk_16), .ref m_mark, .int z_shown, .ref m_shownMark, .int z_wasRun, .int z_wrong_16, .int z_ended, .int (nI sp), .int z_hints, .int z_hasWidth, .int z_width, .int z_first, .int z_moved, .int z_deepest, .int z_x_16, .int z_y_16, .int (nI t), .ref m_stack, .ref m_places, .int (nI d), .ref m_kinds, .ref m_ats, .ref m_ends])), (m_mark, .inl (cI, 28000, .inl g_mark_16))] H := hP
                      have hD : va_D A_ [(m_stack, .inl (cI, 48, .inl g_stack)), (mo, .inr (8, [.int z_fault, .int z_size, .ref m_row, .ref m_shelves, .ref m_many, .ref m_widths, .int (nI mk_16), .ref m_mark, .int z_shown, .ref m_shownMark, .int z_wasRun, .int z_wrong_16, .int z_ended, .int (nI sp), .int z_hints, .int z_hasWidth, .int z_width, .int z_first, .int z_moved, .int z_deepest, .int z_x_16, .int z_y_16, .int (nI t), .ref m_stack, .ref m_places, .int (nI d), .ref m_kinds, .ref m_ats, .ref m_ends])), (m_mark, .inl (cI, 28000, .inl g_mark_16))] := hD
                      refine lv_goto (tgt := 188) hx hb d_Mo_waves_148 (by decide) ?_
                      refine lv_iinc (v := nI (i + 4)) (lv' := [(3, .int (nI (i + 4))), (5, .int 1), (4, .int 0), (0, .ref mo), (1, .int c), (2, .int (nI (t - t % 4)))]) hx hb d_Mo_waves_188 hl (k := 5) rfl (nI_add i 4) (by decide) rfl (fun ls hl => ?_)
                      refine lv_goto (tgt := 44) hx hb d_Mo_waves_191 (by decide) ?_
                      exact ih_44  (i + 4) z_x_16 z_y_16 z_wrong_16 mk_16 g_mark_16 _ _ _ ⟨by omega, by omega, by omega⟩ (by omega) (hP.subm [1, 0, 2] rfl) (hD.sub [1, 0, 2] rfl rfl) hS (lv_sub hl [3, 4, 5, 0] rfl)
                  · have n_87 : (i % 8) = (0) := (nI_eq (a := i % 8) (b := 0) (by omega) (by omega)).mp c_87
                    refine lv_iconst (v := 1) hx hb d_Mo_waves_90 (by decide) ?_
                    refine lv_goto (tgt := 95) hx hb d_Mo_waves_91 (by decide) ?_
                    refine lv_iload_n hx hb d_Mo_waves_95 rfl (lv_at hl 2 rfl) ?_
                    refine lv_icmp_ne (tgt := 103) hx hb d_Mo_waves_96 (by decide) (fun c_96 => ?_) (fun c_96 => ?_)
                    · refine lv_iconst (v := 0) hx hb d_Mo_waves_103 (by decide) ?_
                      refine lv_istore (lv' := [(5, .int 0), (4, .int 0), (0, .ref mo), (1, .int c), (2, .int (nI (t - t % 4))), (3, .int (nI i))]) hx hb d_Mo_waves_104 hl (by decide) rfl (fun ls hl => ?_)
                      refine lv_iload hx hb d_Mo_waves_106 (lv_at hl 0 rfl) ?_
                      refine lv_if_eq (tgt := 151) hx hb d_Mo_waves_108 (by decide) (fun c_108 => ?_) (fun c_108 => absurd (by decide) c_108)
                      clear c_108
                      refine lv_aload_n hx hb d_Mo_waves_151 rfl (lv_at hl 2 rfl) ?_
                      refine lv_iconst (v := 0) hx hb d_Mo_waves_152 (by decide) ?_
                      refine lv_aload_n hx hb d_Mo_waves_153 rfl (lv_at hl 2 rfl) ?_
                      refine va_get (D := D) (ci := 8) (v := .ref m_stack) (C := R_Mo) (T := F_Mo) (N := 29) hx hb hts i_Mo hown hZ.1 hP 0 rfl rfl 23 (by decide) (hts _ fl_Mo_29) (fun _ h9 => h9) rfl d_Mo_waves_154 ?_
                      refine lv_iload_n hx hb d_Mo_waves_157 rfl (lv_at hl 5 rfl) ?_
                      refine va_iald hx hb hZ.1 hP 1 1 rfl rfl (vp_in_nI (by omega) (by omega)) d_Mo_waves_158 ?_
                      refine lv_tv (y := g_stack i) (by rw [nI_clamp (by omega)]) ?_
                      refine lv_aload_n hx hb d_Mo_waves_159 rfl (lv_at hl 2 rfl) ?_
                      refine va_get (D := D) (ci := 8) (v := .ref m_stack) (C := R_Mo) (T := F_Mo) (N := 29) hx hb hts i_Mo hown hZ.1 hP 0 rfl rfl 23 (by decide) (hts _ fl_Mo_29) (fun _ h9 => h9) rfl d_Mo_waves_160 ?_
                      refine lv_iload_n hx hb d_Mo_waves_163 rfl (lv_at hl 5 rfl) ?_
                      refine lv_iconst (v := 1) hx hb d_Mo_waves_164 (by decide) ?_
                      refine lv_iadd hx hb d_Mo_waves_165 ?_
                      refine lv_tv (y := nI (i + 1)) (nI_add i 1) ?_
                      refine va_iald hx hb hZ.1 hP 1 1 rfl rfl (vp_in_nI (by omega) (by omega)) d_Mo_waves_166 ?_
                      refine lv_tv (y := g_stack (i + 1)) (by rw [nI_clamp (by omega)]) ?_
                      refine lv_aload_n hx hb d_Mo_waves_167 rfl (lv_at hl 2 rfl) ?_
                      refine va_get (D := D) (ci := 8) (v := .ref m_stack) (C := R_Mo) (T := F_Mo) (N := 29) hx hb hts i_Mo hown hZ.1 hP 0 rfl rfl 23 (by decide) (hts _ fl_Mo_29) (fun _ h9 => h9) rfl d_Mo_waves_168 ?_
                      refine lv_iload_n hx hb d_Mo_waves_171 rfl (lv_at hl 5 rfl) ?_
                      refine lv_iconst (v := 2) hx hb d_Mo_waves_172 (by decide) ?_
                      refine lv_iadd hx hb d_Mo_waves_173 ?_
                      refine lv_tv (y := nI (i + 2)) (nI_add i 2) ?_
                      refine va_iald hx hb hZ.1 hP 1 1 rfl rfl (vp_in_nI (by omega) (by omega)) d_Mo_waves_174 ?_
                      refine lv_tv (y := g_stack (i + 2)) (by rw [nI_clamp (by omega)]) ?_
                      refine lv_aload_n hx hb d_Mo_waves_175 rfl (lv_at hl 2 rfl) ?_
                      refine va_get (D := D) (ci := 8) (v := .ref m_stack) (C := R_Mo) (T := F_Mo) (N := 29) hx hb hts i_Mo hown hZ.1 hP 0 rfl rfl 23 (by decide) (hts _ fl_Mo_29) (fun _ h9 => h9) rfl d_Mo_waves_176 ?_
                      refine lv_iload_n hx hb d_Mo_waves_179 rfl (lv_at hl 5 rfl) ?_
                      refine lv_iconst (v := 3) hx hb d_Mo_waves_180 (by decide) ?_
                      refine lv_iadd hx hb d_Mo_waves_181 ?_
                      refine lv_tv (y := nI (i + 3)) (nI_add i 3) ?_
                      refine va_iald hx hb hZ.1 hP 1 1 rfl rfl (vp_in_nI (by omega) (by omega)) d_Mo_waves_182 ?_
                      refine lv_tv (y := g_stack (i + 3)) (by rw [nI_clamp (by omega)]) ?_
                      refine lv_iload hx hb d_Mo_waves_183 (lv_at hl 1 rfl) ?_
                      have hC : Cut [(mo, .inr (8, [.int z_fault, .int z_size, .ref m_row, .ref m_shelves, .ref m_many, .ref m_widths, .int (nI mL), .ref m_mark, .int z_shown, .ref m_shownMark, .int z_wasRun, .int wL, .int z_ended, .int (nI sp), .int z_hints, .int z_hasWidth, .int z_width, .int z_first, .int z_moved, .int z_deepest, .int xL, .int yL, .int (nI t), .ref m_stack, .ref m_places, .int (nI d), .ref m_kinds, .ref m_ats, .ref m_ends])), (m_stack, .inl (cI, 48, .inl g_stack)), (m_mark, .inl (cI, 28000, .inl gm))] [(mo, .inr (8, [.int z_fault, .int z_size, .ref m_row, .ref m_shelves, .ref m_many, .ref m_widths, .int (nI mL), .ref m_mark, .int z_shown, .ref m_shownMark, .int z_wasRun, .int wL, .int z_ended, .int (nI sp), .int z_hints, .int z_hasWidth, .int z_width, .int z_first, .int z_moved, .int z_deepest, .int xL, .int yL, .int (nI t), .ref m_stack, .ref m_places, .int (nI d), .ref m_kinds, .ref m_ats, .ref m_ends])), (m_mark, .inl (cI, 28000, .inl gm))] [(m_stack, .inl (cI, 48, .inl g_stack))] [0, 2] [1] := ⟨rfl, rfl, rfl, rfl, by decide⟩
                      refine goV0 (trV (As := [.int 0, .int (g_stack i), .int (g_stack (i + 1)), .int (g_stack (i + 2)), .int (g_stack (i + 3)), .int 0]) (rest := []) ⟨hx, hb, hml, hown, hts⟩ gd_good (c_Mo_curve l D cB cI cJ mo m_row m_shelves m_many m_widths m_mark m_shownMark m_stack m_places m_kinds m_ats m_ends mL sp t d z_fault z_size z_shown z_wasRun wL z_ended z_hints z_hasWidth z_width z_first z_moved z_deepest xL yL gm 0 (g_stack i) (g_stack (i + 1)) (g_stack (i + 2)) (g_stack (i + 3)) 0 (by omega) ) cal_Mo_curve ml_Mo_158 ⟨Nat.le_of_ble_eq_true rfl, Nat.le_of_ble_eq_true rfl⟩ hZ hP hD hC 0 (ci := 8) rfl rfl rfl rfl hl.1 rfl (Nat.le_of_ble_eq_true rfl) d_Mo_waves_185 ⟨Nat.le_of_ble_eq_true rfl, Nat.le_of_ble_eq_true rfl⟩) hZ hP hD hS hC (fun w1 H locs hq hP hD hS => ?_)
                      obtain ⟨z_x_17, z_y_17, z_wrong_17, mk_17, g_mark_17, rfl, hv_17⟩ := hq
                      have hP : va_P D classes [(m_stack, .inl (cI, 48, .inl g_stack)), (mo, .inr (8, [.int z_fault, .int z_size, .ref m_row, .ref m_shelves, .ref m_many, .ref m_widths, .int (nI mk_17), .ref m_mark, .int z_shown, .ref m_shownMark, .int z_wasRun, .int z_wrong_17, .int z_ended, .int (nI sp), .int z_hints, .int z_hasWidth, .int z_width, .int z_first, .int z_moved, .int z_deepest, .int z_x_17, .int z_y_17, .int (nI t), .ref m_stack, .ref m_places, .int (nI d), .ref m_kinds, .ref m_ats, .ref m_ends])), (m_mark, .inl (cI, 28000, .inl g_mark_17))] H := hP
                      have hD : va_D A_ [(m_stack, .inl (cI, 48, .inl g_stack)), (mo, .inr (8, [.int z_fault, .int z_size, .ref m_row, .ref m_shelves, .ref m_many, .ref m_widths, .int (nI mk_17), .ref m_mark, .int z_shown, .ref m_shownMark, .int z_wasRun, .int z_wrong_17, .int z_ended, .int (nI sp), .int z_hints, .int z_hasWidth, .int z_width, .int z_first, .int z_moved, .int z_deepest, .int z_x_17, .int z_y_17, .int (nI t), .ref m_stack, .ref m_places, .int (nI d), .ref m_kinds, .ref m_ats, .ref m_ends])), (m_mark, .inl (cI, 28000, .inl g_mark_17))] := hD
                      refine lv_iinc (v := nI (i + 4)) (lv' := [(3, .int (nI (i + 4))), (5, .int 0), (4, .int 0), (0, .ref mo), (1, .int c), (2, .int (nI (t - t % 4)))]) hx hb d_Mo_waves_188 hl (k := 5) rfl (nI_add i 4) (by decide) rfl (fun ls hl => ?_)
                      refine lv_goto (tgt := 44) hx hb d_Mo_waves_191 (by decide) ?_
                      exact ih_44  (i + 4) z_x_17 z_y_17 z_wrong_17 mk_17 g_mark_17 _ _ _ ⟨by omega, by omega, by omega⟩ (by omega) (hP.subm [1, 0, 2] rfl) (hD.sub [1, 0, 2] rfl rfl) hS (lv_sub hl [3, 4, 5, 0] rfl)
                    · refine lv_iconst (v := 1) hx hb d_Mo_waves_99 (by decide) ?_
                      refine lv_goto (tgt := 104) hx hb d_Mo_waves_100 (by decide) ?_
                      refine lv_istore (lv' := [(5, .int 1), (4, .int 0), (0, .ref mo), (1, .int c), (2, .int (nI (t - t % 4))), (3, .int (nI i))]) hx hb d_Mo_waves_104 hl (by decide) rfl (fun ls hl => ?_)
                      refine lv_iload hx hb d_Mo_waves_106 (lv_at hl 0 rfl) ?_
                      refine lv_if_eq (tgt := 151) hx hb d_Mo_waves_108 (by decide) (fun c_108 => absurd c_108 (by decide)) (fun c_108 => ?_)
                      clear c_108
                      refine lv_aload_n hx hb d_Mo_waves_111 rfl (lv_at hl 2 rfl) ?_
                      refine lv_aload_n hx hb d_Mo_waves_112 rfl (lv_at hl 2 rfl) ?_
                      refine va_get (D := D) (ci := 8) (v := .ref m_stack) (C := R_Mo) (T := F_Mo) (N := 29) hx hb hts i_Mo hown hZ.1 hP 0 rfl rfl 23 (by decide) (hts _ fl_Mo_29) (fun _ h9 => h9) rfl d_Mo_waves_113 ?_
                      refine lv_iload_n hx hb d_Mo_waves_116 rfl (lv_at hl 5 rfl) ?_
                      refine va_iald hx hb hZ.1 hP 1 1 rfl rfl (vp_in_nI (by omega) (by omega)) d_Mo_waves_117 ?_
                      refine lv_tv (y := g_stack i) (by rw [nI_clamp (by omega)]) ?_
                      refine lv_iconst (v := 0) hx hb d_Mo_waves_118 (by decide) ?_
                      refine lv_aload_n hx hb d_Mo_waves_119 rfl (lv_at hl 2 rfl) ?_
                      refine va_get (D := D) (ci := 8) (v := .ref m_stack) (C := R_Mo) (T := F_Mo) (N := 29) hx hb hts i_Mo hown hZ.1 hP 0 rfl rfl 23 (by decide) (hts _ fl_Mo_29) (fun _ h9 => h9) rfl d_Mo_waves_120 ?_
                      refine lv_iload_n hx hb d_Mo_waves_123 rfl (lv_at hl 5 rfl) ?_
                      refine lv_iconst (v := 1) hx hb d_Mo_waves_124 (by decide) ?_
                      refine lv_iadd hx hb d_Mo_waves_125 ?_
                      refine lv_tv (y := nI (i + 1)) (nI_add i 1) ?_
                      refine va_iald hx hb hZ.1 hP 1 1 rfl rfl (vp_in_nI (by omega) (by omega)) d_Mo_waves_126 ?_
                      refine lv_tv (y := g_stack (i + 1)) (by rw [nI_clamp (by omega)]) ?_
                      refine lv_aload_n hx hb d_Mo_waves_127 rfl (lv_at hl 2 rfl) ?_
                      refine va_get (D := D) (ci := 8) (v := .ref m_stack) (C := R_Mo) (T := F_Mo) (N := 29) hx hb hts i_Mo hown hZ.1 hP 0 rfl rfl 23 (by decide) (hts _ fl_Mo_29) (fun _ h9 => h9) rfl d_Mo_waves_128 ?_
                      refine lv_iload_n hx hb d_Mo_waves_131 rfl (lv_at hl 5 rfl) ?_
                      refine lv_iconst (v := 2) hx hb d_Mo_waves_132 (by decide) ?_
                      refine lv_iadd hx hb d_Mo_waves_133 ?_
                      refine lv_tv (y := nI (i + 2)) (nI_add i 2) ?_
                      refine va_iald hx hb hZ.1 hP 1 1 rfl rfl (vp_in_nI (by omega) (by omega)) d_Mo_waves_134 ?_
                      refine lv_tv (y := g_stack (i + 2)) (by rw [nI_clamp (by omega)]) ?_
                      refine lv_iload hx hb d_Mo_waves_135 (lv_at hl 1 rfl) ?_
                      refine lv_aload_n hx hb d_Mo_waves_137 rfl (lv_at hl 2 rfl) ?_
                      refine va_get (D := D) (ci := 8) (v := .ref m_stack) (C := R_Mo) (T := F_Mo) (N := 29) hx hb hts i_Mo hown hZ.1 hP 0 rfl rfl 23 (by decide) (hts _ fl_Mo_29) (fun _ h9 => h9) rfl d_Mo_waves_138 ?_
                      refine lv_iload_n hx hb d_Mo_waves_141 rfl (lv_at hl 5 rfl) ?_
                      refine lv_iconst (v := 3) hx hb d_Mo_waves_142 (by decide) ?_
                      refine lv_iadd hx hb d_Mo_waves_143 ?_
                      refine lv_tv (y := nI (i + 3)) (nI_add i 3) ?_
                      refine va_iald hx hb hZ.1 hP 1 1 rfl rfl (vp_in_nI (by omega) (by omega)) d_Mo_waves_144 ?_
                      refine lv_tv (y := g_stack (i + 3)) (by rw [nI_clamp (by omega)]) ?_
                      have hC : Cut [(mo, .inr (8, [.int z_fault, .int z_size, .ref m_row, .ref m_shelves, .ref m_many, .ref m_widths, .int (nI mL), .ref m_mark, .int z_shown, .ref m_shownMark, .int z_wasRun, .int wL, .int z_ended, .int (nI sp), .int z_hints, .int z_hasWidth, .int z_width, .int z_first, .int z_moved, .int z_deepest, .int xL, .int yL, .int (nI t), .ref m_stack, .ref m_places, .int (nI d), .ref m_kinds, .ref m_ats, .ref m_ends])), (m_stack, .inl (cI, 48, .inl g_stack)), (m_mark, .inl (cI, 28000, .inl gm))] [(mo, .inr (8, [.int z_fault, .int z_size, .ref m_row, .ref m_shelves, .ref m_many, .ref m_widths, .int (nI mL), .ref m_mark, .int z_shown, .ref m_shownMark, .int z_wasRun, .int wL, .int z_ended, .int (nI sp), .int z_hints, .int z_hasWidth, .int z_width, .int z_first, .int z_moved, .int z_deepest, .int xL, .int yL, .int (nI t), .ref m_stack, .ref m_places, .int (nI d), .ref m_kinds, .ref m_ats, .ref m_ends])), (m_mark, .inl (cI, 28000, .inl gm))] [(m_stack, .inl (cI, 48, .inl g_stack))] [0, 2] [1] := ⟨rfl, rfl, rfl, rfl, by decide⟩
                      refine goV0 (trV (As := [.int (g_stack i), .int 0, .int (g_stack (i + 1)), .int (g_stack (i + 2)), .int 0, .int (g_stack (i + 3))]) (rest := []) ⟨hx, hb, hml, hown, hts⟩ gd_good (c_Mo_curve l D cB cI cJ mo m_row m_shelves m_many m_widths m_mark m_shownMark m_stack m_places m_kinds m_ats m_ends mL sp t d z_fault z_size z_shown z_wasRun wL z_ended z_hints z_hasWidth z_width z_first z_moved z_deepest xL yL gm (g_stack i) 0 (g_stack (i + 1)) (g_stack (i + 2)) 0 (g_stack (i + 3)) (by omega) ) cal_Mo_curve ml_Mo_158 ⟨Nat.le_of_ble_eq_true rfl, Nat.le_of_ble_eq_true rfl⟩ hZ hP hD hC 0 (ci := 8) rfl rfl rfl rfl hl.1 rfl (Nat.le_of_ble_eq_true rfl) d_Mo_waves_145 ⟨Nat.le_of_ble_eq_true rfl, Nat.le_of_ble_eq_true rfl⟩) hZ hP hD hS hC (fun w1 H locs hq hP hD hS => ?_)
                      obtain ⟨z_x_18, z_y_18, z_wrong_18, mk_18, g_mark_18, rfl, hv_18⟩ := hq
                      have hP : va_P D classes [(m_stack, .inl (cI, 48, .inl g_stack)), (mo, .inr (8, [.int z_fault, .int z_size, .ref m_row, .ref m_shelves, .ref m_many, .ref m_widths, .int (nI mk_18), .ref m_mark, .int z_shown, .ref m_shownMark, .int z_wasRun, .int z_wrong_18, .int z_ended, .int (nI sp), .int z_hints, .int z_hasWidth, .int z_width, .int z_first, .int z_moved, .int z_deepest, .int z_x_18, .int z_y_18, .int (nI t), .ref m_stack, .ref m_places, .int (nI d), .ref m_kinds, .ref m_ats, .ref m_ends])), (m_mark, .inl (cI, 28000, .inl g_mark_18))] H := hP
                      have hD : va_D A_ [(m_stack, .inl (cI, 48, .inl g_stack)), (mo, .inr (8, [.int z_fault, .int z_size, .ref m_row, .ref m_shelves, .ref m_many, .ref m_widths, .int (nI mk_18), .ref m_mark, .int z_shown, .ref m_shownMark, .int z_wasRun, .int z_wrong_18, .int z_ended, .int (nI sp), .int z_hints, .int z_hasWidth, .int z_width, .int z_first, .int z_moved, .int z_deepest, .int z_x_18, .int z_y_18, .int (nI t), .ref m_stack, .ref m_places, .int (nI d), .ref m_kinds, .ref m_ats, .ref m_ends])), (m_mark, .inl (cI, 28000, .inl g_mark_18))] := hD
                      refine lv_goto (tgt := 188) hx hb d_Mo_waves_148 (by decide) ?_
                      refine lv_iinc (v := nI (i + 4)) (lv' := [(3, .int (nI (i + 4))), (5, .int 1), (4, .int 0), (0, .ref mo), (1, .int c), (2, .int (nI (t - t % 4)))]) hx hb d_Mo_waves_188 hl (k := 5) rfl (nI_add i 4) (by decide) rfl (fun ls hl => ?_)
                      refine lv_goto (tgt := 44) hx hb d_Mo_waves_191 (by decide) ?_
                      exact ih_44  (i + 4) z_x_18 z_y_18 z_wrong_18 mk_18 g_mark_18 _ _ _ ⟨by omega, by omega, by omega⟩ (by omega) (hP.subm [1, 0, 2] rfl) (hD.sub [1, 0, 2] rfl rfl) hS (lv_sub hl [3, 4, 5, 0] rfl)
                · have n_63 : (i + 5) = (t) := (nI_eq (a := i + 5) (b := t) (by omega) (by omega)).mp c_63
                  refine lv_aload_n hx hb d_Mo_waves_66 rfl (lv_at hl 0 rfl) ?_
                  refine va_get (D := D) (ci := 8) (v := .ref m_stack) (C := R_Mo) (T := F_Mo) (N := 29) hx hb hts i_Mo hown hZ.1 hP 0 rfl rfl 23 (by decide) (hts _ fl_Mo_29) (fun _ h9 => h9) rfl d_Mo_waves_67 ?_
                  refine lv_aload_n hx hb d_Mo_waves_70 rfl (lv_at hl 0 rfl) ?_
                  refine va_get (D := D) (ci := 8) (v := .int (nI t)) (C := R_Mo) (T := F_Mo) (N := 29) hx hb hts i_Mo hown hZ.1 hP 0 rfl rfl 22 (by decide) (hts _ fl_Mo_82) (fun _ h9 => h9) rfl d_Mo_waves_71 ?_
                  refine lv_iconst (v := 1) hx hb d_Mo_waves_74 (by decide) ?_
                  refine lv_isub hx hb d_Mo_waves_75 ?_
                  refine lv_tv (y := nI (t - 1)) (pk_sub (a := t) (b := 1) (by omega)) ?_
                  refine va_iald hx hb hZ.1 hP 1 1 rfl rfl (vp_in_nI (by omega) (by omega)) d_Mo_waves_76 ?_
                  refine lv_tv (y := g_stack (t - 1)) (by rw [nI_clamp (by omega)]) ?_
                  refine lv_goto (tgt := 81) hx hb d_Mo_waves_77 (by decide) ?_
                  refine lv_istore (lv' := [(4, .int (g_stack (t - 1))), (0, .ref mo), (1, .int c), (2, .int (nI (t - t % 4))), (3, .int (nI i))]) hx hb d_Mo_waves_81 hl (by decide) rfl (fun ls hl => ?_)
                  refine lv_iload_n hx hb d_Mo_waves_83 rfl (lv_at hl 4 rfl) ?_
                  refine lv_bipush (v := 8) hx hb d_Mo_waves_84 (by decide) ?_
                  refine lv_irem hx hb d_Mo_waves_86 (by decide) ?_
                  refine lv_tv (y := nI (i % 8)) (pk_rem (a := i) (d := 8) (by omega) (by omega) (by omega)) ?_
                  refine lv_if_ne (tgt := 94) hx hb d_Mo_waves_87 (by decide) (fun c_87 => ?_) (fun c_87 => ?_)
                  · have n_87 : ¬ (i % 8) = (0) := fun z => c_87 ((nI_eq (a := i % 8) (b := 0) (by omega) (by omega)).mpr z)
                    refine lv_iconst (v := 0) hx hb d_Mo_waves_94 (by decide) ?_
                    refine lv_iload_n hx hb d_Mo_waves_95 rfl (lv_at hl 2 rfl) ?_
                    refine lv_icmp_ne (tgt := 103) hx hb d_Mo_waves_96 (by decide) (fun c_96 => ?_) (fun c_96 => ?_)
                    · refine lv_iconst (v := 0) hx hb d_Mo_waves_103 (by decide) ?_
                      refine lv_istore (lv' := [(5, .int 0), (4, .int (g_stack (t - 1))), (0, .ref mo), (1, .int c), (2, .int (nI (t - t % 4))), (3, .int (nI i))]) hx hb d_Mo_waves_104 hl (by decide) rfl (fun ls hl => ?_)
                      refine lv_iload hx hb d_Mo_waves_106 (lv_at hl 0 rfl) ?_
                      refine lv_if_eq (tgt := 151) hx hb d_Mo_waves_108 (by decide) (fun c_108 => ?_) (fun c_108 => absurd (by decide) c_108)
                      clear c_108
                      refine lv_aload_n hx hb d_Mo_waves_151 rfl (lv_at hl 2 rfl) ?_
                      refine lv_iconst (v := 0) hx hb d_Mo_waves_152 (by decide) ?_
                      refine lv_aload_n hx hb d_Mo_waves_153 rfl (lv_at hl 2 rfl) ?_
                      refine va_get (D := D) (ci := 8) (v := .ref m_stack) (C := R_Mo) (T := F_Mo) (N := 29) hx hb hts i_Mo hown hZ.1 hP 0 rfl rfl 23 (by decide) (hts _ fl_Mo_29) (fun _ h9 => h9) rfl d_Mo_waves_154 ?_
                      refine lv_iload_n hx hb d_Mo_waves_157 rfl (lv_at hl 5 rfl) ?_
                      refine va_iald hx hb hZ.1 hP 1 1 rfl rfl (vp_in_nI (by omega) (by omega)) d_Mo_waves_158 ?_
                      refine lv_tv (y := g_stack i) (by rw [nI_clamp (by omega)]) ?_
                      refine lv_aload_n hx hb d_Mo_waves_159 rfl (lv_at hl 2 rfl) ?_
                      refine va_get (D := D) (ci := 8) (v := .ref m_stack) (C := R_Mo) (T := F_Mo) (N := 29) hx hb hts i_Mo hown hZ.1 hP 0 rfl rfl 23 (by decide) (hts _ fl_Mo_29) (fun _ h9 => h9) rfl d_Mo_waves_160 ?_
                      refine lv_iload_n hx hb d_Mo_waves_163 rfl (lv_at hl 5 rfl) ?_
                      refine lv_iconst (v := 1) hx hb d_Mo_waves_164 (by decide) ?_
                      refine lv_iadd hx hb d_Mo_waves_165 ?_
                      refine lv_tv (y := nI (i + 1)) (nI_add i 1) ?_
                      refine va_iald hx hb hZ.1 hP 1 1 rfl rfl (vp_in_nI (by omega) (by omega)) d_Mo_waves_166 ?_
                      refine lv_tv (y := g_stack (i + 1)) (by rw [nI_clamp (by omega)]) ?_
                      refine lv_aload_n hx hb d_Mo_waves_167 rfl (lv_at hl 2 rfl) ?_
                      refine va_get (D := D) (ci := 8) (v := .ref m_stack) (C := R_Mo) (T := F_Mo) (N := 29) hx hb hts i_Mo hown hZ.1 hP 0 rfl rfl 23 (by decide) (hts _ fl_Mo_29) (fun _ h9 => h9) rfl d_Mo_waves_168 ?_
                      refine lv_iload_n hx hb d_Mo_waves_171 rfl (lv_at hl 5 rfl) ?_
                      refine lv_iconst (v := 2) hx hb d_Mo_waves_172 (by decide) ?_
                      refine lv_iadd hx hb d_Mo_waves_173 ?_
                      refine lv_tv (y := nI (i + 2)) (nI_add i 2) ?_
                      refine va_iald hx hb hZ.1 hP 1 1 rfl rfl (vp_in_nI (by omega) (by omega)) d_Mo_waves_174 ?_
                      refine lv_tv (y := g_stack (i + 2)) (by rw [nI_clamp (by omega)]) ?_
                      refine lv_aload_n hx hb d_Mo_waves_175 rfl (lv_at hl 2 rfl) ?_
                      refine va_get (D := D) (ci := 8) (v := .ref m_stack) (C := R_Mo) (T := F_Mo) (N := 29) hx hb hts i_Mo hown hZ.1 hP 0 rfl rfl 23 (by decide) (hts _ fl_Mo_29) (fun _ h9 => h9) rfl d_Mo_waves_176 ?_
                      refine lv_iload_n hx hb d_Mo_waves_179 rfl (lv_at hl 5 rfl) ?_
                      refine lv_iconst (v := 3) hx hb d_Mo_waves_180 (by decide) ?_
                      refine lv_iadd hx hb d_Mo_waves_181 ?_
                      refine lv_tv (y := nI (i + 3)) (nI_add i 3) ?_
                      refine va_iald hx hb hZ.1 hP 1 1 rfl rfl (vp_in_nI (by omega) (by omega)) d_Mo_waves_182 ?_
                      refine lv_tv (y := g_stack (i + 3)) (by rw [nI_clamp (by omega)]) ?_
                      refine lv_iload hx hb d_Mo_waves_183 (lv_at hl 1 rfl) ?_
                      have hC : Cut [(mo, .inr (8, [.int z_fault, .int z_size, .ref m_row, .ref m_shelves, .ref m_many, .ref m_widths, .int (nI mL), .ref m_mark, .int z_shown, .ref m_shownMark, .int z_wasRun, .int wL, .int z_ended, .int (nI sp), .int z_hints, .int z_hasWidth, .int z_width, .int z_first, .int z_moved, .int z_deepest, .int xL, .int yL, .int (nI t), .ref m_stack, .ref m_places, .int (nI d), .ref m_kinds, .ref m_ats, .ref m_ends])), (m_stack, .inl (cI, 48, .inl g_stack)), (m_mark, .inl (cI, 28000, .inl gm))] [(mo, .inr (8, [.int z_fault, .int z_size, .ref m_row, .ref m_shelves, .ref m_many, .ref m_widths, .int (nI mL), .ref m_mark, .int z_shown, .ref m_shownMark, .int z_wasRun, .int wL, .int z_ended, .int (nI sp), .int z_hints, .int z_hasWidth, .int z_width, .int z_first, .int z_moved, .int z_deepest, .int xL, .int yL, .int (nI t), .ref m_stack, .ref m_places, .int (nI d), .ref m_kinds, .ref m_ats, .ref m_ends])), (m_mark, .inl (cI, 28000, .inl gm))] [(m_stack, .inl (cI, 48, .inl g_stack))] [0, 2] [1] := ⟨rfl, rfl, rfl, rfl, by decide⟩
                      refine goV0 (trV (As := [.int 0, .int (g_stack i), .int (g_stack (i + 1)), .int (g_stack (i + 2)), .int (g_stack (i + 3)), .int (g_stack (t - 1))]) (rest := []) ⟨hx, hb, hml, hown, hts⟩ gd_good (c_Mo_curve l D cB cI cJ mo m_row m_shelves m_many m_widths m_mark m_shownMark m_stack m_places m_kinds m_ats m_ends mL sp t d z_fault z_size z_shown z_wasRun wL z_ended z_hints z_hasWidth z_width z_first z_moved z_deepest xL yL gm 0 (g_stack i) (g_stack (i + 1)) (g_stack (i + 2)) (g_stack (i + 3)) (g_stack (t - 1)) (by omega) ) cal_Mo_curve ml_Mo_158 ⟨Nat.le_of_ble_eq_true rfl, Nat.le_of_ble_eq_true rfl⟩ hZ hP hD hC 0 (ci := 8) rfl rfl rfl rfl hl.1 rfl (Nat.le_of_ble_eq_true rfl) d_Mo_waves_185 ⟨Nat.le_of_ble_eq_true rfl, Nat.le_of_ble_eq_true rfl⟩) hZ hP hD hS hC (fun w1 H locs hq hP hD hS => ?_)
                      obtain ⟨z_x_19, z_y_19, z_wrong_19, mk_19, g_mark_19, rfl, hv_19⟩ := hq
                      have hP : va_P D classes [(m_stack, .inl (cI, 48, .inl g_stack)), (mo, .inr (8, [.int z_fault, .int z_size, .ref m_row, .ref m_shelves, .ref m_many, .ref m_widths, .int (nI mk_19), .ref m_mark, .int z_shown, .ref m_shownMark, .int z_wasRun, .int z_wrong_19, .int z_ended, .int (nI sp), .int z_hints, .int z_hasWidth, .int z_width, .int z_first, .int z_moved, .int z_deepest, .int z_x_19, .int z_y_19, .int (nI t), .ref m_stack, .ref m_places, .int (nI d), .ref m_kinds, .ref m_ats, .ref m_ends])), (m_mark, .inl (cI, 28000, .inl g_mark_19))] H := hP
                      have hD : va_D A_ [(m_stack, .inl (cI, 48, .inl g_stack)), (mo, .inr (8, [.int z_fault, .int z_size, .ref m_row, .ref m_shelves, .ref m_many, .ref m_widths, .int (nI mk_19), .ref m_mark, .int z_shown, .ref m_shownMark, .int z_wasRun, .int z_wrong_19, .int z_ended, .int (nI sp), .int z_hints, .int z_hasWidth, .int z_width, .int z_first, .int z_moved, .int z_deepest, .int z_x_19, .int z_y_19, .int (nI t), .ref m_stack, .ref m_places, .int (nI d), .ref m_kinds, .ref m_ats, .ref m_ends])), (m_mark, .inl (cI, 28000, .inl g_mark_19))] := hD
                      refine lv_iinc (v := nI (i + 4)) (lv' := [(3, .int (nI (i + 4))), (5, .int 0), (4, .int (g_stack (t - 1))), (0, .ref mo), (1, .int c), (2, .int (nI (t - t % 4)))]) hx hb d_Mo_waves_188 hl (k := 5) rfl (nI_add i 4) (by decide) rfl (fun ls hl => ?_)
                      refine lv_goto (tgt := 44) hx hb d_Mo_waves_191 (by decide) ?_
                      exact ih_44  (i + 4) z_x_19 z_y_19 z_wrong_19 mk_19 g_mark_19 _ _ _ ⟨by omega, by omega, by omega⟩ (by omega) (hP.subm [1, 0, 2] rfl) (hD.sub [1, 0, 2] rfl rfl) hS (lv_sub hl [3, 4, 5, 0] rfl)
                    · refine lv_iconst (v := 1) hx hb d_Mo_waves_99 (by decide) ?_
                      refine lv_goto (tgt := 104) hx hb d_Mo_waves_100 (by decide) ?_
                      refine lv_istore (lv' := [(5, .int 1), (4, .int (g_stack (t - 1))), (0, .ref mo), (1, .int c), (2, .int (nI (t - t % 4))), (3, .int (nI i))]) hx hb d_Mo_waves_104 hl (by decide) rfl (fun ls hl => ?_)
                      refine lv_iload hx hb d_Mo_waves_106 (lv_at hl 0 rfl) ?_
                      refine lv_if_eq (tgt := 151) hx hb d_Mo_waves_108 (by decide) (fun c_108 => absurd c_108 (by decide)) (fun c_108 => ?_)
                      clear c_108
                      refine lv_aload_n hx hb d_Mo_waves_111 rfl (lv_at hl 2 rfl) ?_
                      refine lv_aload_n hx hb d_Mo_waves_112 rfl (lv_at hl 2 rfl) ?_
                      refine va_get (D := D) (ci := 8) (v := .ref m_stack) (C := R_Mo) (T := F_Mo) (N := 29) hx hb hts i_Mo hown hZ.1 hP 0 rfl rfl 23 (by decide) (hts _ fl_Mo_29) (fun _ h9 => h9) rfl d_Mo_waves_113 ?_
                      refine lv_iload_n hx hb d_Mo_waves_116 rfl (lv_at hl 5 rfl) ?_
                      refine va_iald hx hb hZ.1 hP 1 1 rfl rfl (vp_in_nI (by omega) (by omega)) d_Mo_waves_117 ?_
                      refine lv_tv (y := g_stack i) (by rw [nI_clamp (by omega)]) ?_
                      refine lv_iconst (v := 0) hx hb d_Mo_waves_118 (by decide) ?_
                      refine lv_aload_n hx hb d_Mo_waves_119 rfl (lv_at hl 2 rfl) ?_
                      refine va_get (D := D) (ci := 8) (v := .ref m_stack) (C := R_Mo) (T := F_Mo) (N := 29) hx hb hts i_Mo hown hZ.1 hP 0 rfl rfl 23 (by decide) (hts _ fl_Mo_29) (fun _ h9 => h9) rfl d_Mo_waves_120 ?_
                      refine lv_iload_n hx hb d_Mo_waves_123 rfl (lv_at hl 5 rfl) ?_
                      refine lv_iconst (v := 1) hx hb d_Mo_waves_124 (by decide) ?_
                      refine lv_iadd hx hb d_Mo_waves_125 ?_
                      refine lv_tv (y := nI (i + 1)) (nI_add i 1) ?_
                      refine va_iald hx hb hZ.1 hP 1 1 rfl rfl (vp_in_nI (by omega) (by omega)) d_Mo_waves_126 ?_
                      refine lv_tv (y := g_stack (i + 1)) (by rw [nI_clamp (by omega)]) ?_
                      refine lv_aload_n hx hb d_Mo_waves_127 rfl (lv_at hl 2 rfl) ?_
                      refine va_get (D := D) (ci := 8) (v := .ref m_stack) (C := R_Mo) (T := F_Mo) (N := 29) hx hb hts i_Mo hown hZ.1 hP 0 rfl rfl 23 (by decide) (hts _ fl_Mo_29) (fun _ h9 => h9) rfl d_Mo_waves_128 ?_
                      refine lv_iload_n hx hb d_Mo_waves_131 rfl (lv_at hl 5 rfl) ?_
                      refine lv_iconst (v := 2) hx hb d_Mo_waves_132 (by decide) ?_
                      refine lv_iadd hx hb d_Mo_waves_133 ?_
                      refine lv_tv (y := nI (i + 2)) (nI_add i 2) ?_
                      refine va_iald hx hb hZ.1 hP 1 1 rfl rfl (vp_in_nI (by omega) (by omega)) d_Mo_waves_134 ?_
                      refine lv_tv (y := g_stack (i + 2)) (by rw [nI_clamp (by omega)]) ?_
                      refine lv_iload hx hb d_Mo_waves_135 (lv_at hl 1 rfl) ?_
                      refine lv_aload_n hx hb d_Mo_waves_137 rfl (lv_at hl 2 rfl) ?_
                      refine va_get (D := D) (ci := 8) (v := .ref m_stack) (C := R_Mo) (T := F_Mo) (N := 29) hx hb hts i_Mo hown hZ.1 hP 0 rfl rfl 23 (by decide) (hts _ fl_Mo_29) (fun _ h9 => h9) rfl d_Mo_waves_138 ?_
                      refine lv_iload_n hx hb d_Mo_waves_141 rfl (lv_at hl 5 rfl) ?_
                      refine lv_iconst (v := 3) hx hb d_Mo_waves_142 (by decide) ?_
                      refine lv_iadd hx hb d_Mo_waves_143 ?_
                      refine lv_tv (y := nI (i + 3)) (nI_add i 3) ?_
                      refine va_iald hx hb hZ.1 hP 1 1 rfl rfl (vp_in_nI (by omega) (by omega)) d_Mo_waves_144 ?_
                      refine lv_tv (y := g_stack (i + 3)) (by rw [nI_clamp (by omega)]) ?_
                      have hC : Cut [(mo, .inr (8, [.int z_fault, .int z_size, .ref m_row, .ref m_shelves, .ref m_many, .ref m_widths, .int (nI mL), .ref m_mark, .int z_shown, .ref m_shownMark, .int z_wasRun, .int wL, .int z_ended, .int (nI sp), .int z_hints, .int z_hasWidth, .int z_width, .int z_first, .int z_moved, .int z_deepest, .int xL, .int yL, .int (nI t), .ref m_stack, .ref m_places, .int (nI d), .ref m_kinds, .ref m_ats, .ref m_ends])), (m_stack, .inl (cI, 48, .inl g_stack)), (m_mark, .inl (cI, 28000, .inl gm))] [(mo, .inr (8, [.int z_fault, .int z_size, .ref m_row, .ref m_shelves, .ref m_many, .ref m_widths, .int (nI mL), .ref m_mark, .int z_shown, .ref m_shownMark, .int z_wasRun, .int wL, .int z_ended, .int (nI sp), .int z_hints, .int z_hasWidth, .int z_width, .int z_first, .int z_moved, .int z_deepest, .int xL, .int yL, .int (nI t), .ref m_stack, .ref m_places, .int (nI d), .ref m_kinds, .ref m_ats, .ref m_ends])), (m_mark, .inl (cI, 28000, .inl gm))] [(m_stack, .inl (cI, 48, .inl g_stack))] [0, 2] [1] := ⟨rfl, rfl, rfl, rfl, by decide⟩
                      refine goV0 (trV (As := [.int (g_stack i), .int 0, .int (g_stack (i + 1)), .int (g_stack (i + 2)), .int (g_stack (t - 1)), .int (g_stack (i + 3))]) (rest := []) ⟨hx, hb, hml, hown, hts⟩ gd_good (c_Mo_curve l D cB cI cJ mo m_row m_shelves m_many m_widths m_mark m_shownMark m_stack m_places m_kinds m_ats m_ends mL sp t d z_fault z_size z_shown z_wasRun wL z_ended z_hints z_hasWidth z_width z_first z_moved z_deepest xL yL gm (g_stack i) 0 (g_stack (i + 1)) (g_stack (i + 2)) (g_stack (t - 1)) (g_stack (i + 3)) (by omega) ) cal_Mo_curve ml_Mo_158 ⟨Nat.le_of_ble_eq_true rfl, Nat.le_of_ble_eq_true rfl⟩ hZ hP hD hC 0 (ci := 8) rfl rfl rfl rfl hl.1 rfl (Nat.le_of_ble_eq_true rfl) d_Mo_waves_145 ⟨Nat.le_of_ble_eq_true rfl, Nat.le_of_ble_eq_true rfl⟩) hZ hP hD hS hC (fun w1 H locs hq hP hD hS => ?_)
                      obtain ⟨z_x_20, z_y_20, z_wrong_20, mk_20, g_mark_20, rfl, hv_20⟩ := hq
                      have hP : va_P D classes [(m_stack, .inl (cI, 48, .inl g_stack)), (mo, .inr (8, [.int z_fault, .int z_size, .ref m_row, .ref m_shelves, .ref m_many, .ref m_widths, .int (nI mk_20), .ref m_mark, .int z_shown, .ref m_shownMark, .int z_wasRun, .int z_wrong_20, .int z_ended, .int (nI sp), .int z_hints, .int z_hasWidth, .int z_width, .int z_first, .int z_moved, .int z_deepest, .int z_x_20, .int z_y_20, .int (nI t), .ref m_stack, .ref m_places, .int (nI d), .ref m_kinds, .ref m_ats, .ref m_ends])), (m_mark, .inl (cI, 28000, .inl g_mark_20))] H := hP
                      have hD : va_D A_ [(m_stack, .inl (cI, 48, .inl g_stack)), (mo, .inr (8, [.int z_fault, .int z_size, .ref m_row, .ref m_shelves, .ref m_many, .ref m_widths, .int (nI mk_20), .ref m_mark, .int z_shown, .ref m_shownMark, .int z_wasRun, .int z_wrong_20, .int z_ended, .int (nI sp), .int z_hints, .int z_hasWidth, .int z_width, .int z_first, .int z_moved, .int z_deepest, .int z_x_20, .int z_y_20, .int (nI t), .ref m_stack, .ref m_places, .int (nI d), .ref m_kinds, .ref m_ats, .ref m_ends])), (m_mark, .inl (cI, 28000, .inl g_mark_20))] := hD
                      refine lv_goto (tgt := 188) hx hb d_Mo_waves_148 (by decide) ?_
                      refine lv_iinc (v := nI (i + 4)) (lv' := [(3, .int (nI (i + 4))), (5, .int 1), (4, .int (g_stack (t - 1))), (0, .ref mo), (1, .int c), (2, .int (nI (t - t % 4)))]) hx hb d_Mo_waves_188 hl (k := 5) rfl (nI_add i 4) (by decide) rfl (fun ls hl => ?_)
                      refine lv_goto (tgt := 44) hx hb d_Mo_waves_191 (by decide) ?_
                      exact ih_44  (i + 4) z_x_20 z_y_20 z_wrong_20 mk_20 g_mark_20 _ _ _ ⟨by omega, by omega, by omega⟩ (by omega) (hP.subm [1, 0, 2] rfl) (hD.sub [1, 0, 2] rfl rfl) hS (lv_sub hl [3, 4, 5, 0] rfl)
                  · have n_87 : (i % 8) = (0) := (nI_eq (a := i % 8) (b := 0) (by omega) (by omega)).mp c_87
                    refine lv_iconst (v := 1) hx hb d_Mo_waves_90 (by decide) ?_
                    refine lv_goto (tgt := 95) hx hb d_Mo_waves_91 (by decide) ?_
                    refine lv_iload_n hx hb d_Mo_waves_95 rfl (lv_at hl 2 rfl) ?_
                    refine lv_icmp_ne (tgt := 103) hx hb d_Mo_waves_96 (by decide) (fun c_96 => ?_) (fun c_96 => ?_)
                    · refine lv_iconst (v := 0) hx hb d_Mo_waves_103 (by decide) ?_
                      refine lv_istore (lv' := [(5, .int 0), (4, .int (g_stack (t - 1))), (0, .ref mo), (1, .int c), (2, .int (nI (t - t % 4))), (3, .int (nI i))]) hx hb d_Mo_waves_104 hl (by decide) rfl (fun ls hl => ?_)
                      refine lv_iload hx hb d_Mo_waves_106 (lv_at hl 0 rfl) ?_
                      refine lv_if_eq (tgt := 151) hx hb d_Mo_waves_108 (by decide) (fun c_108 => ?_) (fun c_108 => absurd (by decide) c_108)
                      clear c_108
                      refine lv_aload_n hx hb d_Mo_waves_151 rfl (lv_at hl 2 rfl) ?_
                      refine lv_iconst (v := 0) hx hb d_Mo_waves_152 (by decide) ?_
                      refine lv_aload_n hx hb d_Mo_waves_153 rfl (lv_at hl 2 rfl) ?_
                      refine va_get (D := D) (ci := 8) (v := .ref m_stack) (C := R_Mo) (T := F_Mo) (N := 29) hx hb hts i_Mo hown hZ.1 hP 0 rfl rfl 23 (by decide) (hts _ fl_Mo_29) (fun _ h9 => h9) rfl d_Mo_waves_154 ?_
                      refine lv_iload_n hx hb d_Mo_waves_157 rfl (lv_at hl 5 rfl) ?_
                      refine va_iald hx hb hZ.1 hP 1 1 rfl rfl (vp_in_nI (by omega) (by omega)) d_Mo_waves_158 ?_
                      refine lv_tv (y := g_stack i) (by rw [nI_clamp (by omega)]) ?_
                      refine lv_aload_n hx hb d_Mo_waves_159 rfl (lv_at hl 2 rfl) ?_
                      refine va_get (D := D) (ci := 8) (v := .ref m_stack) (C := R_Mo) (T := F_Mo) (N := 29) hx hb hts i_Mo hown hZ.1 hP 0 rfl rfl 23 (by decide) (hts _ fl_Mo_29) (fun _ h9 => h9) rfl d_Mo_waves_160 ?_
                      refine lv_iload_n hx hb d_Mo_waves_163 rfl (lv_at hl 5 rfl) ?_
                      refine lv_iconst (v := 1) hx hb d_Mo_waves_164 (by decide) ?_
                      refine lv_iadd hx hb d_Mo_waves_165 ?_
                      refine lv_tv (y := nI (i + 1)) (nI_add i 1) ?_
                      refine va_iald hx hb hZ.1 hP 1 1 rfl rfl (vp_in_nI (by omega) (by omega)) d_Mo_waves_166 ?_
                      refine lv_tv (y := g_stack (i + 1)) (by rw [nI_clamp (by omega)]) ?_
                      refine lv_aload_n hx hb d_Mo_waves_167 rfl (lv_at hl 2 rfl) ?_
                      refine va_get (D := D) (ci := 8) (v := .ref m_stack) (C := R_Mo) (T := F_Mo) (N := 29) hx hb hts i_Mo hown hZ.1 hP 0 rfl rfl 23 (by decide) (hts _ fl_Mo_29) (fun _ h9 => h9) rfl d_Mo_waves_168 ?_
                      refine lv_iload_n hx hb d_Mo_waves_171 rfl (lv_at hl 5 rfl) ?_
                      refine lv_iconst (v := 2) hx hb d_Mo_waves_172 (by decide) ?_
                      refine lv_iadd hx hb d_Mo_waves_173 ?_
                      refine lv_tv (y := nI (i + 2)) (nI_add i 2) ?_
                      refine va_iald hx hb hZ.1 hP 1 1 rfl rfl (vp_in_nI (by omega) (by omega)) d_Mo_waves_174 ?_
                      refine lv_tv (y := g_stack (i + 2)) (by rw [nI_clamp (by omega)]) ?_
                      refine lv_aload_n hx hb d_Mo_waves_175 rfl (lv_at hl 2 rfl) ?_
                      refine va_get (D := D) (ci := 8) (v := .ref m_stack) (C := R_Mo) (T := F_Mo) (N := 29) hx hb hts i_Mo hown hZ.1 hP 0 rfl rfl 23 (by decide) (hts _ fl_Mo_29) (fun _ h9 => h9) rfl d_Mo_waves_176 ?_
                      refine lv_iload_n hx hb d_Mo_waves_179 rfl (lv_at hl 5 rfl) ?_
                      refine lv_iconst (v := 3) hx hb d_Mo_waves_180 (by decide) ?_
                      refine lv_iadd hx hb d_Mo_waves_181 ?_
                      refine lv_tv (y := nI (i + 3)) (nI_add i 3) ?_
                      refine va_iald hx hb hZ.1 hP 1 1 rfl rfl (vp_in_nI (by omega) (by omega)) d_Mo_waves_182 ?_
                      refine lv_tv (y := g_stack (i + 3)) (by rw [nI_clamp (by omega)]) ?_
                      refine lv_iload hx hb d_Mo_waves_183 (lv_at hl 1 rfl) ?_
                      have hC : Cut [(mo, .inr (8, [.int z_fault, .int z_size, .ref m_row, .ref m_shelves, .ref m_many, .ref m_widths, .int (nI mL), .ref m_mark, .int z_shown, .ref m_shownMark, .int z_wasRun, .int wL, .int z_ended, .int (nI sp), .int z_hints, .int z_hasWidth, .int z_width, .int z_first, .int z_moved, .int z_deepest, .int xL, .int yL, .int (nI t), .ref m_stack, .ref m_places, .int (nI d), .ref m_kinds, .ref m_ats, .ref m_ends])), (m_stack, .inl (cI, 48, .inl g_stack)), (m_mark, .inl (cI, 28000, .inl gm))] [(mo, .inr (8, [.int z_fault, .int z_size, .ref m_row, .ref m_shelves, .ref m_many, .ref m_widths, .int (nI mL), .ref m_mark, .int z_shown, .ref m_shownMark, .int z_wasRun, .int wL, .int z_ended, .int (nI sp), .int z_hints, .int z_hasWidth, .int z_width, .int z_first, .int z_moved, .int z_deepest, .int xL, .int yL, .int (nI t), .ref m_stack, .ref m_places, .int (nI d), .ref m_kinds, .ref m_ats, .ref m_ends])), (m_mark, .inl (cI, 28000, .inl gm))] [(m_stack, .inl (cI, 48, .inl g_stack))] [0, 2] [1] := ⟨rfl, rfl, rfl, rfl, by decide⟩
                      refine goV0 (trV (As := [.int 0, .int (g_stack i), .int (g_stack (i + 1)), .int (g_stack (i + 2)), .int (g_stack (i + 3)), .int (g_stack (t - 1))]) (rest := []) ⟨hx, hb, hml, hown, hts⟩ gd_good (c_Mo_curve l D cB cI cJ mo m_row m_shelves m_many m_widths m_mark m_shownMark m_stack m_places m_kinds m_ats m_ends mL sp t d z_fault z_size z_shown z_wasRun wL z_ended z_hints z_hasWidth z_width z_first z_moved z_deepest xL yL gm 0 (g_stack i) (g_stack (i + 1)) (g_stack (i + 2)) (g_stack (i + 3)) (g_stack (t - 1)) (by omega) ) cal_Mo_curve ml_Mo_158 ⟨Nat.le_of_ble_eq_true rfl, Nat.le_of_ble_eq_true rfl⟩ hZ hP hD hC 0 (ci := 8) rfl rfl rfl rfl hl.1 rfl (Nat.le_of_ble_eq_true rfl) d_Mo_waves_185 ⟨Nat.le_of_ble_eq_true rfl, Nat.le_of_ble_eq_true rfl⟩) hZ hP hD hS hC (fun w1 H locs hq hP hD hS => ?_)
                      obtain ⟨z_x_21, z_y_21, z_wrong_21, mk_21, g_mark_21, rfl, hv_21⟩ := hq
                      have hP : va_P D classes [(m_stack, .inl (cI, 48, .inl g_stack)), (mo, .inr (8, [.int z_fault, .int z_size, .ref m_row, .ref m_shelves, .ref m_many, .ref m_widths, .int (nI mk_21), .ref m_mark, .int z_shown, .ref m_shownMark, .int z_wasRun, .int z_wrong_21, .int z_ended, .int (nI sp), .int z_hints, .int z_hasWidth, .int z_width, .int z_first, .int z_moved, .int z_deepest, .int z_x_21, .int z_y_21, .int (nI t), .ref m_stack, .ref m_places, .int (nI d), .ref m_kinds, .ref m_ats, .ref m_ends])), (m_mark, .inl (cI, 28000, .inl g_mark_21))] H := hP
                      have hD : va_D A_ [(m_stack, .inl (cI, 48, .inl g_stack)), (mo, .inr (8, [.int z_fault, .int z_size, .ref m_row, .ref m_shelves, .ref m_many, .ref m_widths, .int (nI mk_21), .ref m_mark, .int z_shown, .ref m_shownMark, .int z_wasRun, .int z_wrong_21, .int z_ended, .int (nI sp), .int z_hints, .int z_hasWidth, .int z_width, .int z_first, .int z_moved, .int z_deepest, .int z_x_21, .int z_y_21, .int (nI t), .ref m_stack, .ref m_places, .int (nI d), .ref m_kinds, .ref m_ats, .ref m_ends])), (m_mark, .inl (cI, 28000, .inl g_mark_21))] := hD
                      refine lv_iinc (v := nI (i + 4)) (lv' := [(3, .int (nI (i + 4))), (5, .int 0), (4, .int (g_stack (t - 1))), (0, .ref mo), (1, .int c), (2, .int (nI (t - t % 4)))]) hx hb d_Mo_waves_188 hl (k := 5) rfl (nI_add i 4) (by decide) rfl (fun ls hl => ?_)
                      refine lv_goto (tgt := 44) hx hb d_Mo_waves_191 (by decide) ?_
                      exact ih_44  (i + 4) z_x_21 z_y_21 z_wrong_21 mk_21 g_mark_21 _ _ _ ⟨by omega, by omega, by omega⟩ (by omega) (hP.subm [1, 0, 2] rfl) (hD.sub [1, 0, 2] rfl rfl) hS (lv_sub hl [3, 4, 5, 0] rfl)
                    · refine lv_iconst (v := 1) hx hb d_Mo_waves_99 (by decide) ?_
                      refine lv_goto (tgt := 104) hx hb d_Mo_waves_100 (by decide) ?_
                      refine lv_istore (lv' := [(5, .int 1), (4, .int (g_stack (t - 1))), (0, .ref mo), (1, .int c), (2, .int (nI (t - t % 4))), (3, .int (nI i))]) hx hb d_Mo_waves_104 hl (by decide) rfl (fun ls hl => ?_)
                      refine lv_iload hx hb d_Mo_waves_106 (lv_at hl 0 rfl) ?_
                      refine lv_if_eq (tgt := 151) hx hb d_Mo_waves_108 (by decide) (fun c_108 => absurd c_108 (by decide)) (fun c_108 => ?_)
                      clear c_108
                      refine lv_aload_n hx hb d_Mo_waves_111 rfl (lv_at hl 2 rfl) ?_
                      refine lv_aload_n hx hb d_Mo_waves_112 rfl (lv_at hl 2 rfl) ?_
                      refine va_get (D := D) (ci := 8) (v := .ref m_stack) (C := R_Mo) (T := F_Mo) (N := 29) hx hb hts i_Mo hown hZ.1 hP 0 rfl rfl 23 (by decide) (hts _ fl_Mo_29) (fun _ h9 => h9) rfl d_Mo_waves_113 ?_
                      refine lv_iload_n hx hb d_Mo_waves_116 rfl (lv_at hl 5 rfl) ?_
                      refine va_iald hx hb hZ.1 hP 1 1 rfl rfl (vp_in_nI (by omega) (by omega)) d_Mo_waves_117 ?_
                      refine lv_tv (y := g_stack i) (by rw [nI_clamp (by omega)]) ?_
                      refine lv_iconst (v := 0) hx hb d_Mo_waves_118 (by decide) ?_
                      refine lv_aload_n hx hb d_Mo_waves_119 rfl (lv_at hl 2 rfl) ?_
                      refine va_get (D := D) (ci := 8) (v := .ref m_stack) (C := R_Mo) (T := F_Mo) (N := 29) hx hb hts i_Mo hown hZ.1 hP 0 rfl rfl 23 (by decide) (hts _ fl_Mo_29) (fun _ h9 => h9) rfl d_Mo_waves_120 ?_
                      refine lv_iload_n hx hb d_Mo_waves_123 rfl (lv_at hl 5 rfl) ?_
                      refine lv_iconst (v := 1) hx hb d_Mo_waves_124 (by decide) ?_
                      refine lv_iadd hx hb d_Mo_waves_125 ?_
                      refine lv_tv (y := nI (i + 1)) (nI_add i 1) ?_
                      refine va_iald hx hb hZ.1 hP 1 1 rfl rfl (vp_in_nI (by omega) (by omega)) d_Mo_waves_126 ?_
                      refine lv_tv (y := g_stack (i + 1)) (by rw [nI_clamp (by omega)]) ?_
                      refine lv_aload_n hx hb d_Mo_waves_127 rfl (lv_at hl 2 rfl) ?_
                      refine va_get (D := D) (ci := 8) (v := .ref m_stack) (C := R_Mo) (T := F_Mo) (N := 29) hx hb hts i_Mo hown hZ.1 hP 0 rfl rfl 23 (by decide) (hts _ fl_Mo_29) (fun _ h9 => h9) rfl d_Mo_waves_128 ?_
                      refine lv_iload_n hx hb d_Mo_waves_131 rfl (lv_at hl 5 rfl) ?_
                      refine lv_iconst (v := 2) hx hb d_Mo_waves_132 (by decide) ?_
                      refine lv_iadd hx hb d_Mo_waves_133 ?_
                      refine lv_tv (y := nI (i + 2)) (nI_add i 2) ?_
                      refine va_iald hx hb hZ.1 hP 1 1 rfl rfl (vp_in_nI (by omega) (by omega)) d_Mo_waves_134 ?_
                      refine lv_tv (y := g_stack (i + 2)) (by rw [nI_clamp (by omega)]) ?_
                      refine lv_iload hx hb d_Mo_waves_135 (lv_at hl 1 rfl) ?_
                      refine lv_aload_n hx hb d_Mo_waves_137 rfl (lv_at hl 2 rfl) ?_
                      refine va_get (D := D) (ci := 8) (v := .ref m_stack) (C := R_Mo) (T := F_Mo) (N := 29) hx hb hts i_Mo hown hZ.1 hP 0 rfl rfl 23 (by decide) (hts _ fl_Mo_29) (fun _ h9 => h9) rfl d_Mo_waves_138 ?_
                      refine lv_iload_n hx hb d_Mo_waves_141 rfl (lv_at hl 5 rfl) ?_
                      refine lv_iconst (v := 3) hx hb d_Mo_waves_142 (by decide) ?_
                      refine lv_iadd hx hb d_Mo_waves_143 ?_
                      refine lv_tv (y := nI (i + 3)) (nI_add i 3) ?_
                      refine va_iald hx hb hZ.1 hP 1 1 rfl rfl (vp_in_nI (by omega) (by omega)) d_Mo_waves_144 ?_
                      refine lv_tv (y := g_stack (i + 3)) (by rw [nI_clamp (by omega)]) ?_
                      have hC : Cut [(mo, .inr (8, [.int z_fault, .int z_size, .ref m_row, .ref m_shelves, .ref m_many, .ref m_widths, .int (nI mL), .ref m_mark, .int z_shown, .ref m_shownMark, .int z_wasRun, .int wL, .int z_ended, .int (nI sp), .int z_hints, .int z_hasWidth, .int z_width, .int z_first, .int z_moved, .int z_deepest, .int xL, .int yL, .int (nI t), .ref m_stack, .ref m_places, .int (nI d), .ref m_kinds, .ref m_ats, .ref m_ends])), (m_stack, .inl (cI, 48, .inl g_stack)), (m_mark, .inl (cI, 28000, .inl gm))] [(mo, .inr (8, [.int z_fault, .int z_size, .ref m_row, .ref m_shelves, .ref m_many, .ref m_widths, .int (nI mL), .ref m_mark, .int z_shown, .ref m_shownMark, .int z_wasRun, .int wL, .int z_ended, .int (nI sp), .int z_hints, .int z_hasWidth, .int z_width, .int z_first, .int z_moved, .int z_deepest, .int xL, .int yL, .int (nI t), .ref m_stack, .ref m_places, .int (nI d), .ref m_kinds, .ref m_ats, .ref m_ends])), (m_mark, .inl (cI, 28000, .inl gm))] [(m_stack, .inl (cI, 48, .inl g_stack))] [0, 2] [1] := ⟨rfl, rfl, rfl, rfl, by decide⟩
                      refine goV0 (trV (As := [.int (g_stack i), .int 0, .int (g_stack (i + 1)), .int (g_stack (i + 2)), .int (g_stack (t - 1)), .int (g_stack (i + 3))]) (rest := []) ⟨hx, hb, hml, hown, hts⟩ gd_good (c_Mo_curve l D cB cI cJ mo m_row m_shelves m_many m_widths m_mark m_shownMark m_stack m_places m_kinds m_ats m_ends mL sp t d z_fault z_size z_shown z_wasRun wL z_ended z_hints z_hasWidth z_width z_first z_moved z_deepest xL yL gm (g_stack i) 0 (g_stack (i + 1)) (g_stack (i + 2)) (g_stack (t - 1)) (g_stack (i + 3)) (by omega) ) cal_Mo_curve ml_Mo_158 ⟨Nat.le_of_ble_eq_true rfl, Nat.le_of_ble_eq_true rfl⟩ hZ hP hD hC 0 (ci := 8) rfl rfl rfl rfl hl.1 rfl (Nat.le_of_ble_eq_true rfl) d_Mo_waves_145 ⟨Nat.le_of_ble_eq_true rfl, Nat.le_of_ble_eq_true rfl⟩) hZ hP hD hS hC (fun w1 H locs hq hP hD hS => ?_)
                      obtain ⟨z_x_22, z_y_22, z_wrong_22, mk_22, g_mark_22, rfl, hv_22⟩ := hq
                      have hP : va_P D classes [(m_stack, .inl (cI, 48, .inl g_stack)), (mo, .inr (8, [.int z_fault, .int z_size, .ref m_row, .ref m_shelves, .ref m_many, .ref m_widths, .int (nI mk_22), .ref m_mark, .int z_shown, .ref m_shownMark, .int z_wasRun, .int z_wrong_22, .int z_ended, .int (nI sp), .int z_hints, .int z_hasWidth, .int z_width, .int z_first, .int z_moved, .int z_deepest, .int z_x_22, .int z_y_22, .int (nI t), .ref m_stack, .ref m_places, .int (nI d), .ref m_kinds, .ref m_ats, .ref m_ends])), (m_mark, .inl (cI, 28000, .inl g_mark_22))] H := hP
                      have hD : va_D A_ [(m_stack, .inl (cI, 48, .inl g_stack)), (mo, .inr (8, [.int z_fault, .int z_size, .ref m_row, .ref m_shelves, .ref m_many, .ref m_widths, .int (nI mk_22), .ref m_mark, .int z_shown, .ref m_shownMark, .int z_wasRun, .int z_wrong_22, .int z_ended, .int (nI sp), .int z_hints, .int z_hasWidth, .int z_width, .int z_first, .int z_moved, .int z_deepest, .int z_x_22, .int z_y_22, .int (nI t), .ref m_stack, .ref m_places, .int (nI d), .ref m_kinds, .ref m_ats, .ref m_ends])), (m_mark, .inl (cI, 28000, .inl g_mark_22))] := hD
                      refine lv_goto (tgt := 188) hx hb d_Mo_waves_148 (by decide) ?_
                      refine lv_iinc (v := nI (i + 4)) (lv' := [(3, .int (nI (i + 4))), (5, .int 1), (4, .int (g_stack (t - 1))), (0, .ref mo), (1, .int c), (2, .int (nI (t - t % 4)))]) hx hb d_Mo_waves_188 hl (k := 5) rfl (nI_add i 4) (by decide) rfl (fun ls hl => ?_)
                      refine lv_goto (tgt := 44) hx hb d_Mo_waves_191 (by decide) ?_
                      exact ih_44  (i + 4) z_x_22 z_y_22 z_wrong_22 mk_22 g_mark_22 _ _ _ ⟨by omega, by omega, by omega⟩ (by omega) (hP.subm [1, 0, 2] rfl) (hD.sub [1, 0, 2] rfl rfl) hS (lv_sub hl [3, 4, 5, 0] rfl)
        exact lp_44 _ 0 z_x z_y z_wrong_12 mk g_mark _ _ _ ⟨by omega, by omega, by omega⟩ (Nat.lt_succ_self _) (hP.subm [2, 0, 1] rfl) (hD.sub [2, 0, 1] rfl rfl) hS (lv_sub hl [2, 3, 1, 0] rfl)
    · have n_16 : ¬ (2) ≤ (t % 4) := fun z => c_16 ((nI_leI (a := 2) (b := t % 4) (by omega) (by omega)).mpr z)
      refine lv_iconst (v := 1) hx hb d_Mo_waves_19 (by decide) ?_
      refine lv_goto (tgt := 24) hx hb d_Mo_waves_20 (by decide) ?_
      have hC : Cut [(mo, .inr (8, [.int z_fault, .int z_size, .ref m_row, .ref m_shelves, .ref m_many, .ref m_widths, .int (nI mk), .ref m_mark, .int z_shown, .ref m_shownMark, .int z_wasRun, .int z_wrong, .int z_ended, .int (nI sp), .int z_hints, .int z_hasWidth, .int z_width, .int z_first, .int z_moved, .int z_deepest, .int z_x, .int z_y, .int (nI t), .ref m_stack, .ref m_places, .int (nI d), .ref m_kinds, .ref m_ats, .ref m_ends])), (m_stack, .inl (cI, 48, .inl g_stack)), (m_mark, .inl (cI, 28000, .inl g_mark))] [(mo, .inr (8, [.int z_fault, .int z_size, .ref m_row, .ref m_shelves, .ref m_many, .ref m_widths, .int (nI mk), .ref m_mark, .int z_shown, .ref m_shownMark, .int z_wasRun, .int z_wrong, .int z_ended, .int (nI sp), .int z_hints, .int z_hasWidth, .int z_width, .int z_first, .int z_moved, .int z_deepest, .int z_x, .int z_y, .int (nI t), .ref m_stack, .ref m_places, .int (nI d), .ref m_kinds, .ref m_ats, .ref m_ends]))] [(m_stack, .inl (cI, 48, .inl g_stack)), (m_mark, .inl (cI, 28000, .inl g_mark))] [0] [1, 2] := ⟨rfl, rfl, rfl, rfl, by decide⟩
      refine goI0 (trV (As := [.int 1]) (rest := []) ⟨hx, hb, hml, hown, hts⟩ gd_good (c_Mo_may l D cB cI cJ mo m_row m_shelves m_many m_widths m_mark m_shownMark m_stack m_places m_kinds m_ats m_ends mk sp t d z_fault z_size z_shown z_wasRun z_wrong z_ended z_hints z_hasWidth z_width z_first z_moved z_deepest z_x z_y 1 (by omega) ) cal_Mo_may ml_Mo_162 ⟨Nat.le_of_ble_eq_true rfl, Nat.le_of_ble_eq_true rfl⟩ hZ hP hD hC 0 (ci := 8) rfl rfl rfl rfl hl.1 rfl (Nat.le_of_ble_eq_true rfl) d_Mo_waves_24 ⟨Nat.le_of_ble_eq_true rfl, Nat.le_of_ble_eq_true rfl⟩) hZ hP hD hS hC (fun r_24 w1 H locs hq hP hD hS => ?_)
      obtain ⟨z_wrong_23, rfl, hv_23, hx_23, hz_23⟩ := hq
      have hP : va_P D classes [(m_stack, .inl (cI, 48, .inl g_stack)), (m_mark, .inl (cI, 28000, .inl g_mark)), (mo, .inr (8, [.int z_fault, .int z_size, .ref m_row, .ref m_shelves, .ref m_many, .ref m_widths, .int (nI mk), .ref m_mark, .int z_shown, .ref m_shownMark, .int z_wasRun, .int z_wrong_23, .int z_ended, .int (nI sp), .int z_hints, .int z_hasWidth, .int z_width, .int z_first, .int z_moved, .int z_deepest, .int z_x, .int z_y, .int (nI t), .ref m_stack, .ref m_places, .int (nI d), .ref m_kinds, .ref m_ats, .ref m_ends]))] H := hP
      have hD : va_D A_ [(m_stack, .inl (cI, 48, .inl g_stack)), (m_mark, .inl (cI, 28000, .inl g_mark)), (mo, .inr (8, [.int z_fault, .int z_size, .ref m_row, .ref m_shelves, .ref m_many, .ref m_widths, .int (nI mk), .ref m_mark, .int z_shown, .ref m_shownMark, .int z_wasRun, .int z_wrong_23, .int z_ended, .int (nI sp), .int z_hints, .int z_hasWidth, .int z_width, .int z_first, .int z_moved, .int z_deepest, .int z_x, .int z_y, .int (nI t), .ref m_stack, .ref m_places, .int (nI d), .ref m_kinds, .ref m_ats, .ref m_ends]))] := hD
      refine lv_if_eq (tgt := 198) hx hb d_Mo_waves_27 (by decide) (fun c_27 => ?_) (fun c_27 => ?_)
      · exact t_vret hx hb hr hlk d_Mo_waves_198 (hP.subm (ws' := [(mo, .inr (8, [.int z_fault, .int z_size, .ref m_row, .ref m_shelves, .ref m_many, .ref m_widths, .int (nI mk), .ref m_mark, .int z_shown, .ref m_shownMark, .int z_wasRun, .int z_wrong_23, .int z_ended, .int (nI sp), .int z_hints, .int z_hasWidth, .int z_width, .int z_first, .int z_moved, .int z_deepest, .int z_x, .int z_y, .int (nI t), .ref m_stack, .ref m_places, .int (nI d), .ref m_kinds, .ref m_ats, .ref m_ends])), (m_stack, .inl (cI, 48, .inl g_stack)), (m_mark, .inl (cI, 28000, .inl g_mark))]) [2, 0, 1] rfl) (hD.sub (ws' := [(mo, .inr (8, [.int z_fault, .int z_size, .ref m_row, .ref m_shelves, .ref m_many, .ref m_widths, .int (nI mk), .ref m_mark, .int z_shown, .ref m_shownMark, .int z_wasRun, .int z_wrong_23, .int z_ended, .int (nI sp), .int z_hints, .int z_hasWidth, .int z_width, .int z_first, .int z_moved, .int z_deepest, .int z_x, .int z_y, .int (nI t), .ref m_stack, .ref m_places, .int (nI d), .ref m_kinds, .ref m_ats, .ref m_ends])), (m_stack, .inl (cI, 48, .inl g_stack)), (m_mark, .inl (cI, 28000, .inl g_mark))]) [2, 0, 1] rfl rfl) hS ⟨rfl, rfl, rfl, _, _, _, mk, t, _, rfl, (by omega)⟩
      · refine lv_aload_n hx hb d_Mo_waves_30 rfl (lv_at hl 0 rfl) ?_
        refine va_get (D := D) (ci := 8) (v := .int (nI t)) (C := R_Mo) (T := F_Mo) (N := 29) hx hb hts i_Mo hown hZ.1 hP 2 rfl rfl 22 (by decide) (hts _ fl_Mo_82) (fun _ h9 => h9) rfl d_Mo_waves_31 ?_
        refine lv_aload_n hx hb d_Mo_waves_34 rfl (lv_at hl 0 rfl) ?_
        refine va_get (D := D) (ci := 8) (v := .int (nI t)) (C := R_Mo) (T := F_Mo) (N := 29) hx hb hts i_Mo hown hZ.1 hP 2 rfl rfl 22 (by decide) (hts _ fl_Mo_82) (fun _ h9 => h9) rfl d_Mo_waves_35 ?_
        refine lv_iconst (v := 4) hx hb d_Mo_waves_38 (by decide) ?_
        refine lv_irem hx hb d_Mo_waves_39 (by decide) ?_
        refine lv_tv (y := nI (t % 4)) (pk_rem (a := t) (d := 4) (by omega) (by omega) (by omega)) ?_
        refine lv_isub hx hb d_Mo_waves_40 ?_
        refine lv_tv (y := nI (t - (t % 4))) (pk_sub (a := t) (b := t % 4) (by omega)) ?_
        refine lv_istore_n (lv' := [(2, .int (nI (t - (t % 4)))), (0, .ref mo), (1, .int c)]) hx hb d_Mo_waves_41 rfl hl (by decide) rfl (fun ls hl => ?_)
        refine lv_iconst (v := 0) hx hb d_Mo_waves_42 (by decide) ?_
        refine lv_istore_n (lv' := [(3, .int 0), (2, .int (nI (t - (t % 4)))), (0, .ref mo), (1, .int c)]) hx hb d_Mo_waves_43 rfl hl (by decide) rfl (fun ls hl => ?_)
        have lp_44 : ∀ (fu : Nat) (i : Nat) (xL : Int32) (yL : Int32) (wL : Int32) (mL : Nat) (gm : Nat → Int32) (H : Heap) (locs : List Loc) (ls : Array Slot), (mL ≤ 4000 ∧ i ≤ 60 ∧ i % 4 = 0) → (70 - i) < fu → va_P D classes [(mo, .inr (8, [.int z_fault, .int z_size, .ref m_row, .ref m_shelves, .ref m_many, .ref m_widths, .int (nI mL), .ref m_mark, .int z_shown, .ref m_shownMark, .int z_wasRun, .int wL, .int z_ended, .int (nI sp), .int z_hints, .int z_hasWidth, .int z_width, .int z_first, .int z_moved, .int z_deepest, .int xL, .int yL, .int (nI t), .ref m_stack, .ref m_places, .int (nI d), .ref m_kinds, .ref m_ats, .ref m_ends])), (m_stack, .inl (cI, 48, .inl g_stack)), (m_mark, .inl (cI, 28000, .inl gm))] H → va_D A_ [(mo, .inr (8, [.int z_fault, .int z_size, .ref m_row, .ref m_shelves, .ref m_many, .ref m_widths, .int (nI mL), .ref m_mark, .int z_shown, .ref m_shownMark, .int z_wasRun, .int wL, .int z_ended, .int (nI sp), .int z_hints, .int z_hasWidth, .int z_width, .int z_first, .int z_moved, .int z_deepest, .int xL, .int yL, .int (nI t), .ref m_stack, .ref m_places, .int (nI d), .ref m_kinds, .ref m_ats, .ref m_ends])), (m_stack, .inl (cI, 48, .inl g_stack)), (m_mark, .inl (cI, 28000, .inl gm))] → va_S A_ s_.heap H locs → lv_has ls 6 [(0, .ref mo), (1, .int c), (2, .int (nI (t - t % 4))), (3, .int (nI i))] → W p_ l e_ ({ frames := 3, cells := 0, slots := 0, locals := 77 }) s_ m_ args_ below_ meth_ c_ H locs (0) (0) (MQT below_ D classes A_ (pV0 (fun w => ∃ (z_x' : Int32) (z_y' : Int32) (z_wrong' : Int32) (mk' : Nat) (t' : Nat) (g_mark' : Nat → Int32), w = [(mo, .inr (8, [.int z_fault, .int z_size, .ref m_row, .ref m_shelves, .ref m_many, .ref m_widths, .int (nI mk'), .ref m_mark, .int z_shown, .ref m_shownMark, .int z_wasRun, .int z_wrong', .int z_ended, .int (nI sp), .int z_hints, .int z_hasWidth, .int z_width, .int z_first, .int z_moved, .int z_deepest, .int z_x', .int z_y', .int (nI t'), .ref m_stack, .ref m_places, .int (nI d), .ref m_kinds, .ref m_ats, .ref m_ends])), (m_stack, .inl (cI, 48, .inl g_stack)), (m_mark, .inl (cI, 28000, .inl g_mark'))] ∧ (t' ≤ 48 ∧ d ≤ 10 ∧ mk' ≤ 4000 ∧ sp ≤ 20000))) s_) (F0 m_ 44 ls []) := by
          intro fu
          induction fu with
          | zero => intro i xL yL wL mL gm H locs ls hinv hfu; exact absurd hfu (Nat.not_lt_zero _)
          | succ fu ih_44 =>
            intro i xL yL wL mL gm H locs ls hinv hfu hP hD hS hl
            obtain ⟨hmL, hi1, hi2⟩ := hinv
            refine lv_iload_n hx hb d_Mo_waves_44 rfl (lv_at hl 3 rfl) ?_
            refine lv_iload_n hx hb d_Mo_waves_45 rfl (lv_at hl 2 rfl) ?_
            refine lv_icmp_ge (tgt := 194) hx hb d_Mo_waves_46 (by decide) (fun c_46 => ?_) (fun c_46 => ?_)
            · have n_46 : (t - t % 4) ≤ (i) := (nI_leI (a := t - t % 4) (b := i) (by omega) (by omega)).mp c_46
              refine lv_aload_n hx hb d_Mo_waves_194 rfl (lv_at hl 0 rfl) ?_
              have hC : Cut [(mo, .inr (8, [.int z_fault, .int z_size, .ref m_row, .ref m_shelves, .ref m_many, .ref m_widths, .int (nI mL), .ref m_mark, .int z_shown, .ref m_shownMark, .int z_wasRun, .int wL, .int z_ended, .int (nI sp), .int z_hints, .int z_hasWidth, .int z_width, .int z_first, .int z_moved, .int z_deepest, .int xL, .int yL, .int (nI t), .ref m_stack, .ref m_places, .int (nI d), .ref m_kinds, .ref m_ats, .ref m_ends])), (m_stack, .inl (cI, 48, .inl g_stack)), (m_mark, .inl (cI, 28000, .inl gm))] [(mo, .inr (8, [.int z_fault, .int z_size, .ref m_row, .ref m_shelves, .ref m_many, .ref m_widths, .int (nI mL), .ref m_mark, .int z_shown, .ref m_shownMark, .int z_wasRun, .int wL, .int z_ended, .int (nI sp), .int z_hints, .int z_hasWidth, .int z_width, .int z_first, .int z_moved, .int z_deepest, .int xL, .int yL, .int (nI t), .ref m_stack, .ref m_places, .int (nI d), .ref m_kinds, .ref m_ats, .ref m_ends]))] [(m_stack, .inl (cI, 48, .inl g_stack)), (m_mark, .inl (cI, 28000, .inl gm))] [0] [1, 2] := ⟨rfl, rfl, rfl, rfl, by decide⟩
              refine goV0 (trV (As := []) (rest := []) ⟨hx, hb, hml, hown, hts⟩ gd_good (c_Mo_take_V l D cB cI cJ mo m_row m_shelves m_many m_widths m_mark m_shownMark m_stack m_places m_kinds m_ats m_ends mL sp t d z_fault z_size z_shown z_wasRun wL z_ended z_hints z_hasWidth z_width z_first z_moved z_deepest xL yL (by omega) ) cal_Mo_take_V ml_Mo_155 ⟨Nat.le_of_ble_eq_true rfl, Nat.le_of_ble_eq_true rfl⟩ hZ hP hD hC 0 (ci := 8) rfl rfl rfl rfl hl.1 rfl (Nat.le_of_ble_eq_true rfl) d_Mo_waves_195 ⟨Nat.le_of_ble_eq_true rfl, Nat.le_of_ble_eq_true rfl⟩) hZ hP hD hS hC (fun w1 H locs hq hP hD hS => ?_)
              obtain ⟨t_24, rfl, hv_24⟩ := hq
              have hP : va_P D classes [(m_stack, .inl (cI, 48, .inl g_stack)), (m_mark, .inl (cI, 28000, .inl gm)), (mo, .inr (8, [.int z_fault, .int z_size, .ref m_row, .ref m_shelves, .ref m_many, .ref m_widths, .int (nI mL), .ref m_mark, .int z_shown, .ref m_shownMark, .int z_wasRun, .int wL, .int z_ended, .int (nI sp), .int z_hints, .int z_hasWidth, .int z_width, .int z_first, .int z_moved, .int z_deepest, .int xL, .int yL, .int (nI t_24), .ref m_stack, .ref m_places, .int (nI d), .ref m_kinds, .ref m_ats, .ref m_ends]))] H := hP
              have hD : va_D A_ [(m_stack, .inl (cI, 48, .inl g_stack)), (m_mark, .inl (cI, 28000, .inl gm)), (mo, .inr (8, [.int z_fault, .int z_size, .ref m_row, .ref m_shelves, .ref m_many, .ref m_widths, .int (nI mL), .ref m_mark, .int z_shown, .ref m_shownMark, .int z_wasRun, .int wL, .int z_ended, .int (nI sp), .int z_hints, .int z_hasWidth, .int z_width, .int z_first, .int z_moved, .int z_deepest, .int xL, .int yL, .int (nI t_24), .ref m_stack, .ref m_places, .int (nI d), .ref m_kinds, .ref m_ats, .ref m_ends]))] := hD
              exact t_vret hx hb hr hlk d_Mo_waves_198 (hP.subm (ws' := [(mo, .inr (8, [.int z_fault, .int z_size, .ref m_row, .ref m_shelves, .ref m_many, .ref m_widths, .int (nI mL), .ref m_mark, .int z_shown, .ref m_shownMark, .int z_wasRun, .int wL, .int z_ended, .int (nI sp), .int z_hints, .int z_hasWidth, .int z_width, .int z_first, .int z_moved, .int z_deepest, .int xL, .int yL, .int (nI t_24), .ref m_stack, .ref m_places, .int (nI d), .ref m_kinds, .ref m_ats, .ref m_ends])), (m_stack, .inl (cI, 48, .inl g_stack)), (m_mark, .inl (cI, 28000, .inl gm))]) [2, 0, 1] rfl) (hD.sub (ws' := [(mo, .inr (8, [.int z_fault, .int z_size, .ref m_row, .ref m_shelves, .ref m_many, .ref m_widths, .int (nI mL), .ref m_mark, .int z_shown, .ref m_shownMark, .int z_wasRun, .int wL, .int z_ended, .int (nI sp), .int z_hints, .int z_hasWidth, .int z_width, .int z_first, .int z_moved, .int z_deepest, .int xL, .int yL, .int (nI t_24), .ref m_stack, .ref m_places, .int (nI d), .ref m_kinds, .ref m_ats, .ref m_ends])), (m_stack, .inl (cI, 48, .inl g_stack)), (m_mark, .inl (cI, 28000, .inl gm))]) [2, 0, 1] rfl rfl) hS ⟨rfl, rfl, rfl, _, _, _, mL, t_24, _, rfl, (by omega)⟩
            · have n_46 : ¬ (t - t % 4) ≤ (i) := fun z => c_46 ((nI_leI (a := t - t % 4) (b := i) (by omega) (by omega)).mpr z)
              refine lv_aload_n hx hb d_Mo_waves_49 rfl (lv_at hl 0 rfl) ?_
              refine va_get (D := D) (ci := 8) (v := .int wL) (C := R_Mo) (T := F_Mo) (N := 29) hx hb hts i_Mo hown hZ.1 hP 0 rfl rfl 11 (by decide) (hts _ fl_Mo_75) (fun _ h9 => h9) rfl d_Mo_waves_50 ?_
              refine lv_if_ne (tgt := 194) hx hb d_Mo_waves_53 (by decide) (fun c_53 => ?_) (fun c_53 => ?_)
              · refine lv_aload_n hx hb d_Mo_waves_194 rfl (lv_at hl 0 rfl) ?_
                have hC : Cut [(mo, .inr (8, [.int z_fault, .int z_size, .ref m_row, .ref m_shelves, .ref m_many, .ref m_widths, .int (nI mL), .ref m_mark, .int z_shown, .ref m_shownMark, .int z_wasRun, .int wL, .int z_ended, .int (nI sp), .int z_hints, .int z_hasWidth, .int z_width, .int z_first, .int z_moved, .int z_deepest, .int xL, .int yL, .int (nI t), .ref m_stack, .ref m_places, .int (nI d), .ref m_kinds, .ref m_ats, .ref m_ends])), (m_stack, .inl (cI, 48, .inl g_stack)), (m_mark, .inl (cI, 28000, .inl gm))] [(mo, .inr (8, [.int z_fault, .int z_size, .ref m_row, .ref m_shelves, .ref m_many, .ref m_widths, .int (nI mL), .ref m_mark, .int z_shown, .ref m_shownMark, .int z_wasRun, .int wL, .int z_ended, .int (nI sp), .int z_hints, .int z_hasWidth, .int z_width, .int z_first, .int z_moved, .int z_deepest, .int xL, .int yL, .int (nI t), .ref m_stack, .ref m_places, .int (nI d), .ref m_kinds, .ref m_ats, .ref m_ends]))] [(m_stack, .inl (cI, 48, .inl g_stack)), (m_mark, .inl (cI, 28000, .inl gm))] [0] [1, 2] := ⟨rfl, rfl, rfl, rfl, by decide⟩
                refine goV0 (trV (As := []) (rest := []) ⟨hx, hb, hml, hown, hts⟩ gd_good (c_Mo_take_V l D cB cI cJ mo m_row m_shelves m_many m_widths m_mark m_shownMark m_stack m_places m_kinds m_ats m_ends mL sp t d z_fault z_size z_shown z_wasRun wL z_ended z_hints z_hasWidth z_width z_first z_moved z_deepest xL yL (by omega) ) cal_Mo_take_V ml_Mo_155 ⟨Nat.le_of_ble_eq_true rfl, Nat.le_of_ble_eq_true rfl⟩ hZ hP hD hC 0 (ci := 8) rfl rfl rfl rfl hl.1 rfl (Nat.le_of_ble_eq_true rfl) d_Mo_waves_195 ⟨Nat.le_of_ble_eq_true rfl, Nat.le_of_ble_eq_true rfl⟩) hZ hP hD hS hC (fun w1 H locs hq hP hD hS => ?_)
                obtain ⟨t_25, rfl, hv_25⟩ := hq
                have hP : va_P D classes [(m_stack, .inl (cI, 48, .inl g_stack)), (m_mark, .inl (cI, 28000, .inl gm)), (mo, .inr (8, [.int z_fault, .int z_size, .ref m_row, .ref m_shelves, .ref m_many, .ref m_widths, .int (nI mL), .ref m_mark, .int z_shown, .ref m_shownMark, .int z_wasRun, .int wL, .int z_ended, .int (nI sp), .int z_hints, .int z_hasWidth, .int z_width, .int z_first, .int z_moved, .int z_deepest, .int xL, .int yL, .int (nI t_25), .ref m_stack, .ref m_places, .int (nI d), .ref m_kinds, .ref m_ats, .ref m_ends]))] H := hP
                have hD : va_D A_ [(m_stack, .inl (cI, 48, .inl g_stack)), (m_mark, .inl (cI, 28000, .inl gm)), (mo, .inr (8, [.int z_fault, .int z_size, .ref m_row, .ref m_shelves, .ref m_many, .ref m_widths, .int (nI mL), .ref m_mark, .int z_shown, .ref m_shownMark, .int z_wasRun, .int wL, .int z_ended, .int (nI sp), .int z_hints, .int z_hasWidth, .int z_width, .int z_first, .int z_moved, .int z_deepest, .int xL, .int yL, .int (nI t_25), .ref m_stack, .ref m_places, .int (nI d), .ref m_kinds, .ref m_ats, .ref m_ends]))] := hD
                exact t_vret hx hb hr hlk d_Mo_waves_198 (hP.subm (ws' := [(mo, .inr (8, [.int z_fault, .int z_size, .ref m_row, .ref m_shelves, .ref m_many, .ref m_widths, .int (nI mL), .ref m_mark, .int z_shown, .ref m_shownMark, .int z_wasRun, .int wL, .int z_ended, .int (nI sp), .int z_hints, .int z_hasWidth, .int z_width, .int z_first, .int z_moved, .int z_deepest, .int xL, .int yL, .int (nI t_25), .ref m_stack, .ref m_places, .int (nI d), .ref m_kinds, .ref m_ats, .ref m_ends])), (m_stack, .inl (cI, 48, .inl g_stack)), (m_mark, .inl (cI, 28000, .inl gm))]) [2, 0, 1] rfl) (hD.sub (ws' := [(mo, .inr (8, [.int z_fault, .int z_size, .ref m_row, .ref m_shelves, .ref m_many, .ref m_widths, .int (nI mL), .ref m_mark, .int z_shown, .ref m_shownMark, .int z_wasRun, .int wL, .int z_ended, .int (nI sp), .int z_hints, .int z_hasWidth, .int z_width, .int z_first, .int z_moved, .int z_deepest, .int xL, .int yL, .int (nI t_25), .ref m_stack, .ref m_places, .int (nI d), .ref m_kinds, .ref m_ats, .ref m_ends])), (m_stack, .inl (cI, 48, .inl g_stack)), (m_mark, .inl (cI, 28000, .inl gm))]) [2, 0, 1] rfl rfl) hS ⟨rfl, rfl, rfl, _, _, _, mL, t_25, _, rfl, (by omega)⟩
              · refine lv_iload_n hx hb d_Mo_waves_56 rfl (lv_at hl 3 rfl) ?_
                refine lv_iconst (v := 5) hx hb d_Mo_waves_57 (by decide) ?_
                refine lv_iadd hx hb d_Mo_waves_58 ?_
                refine lv_tv (y := nI (i + 5)) (nI_add i 5) ?_
                refine lv_aload_n hx hb d_Mo_waves_59 rfl (lv_at hl 0 rfl) ?_
                refine va_get (D := D) (ci := 8) (v := .int (nI t)) (C := R_Mo) (T := F_Mo) (N := 29) hx hb hts i_Mo hown hZ.1 hP 0 rfl rfl 22 (by decide) (hts _ fl_Mo_82) (fun _ h9 => h9) rfl d_Mo_waves_60 ?_
                refine lv_icmp_ne (tgt := 80) hx hb d_Mo_waves_63 (by decide) (fun c_63 => ?_) (fun c_63 => ?_)
                · have n_63 : ¬ (i + 5) = (t) := fun z => c_63 ((nI_eq (a := i + 5) (b := t) (by omega) (by omega)).mpr z)
                  refine lv_iconst (v := 0) hx hb d_Mo_waves_80 (by decide) ?_
                  refine lv_istore (lv' := [(4, .int 0), (0, .ref mo), (1, .int c), (2, .int (nI (t - t % 4))), (3, .int (nI i))]) hx hb d_Mo_waves_81 hl (by decide) rfl (fun ls hl => ?_)
                  refine lv_iload_n hx hb d_Mo_waves_83 rfl (lv_at hl 4 rfl) ?_
                  refine lv_bipush (v := 8) hx hb d_Mo_waves_84 (by decide) ?_
                  refine lv_irem hx hb d_Mo_waves_86 (by decide) ?_
                  refine lv_tv (y := nI (i % 8)) (pk_rem (a := i) (d := 8) (by omega) (by omega) (by omega)) ?_
                  refine lv_if_ne (tgt := 94) hx hb d_Mo_waves_87 (by decide) (fun c_87 => ?_) (fun c_87 => ?_)
                  · have n_87 : ¬ (i % 8) = (0) := fun z => c_87 ((nI_eq (a := i % 8) (b := 0) (by omega) (by omega)).mpr z)
                    refine lv_iconst (v := 0) hx hb d_Mo_waves_94 (by decide) ?_
                    refine lv_iload_n hx hb d_Mo_waves_95 rfl (lv_at hl 2 rfl) ?_
                    refine lv_icmp_ne (tgt := 103) hx hb d_Mo_waves_96 (by decide) (fun c_96 => ?_) (fun c_96 => ?_)
                    · refine lv_iconst (v := 0) hx hb d_Mo_waves_103 (by decide) ?_
                      refine lv_istore (lv' := [(5, .int 0), (4, .int 0), (0, .ref mo), (1, .int c), (2, .int (nI (t - t % 4))), (3, .int (nI i))]) hx hb d_Mo_waves_104 hl (by decide) rfl (fun ls hl => ?_)
                      refine lv_iload hx hb d_Mo_waves_106 (lv_at hl 0 rfl) ?_
                      refine lv_if_eq (tgt := 151) hx hb d_Mo_waves_108 (by decide) (fun c_108 => ?_) (fun c_108 => absurd (by decide) c_108)
                      clear c_108
                      refine lv_aload_n hx hb d_Mo_waves_151 rfl (lv_at hl 2 rfl) ?_
                      refine lv_iconst (v := 0) hx hb d_Mo_waves_152 (by decide) ?_
                      refine lv_aload_n hx hb d_Mo_waves_153 rfl (lv_at hl 2 rfl) ?_
                      refine va_get (D := D) (ci := 8) (v := .ref m_stack) (C := R_Mo) (T := F_Mo) (N := 29) hx hb hts i_Mo hown hZ.1 hP 0 rfl rfl 23 (by decide) (hts _ fl_Mo_29) (fun _ h9 => h9) rfl d_Mo_waves_154 ?_
                      refine lv_iload_n hx hb d_Mo_waves_157 rfl (lv_at hl 5 rfl) ?_
                      refine va_iald hx hb hZ.1 hP 1 1 rfl rfl (vp_in_nI (by omega) (by omega)) d_Mo_waves_158 ?_
                      refine lv_tv (y := g_stack i) (by rw [nI_clamp (by omega)]) ?_
                      refine lv_aload_n hx hb d_Mo_waves_159 rfl (lv_at hl 2 rfl) ?_
                      refine va_get (D := D) (ci := 8) (v := .ref m_stack) (C := R_Mo) (T := F_Mo) (N := 29) hx hb hts i_Mo hown hZ.1 hP 0 rfl rfl 23 (by decide) (hts _ fl_Mo_29) (fun _ h9 => h9) rfl d_Mo_waves_160 ?_
                      refine lv_iload_n hx hb d_Mo_waves_163 rfl (lv_at hl 5 rfl) ?_
                      refine lv_iconst (v := 1) hx hb d_Mo_waves_164 (by decide) ?_
                      refine lv_iadd hx hb d_Mo_waves_165 ?_
                      refine lv_tv (y := nI (i + 1)) (nI_add i 1) ?_
                      refine va_iald hx hb hZ.1 hP 1 1 rfl rfl (vp_in_nI (by omega) (by omega)) d_Mo_waves_166 ?_
                      refine lv_tv (y := g_stack (i + 1)) (by rw [nI_clamp (by omega)]) ?_
                      refine lv_aload_n hx hb d_Mo_waves_167 rfl (lv_at hl 2 rfl) ?_
                      refine va_get (D := D) (ci := 8) (v := .ref m_stack) (C := R_Mo) (T := F_Mo) (N := 29) hx hb hts i_Mo hown hZ.1 hP 0 rfl rfl 23 (by decide) (hts _ fl_Mo_29) (fun _ h9 => h9) rfl d_Mo_waves_168 ?_
                      refine lv_iload_n hx hb d_Mo_waves_171 rfl (lv_at hl 5 rfl) ?_
                      refine lv_iconst (v := 2) hx hb d_Mo_waves_172 (by decide) ?_
                      refine lv_iadd hx hb d_Mo_waves_173 ?_
                      refine lv_tv (y := nI (i + 2)) (nI_add i 2) ?_
                      refine va_iald hx hb hZ.1 hP 1 1 rfl rfl (vp_in_nI (by omega) (by omega)) d_Mo_waves_174 ?_
                      refine lv_tv (y := g_stack (i + 2)) (by rw [nI_clamp (by omega)]) ?_
                      refine lv_aload_n hx hb d_Mo_waves_175 rfl (lv_at hl 2 rfl) ?_
                      refine va_get (D := D) (ci := 8) (v := .ref m_stack) (C := R_Mo) (T := F_Mo) (N := 29) hx hb hts i_Mo hown hZ.1 hP 0 rfl rfl 23 (by decide) (hts _ fl_Mo_29) (fun _ h9 => h9) rfl d_Mo_waves_176 ?_
                      refine lv_iload_n hx hb d_Mo_waves_179 rfl (lv_at hl 5 rfl) ?_
                      refine lv_iconst (v := 3) hx hb d_Mo_waves_180 (by decide) ?_
                      refine lv_iadd hx hb d_Mo_waves_181 ?_
                      refine lv_tv (y := nI (i + 3)) (nI_add i 3) ?_
                      refine va_iald hx hb hZ.1 hP 1 1 rfl rfl (vp_in_nI (by omega) (by omega)) d_Mo_waves_182 ?_
                      refine lv_tv (y := g_stack (i + 3)) (by rw [nI_clamp (by omega)]) ?_
                      refine lv_iload hx hb d_Mo_waves_183 (lv_at hl 1 rfl) ?_
                      have hC : Cut [(mo, .inr (8, [.int z_fault, .int z_size, .ref m_row, .ref m_shelves, .ref m_many, .ref m_widths, .int (nI mL), .ref m_mark, .int z_shown, .ref m_shownMark, .int z_wasRun, .int wL, .int z_ended, .int (nI sp), .int z_hints, .int z_hasWidth, .int z_width, .int z_first, .int z_moved, .int z_deepest, .int xL, .int yL, .int (nI t), .ref m_stack, .ref m_places, .int (nI d), .ref m_kinds, .ref m_ats, .ref m_ends])), (m_stack, .inl (cI, 48, .inl g_stack)), (m_mark, .inl (cI, 28000, .inl gm))] [(mo, .inr (8, [.int z_fault, .int z_size, .ref m_row, .ref m_shelves, .ref m_many, .ref m_widths, .int (nI mL), .ref m_mark, .int z_shown, .ref m_shownMark, .int z_wasRun, .int wL, .int z_ended, .int (nI sp), .int z_hints, .int z_hasWidth, .int z_width, .int z_first, .int z_moved, .int z_deepest, .int xL, .int yL, .int (nI t), .ref m_stack, .ref m_places, .int (nI d), .ref m_kinds, .ref m_ats, .ref m_ends])), (m_mark, .inl (cI, 28000, .inl gm))] [(m_stack, .inl (cI, 48, .inl g_stack))] [0, 2] [1] := ⟨rfl, rfl, rfl, rfl, by decide⟩
                      refine goV0 (trV (As := [.int 0, .int (g_stack i), .int (g_stack (i + 1)), .int (g_stack (i + 2)), .int (g_stack (i + 3)), .int 0]) (rest := []) ⟨hx, hb, hml, hown, hts⟩ gd_good (c_Mo_curve l D cB cI cJ mo m_row m_shelves m_many m_widths m_mark m_shownMark m_stack m_places m_kinds m_ats m_ends mL sp t d z_fault z_size z_shown z_wasRun wL z_ended z_hints z_hasWidth z_width z_first z_moved z_deepest xL yL gm 0 (g_stack i) (g_stack (i + 1)) (g_stack (i + 2)) (g_stack (i + 3)) 0 (by omega) ) cal_Mo_curve ml_Mo_158 ⟨Nat.le_of_ble_eq_true rfl, Nat.le_of_ble_eq_true rfl⟩ hZ hP hD hC 0 (ci := 8) rfl rfl rfl rfl hl.1 rfl (Nat.le_of_ble_eq_true rfl) d_Mo_waves_185 ⟨Nat.le_of_ble_eq_true rfl, Nat.le_of_ble_eq_true rfl⟩) hZ hP hD hS hC (fun w1 H locs hq hP hD hS => ?_)
                      obtain ⟨z_x_26, z_y_26, z_wrong_26, mk_26, g_mark_26, rfl, hv_26⟩ := hq
                      have hP : va_P D classes [(m_stack, .inl (cI, 48, .inl g_stack)), (mo, .inr (8, [.int z_fault, .int z_size, .ref m_row, .ref m_shelves, .ref m_many, .ref m_widths, .int (nI mk_26), .ref m_mark, .int z_shown, .ref m_shownMark, .int z_wasRun, .int z_wrong_26, .int z_ended, .int (nI sp), .int z_hints, .int z_hasWidth, .int z_width, .int z_first, .int z_moved, .int z_deepest, .int z_x_26, .int z_y_26, .int (nI t), .ref m_stack, .ref m_places, .int (nI d), .ref m_kinds, .ref m_ats, .ref m_ends])), (m_mark, .inl (cI, 28000, .inl g_mark_26))] H := hP
                      have hD : va_D A_ [(m_stack, .inl (cI, 48, .inl g_stack)), (mo, .inr (8, [.int z_fault, .int z_size, .ref m_row, .ref m_shelves, .ref m_many, .ref m_widths, .int (nI mk_26), .ref m_mark, .int z_shown, .ref m_shownMark, .int z_wasRun, .int z_wrong_26, .int z_ended, .int (nI sp), .int z_hints, .int z_hasWidth, .int z_width, .int z_first, .int z_moved, .int z_deepest, .int z_x_26, .int z_y_26, .int (nI t), .ref m_stack, .ref m_places, .int (nI d), .ref m_kinds, .ref m_ats, .ref m_ends])), (m_mark, .inl (cI, 28000, .inl g_mark_26))] := hD
                      refine lv_iinc (v := nI (i + 4)) (lv' := [(3, .int (nI (i + 4))), (5, .int 0), (4, .int 0), (0, .ref mo), (1, .int c), (2, .int (nI (t - t % 4)))]) hx hb d_Mo_waves_188 hl (k := 5) rfl (nI_add i 4) (by decide) rfl (fun ls hl => ?_)
                      refine lv_goto (tgt := 44) hx hb d_Mo_waves_191 (by decide) ?_
                      exact ih_44  (i + 4) z_x_26 z_y_26 z_wrong_26 mk_26 g_mark_26 _ _ _ ⟨by omega, by omega, by omega⟩ (by omega) (hP.subm [1, 0, 2] rfl) (hD.sub [1, 0, 2] rfl rfl) hS (lv_sub hl [3, 4, 5, 0] rfl)
                    · refine lv_iconst (v := 1) hx hb d_Mo_waves_99 (by decide) ?_
                      refine lv_goto (tgt := 104) hx hb d_Mo_waves_100 (by decide) ?_
                      refine lv_istore (lv' := [(5, .int 1), (4, .int 0), (0, .ref mo), (1, .int c), (2, .int (nI (t - t % 4))), (3, .int (nI i))]) hx hb d_Mo_waves_104 hl (by decide) rfl (fun ls hl => ?_)
                      refine lv_iload hx hb d_Mo_waves_106 (lv_at hl 0 rfl) ?_
                      refine lv_if_eq (tgt := 151) hx hb d_Mo_waves_108 (by decide) (fun c_108 => absurd c_108 (by decide)) (fun c_108 => ?_)
                      clear c_108
                      refine lv_aload_n hx hb d_Mo_waves_111 rfl (lv_at hl 2 rfl) ?_
                      refine lv_aload_n hx hb d_Mo_waves_112 rfl (lv_at hl 2 rfl) ?_
                      refine va_get (D := D) (ci := 8) (v := .ref m_stack) (C := R_Mo) (T := F_Mo) (N := 29) hx hb hts i_Mo hown hZ.1 hP 0 rfl rfl 23 (by decide) (hts _ fl_Mo_29) (fun _ h9 => h9) rfl d_Mo_waves_113 ?_
                      refine lv_iload_n hx hb d_Mo_waves_116 rfl (lv_at hl 5 rfl) ?_
                      refine va_iald hx hb hZ.1 hP 1 1 rfl rfl (vp_in_nI (by omega) (by omega)) d_Mo_waves_117 ?_
                      refine lv_tv (y := g_stack i) (by rw [nI_clamp (by omega)]) ?_
                      refine lv_iconst (v := 0) hx hb d_Mo_waves_118 (by decide) ?_
                      refine lv_aload_n hx hb d_Mo_waves_119 rfl (lv_at hl 2 rfl) ?_
                      refine va_get (D := D) (ci := 8) (v := .ref m_stack) (C := R_Mo) (T := F_Mo) (N := 29) hx hb hts i_Mo hown hZ.1 hP 0 rfl rfl 23 (by decide) (hts _ fl_Mo_29) (fun _ h9 => h9) rfl d_Mo_waves_120 ?_
                      refine lv_iload_n hx hb d_Mo_waves_123 rfl (lv_at hl 5 rfl) ?_
                      refine lv_iconst (v := 1) hx hb d_Mo_waves_124 (by decide) ?_
                      refine lv_iadd hx hb d_Mo_waves_125 ?_
                      refine lv_tv (y := nI (i + 1)) (nI_add i 1) ?_
                      refine va_iald hx hb hZ.1 hP 1 1 rfl rfl (vp_in_nI (by omega) (by omega)) d_Mo_waves_126 ?_
                      refine lv_tv (y := g_stack (i + 1)) (by rw [nI_clamp (by omega)]) ?_
                      refine lv_aload_n hx hb d_Mo_waves_127 rfl (lv_at hl 2 rfl) ?_
                      refine va_get (D := D) (ci := 8) (v := .ref m_stack) (C := R_Mo) (T := F_Mo) (N := 29) hx hb hts i_Mo hown hZ.1 hP 0 rfl rfl 23 (by decide) (hts _ fl_Mo_29) (fun _ h9 => h9) rfl d_Mo_waves_128 ?_
                      refine lv_iload_n hx hb d_Mo_waves_131 rfl (lv_at hl 5 rfl) ?_
                      refine lv_iconst (v := 2) hx hb d_Mo_waves_132 (by decide) ?_
                      refine lv_iadd hx hb d_Mo_waves_133 ?_
                      refine lv_tv (y := nI (i + 2)) (nI_add i 2) ?_
                      refine va_iald hx hb hZ.1 hP 1 1 rfl rfl (vp_in_nI (by omega) (by omega)) d_Mo_waves_134 ?_
                      refine lv_tv (y := g_stack (i + 2)) (by rw [nI_clamp (by omega)]) ?_
                      refine lv_iload hx hb d_Mo_waves_135 (lv_at hl 1 rfl) ?_
                      refine lv_aload_n hx hb d_Mo_waves_137 rfl (lv_at hl 2 rfl) ?_
                      refine va_get (D := D) (ci := 8) (v := .ref m_stack) (C := R_Mo) (T := F_Mo) (N := 29) hx hb hts i_Mo hown hZ.1 hP 0 rfl rfl 23 (by decide) (hts _ fl_Mo_29) (fun _ h9 => h9) rfl d_Mo_waves_138 ?_
                      refine lv_iload_n hx hb d_Mo_waves_141 rfl (lv_at hl 5 rfl) ?_
                      refine lv_iconst (v := 3) hx hb d_Mo_waves_142 (by decide) ?_
                      refine lv_iadd hx hb d_Mo_waves_143 ?_
                      refine lv_tv (y := nI (i + 3)) (nI_add i 3) ?_
                      refine va_iald hx hb hZ.1 hP 1 1 rfl rfl (vp_in_nI (by omega) (by omega)) d_Mo_waves_144 ?_
                      refine lv_tv (y := g_stack (i + 3)) (by rw [nI_clamp (by omega)]) ?_
                      have hC : Cut [(mo, .inr (8, [.int z_fault, .int z_size, .ref m_row, .ref m_shelves, .ref m_many, .ref m_widths, .int (nI mL), .ref m_mark, .int z_shown, .ref m_shownMark, .int z_wasRun, .int wL, .int z_ended, .int (nI sp), .int z_hints, .int z_hasWidth, .int z_width, .int z_first, .int z_moved, .int z_deepest, .int xL, .int yL, .int (nI t), .ref m_stack, .ref m_places, .int (nI d), .ref m_kinds, .ref m_ats, .ref m_ends])), (m_stack, .inl (cI, 48, .inl g_stack)), (m_mark, .inl (cI, 28000, .inl gm))] [(mo, .inr (8, [.int z_fault, .int z_size, .ref m_row, .ref m_shelves, .ref m_many, .ref m_widths, .int (nI mL), .ref m_mark, .int z_shown, .ref m_shownMark, .int z_wasRun, .int wL, .int z_ended, .int (nI sp), .int z_hints, .int z_hasWidth, .int z_width, .int z_first, .int z_moved, .int z_deepest, .int xL, .int yL, .int (nI t), .ref m_stack, .ref m_places, .int (nI d), .ref m_kinds, .ref m_ats, .ref m_ends])), (m_mark, .inl (cI, 28000, .inl gm))] [(m_stack, .inl (cI, 48, .inl g_stack))] [0, 2] [1] := ⟨rfl, rfl, rfl, rfl, by decide⟩
                      refine goV0 (trV (As := [.int (g_stack i), .int 0, .int (g_stack (i + 1)), .int (g_stack (i + 2)), .int 0, .int (g_stack (i + 3))]) (rest := []) ⟨hx, hb, hml, hown, hts⟩ gd_good (c_Mo_curve l D cB cI cJ mo m_row m_shelves m_many m_widths m_mark m_shownMark m_stack m_places m_kinds m_ats m_ends mL sp t d z_fault z_size z_shown z_wasRun wL z_ended z_hints z_hasWidth z_width z_first z_moved z_deepest xL yL gm (g_stack i) 0 (g_stack (i + 1)) (g_stack (i + 2)) 0 (g_stack (i + 3)) (by omega) ) cal_Mo_curve ml_Mo_158 ⟨Nat.le_of_ble_eq_true rfl, Nat.le_of_ble_eq_true rfl⟩ hZ hP hD hC 0 (ci := 8) rfl rfl rfl rfl hl.1 rfl (Nat.le_of_ble_eq_true rfl) d_Mo_waves_145 ⟨Nat.le_of_ble_eq_true rfl, Nat.le_of_ble_eq_true rfl⟩) hZ hP hD hS hC (fun w1 H locs hq hP hD hS => ?_)
                      obtain ⟨z_x_27, z_y_27, z_wrong_27, mk_27, g_mark_27, rfl, hv_27⟩ := hq
                      have hP : va_P D classes [(m_stack, .inl (cI, 48, .inl g_stack)), (mo, .inr (8, [.int z_fault, .int z_size, .ref m_row, .ref m_shelves, .ref m_many, .ref m_widths, .int (nI mk_27), .ref m_mark, .int z_shown, .ref m_shownMark, .int z_wasRun, .int z_wrong_27, .int z_ended, .int (nI sp), .int z_hints, .int z_hasWidth, .int z_width, .int z_first, .int z_moved, .int z_deepest, .int z_x_27, .int z_y_27, .int (nI t), .ref m_stack, .ref m_places, .int (nI d), .ref m_kinds, .ref m_ats, .ref m_ends])), (m_mark, .inl (cI, 28000, .inl g_mark_27))] H := hP
                      have hD : va_D A_ [(m_stack, .inl (cI, 48, .inl g_stack)), (mo, .inr (8, [.int z_fault, .int z_size, .ref m_row, .ref m_shelves, .ref m_many, .ref m_widths, .int (nI mk_27), .ref m_mark, .int z_shown, .ref m_shownMark, .int z_wasRun, .int z_wrong_27, .int z_ended, .int (nI sp), .int z_hints, .int z_hasWidth, .int z_width, .int z_first, .int z_moved, .int z_deepest, .int z_x_27, .int z_y_27, .int (nI t), .ref m_stack, .ref m_places, .int (nI d), .ref m_kinds, .ref m_ats, .ref m_ends])), (m_mark, .inl (cI, 28000, .inl g_mark_27))] := hD
                      refine lv_goto (tgt := 188) hx hb d_Mo_waves_148 (by decide) ?_
                      refine lv_iinc (v := nI (i + 4)) (lv' := [(3, .int (nI (i + 4))), (5, .int 1), (4, .int 0), (0, .ref mo), (1, .int c), (2, .int (nI (t - t % 4)))]) hx hb d_Mo_waves_188 hl (k := 5) rfl (nI_add i 4) (by decide) rfl (fun ls hl => ?_)
                      refine lv_goto (tgt := 44) hx hb d_Mo_waves_191 (by decide) ?_
                      exact ih_44  (i + 4) z_x_27 z_y_27 z_wrong_27 mk_27 g_mark_27 _ _ _ ⟨by omega, by omega, by omega⟩ (by omega) (hP.subm [1, 0, 2] rfl) (hD.sub [1, 0, 2] rfl rfl) hS (lv_sub hl [3, 4, 5, 0] rfl)
                  · have n_87 : (i % 8) = (0) := (nI_eq (a := i % 8) (b := 0) (by omega) (by omega)).mp c_87
                    refine lv_iconst (v := 1) hx hb d_Mo_waves_90 (by decide) ?_
                    refine lv_goto (tgt := 95) hx hb d_Mo_waves_91 (by decide) ?_
                    refine lv_iload_n hx hb d_Mo_waves_95 rfl (lv_at hl 2 rfl) ?_
                    refine lv_icmp_ne (tgt := 103) hx hb d_Mo_waves_96 (by decide) (fun c_96 => ?_) (fun c_96 => ?_)
                    · refine lv_iconst (v := 0) hx hb d_Mo_waves_103 (by decide) ?_
                      refine lv_istore (lv' := [(5, .int 0), (4, .int 0), (0, .ref mo), (1, .int c), (2, .int (nI (t - t % 4))), (3, .int (nI i))]) hx hb d_Mo_waves_104 hl (by decide) rfl (fun ls hl => ?_)
                      refine lv_iload hx hb d_Mo_waves_106 (lv_at hl 0 rfl) ?_
                      refine lv_if_eq (tgt := 151) hx hb d_Mo_waves_108 (by decide) (fun c_108 => ?_) (fun c_108 => absurd (by decide) c_108)
                      clear c_108
                      refine lv_aload_n hx hb d_Mo_waves_151 rfl (lv_at hl 2 rfl) ?_
                      refine lv_iconst (v := 0) hx hb d_Mo_waves_152 (by decide) ?_
                      refine lv_aload_n hx hb d_Mo_waves_153 rfl (lv_at hl 2 rfl) ?_
                      refine va_get (D := D) (ci := 8) (v := .ref m_stack) (C := R_Mo) (T := F_Mo) (N := 29) hx hb hts i_Mo hown hZ.1 hP 0 rfl rfl 23 (by decide) (hts _ fl_Mo_29) (fun _ h9 => h9) rfl d_Mo_waves_154 ?_
                      refine lv_iload_n hx hb d_Mo_waves_157 rfl (lv_at hl 5 rfl) ?_
                      refine va_iald hx hb hZ.1 hP 1 1 rfl rfl (vp_in_nI (by omega) (by omega)) d_Mo_waves_158 ?_
                      refine lv_tv (y := g_stack i) (by rw [nI_clamp (by omega)]) ?_
                      refine lv_aload_n hx hb d_Mo_waves_159 rfl (lv_at hl 2 rfl) ?_
                      refine va_get (D := D) (ci := 8) (v := .ref m_stack) (C := R_Mo) (T := F_Mo) (N := 29) hx hb hts i_Mo hown hZ.1 hP 0 rfl rfl 23 (by decide) (hts _ fl_Mo_29) (fun _ h9 => h9) rfl d_Mo_waves_160 ?_
                      refine lv_iload_n hx hb d_Mo_waves_163 rfl (lv_at hl 5 rfl) ?_
                      refine lv_iconst (v := 1) hx hb d_Mo_waves_164 (by decide) ?_
                      refine lv_iadd hx hb d_Mo_waves_165 ?_
                      refine lv_tv (y := nI (i + 1)) (nI_add i 1) ?_
                      refine va_iald hx hb hZ.1 hP 1 1 rfl rfl (vp_in_nI (by omega) (by omega)) d_Mo_waves_166 ?_
                      refine lv_tv (y := g_stack (i + 1)) (by rw [nI_clamp (by omega)]) ?_
                      refine lv_aload_n hx hb d_Mo_waves_167 rfl (lv_at hl 2 rfl) ?_
                      refine va_get (D := D) (ci := 8) (v := .ref m_stack) (C := R_Mo) (T := F_Mo) (N := 29) hx hb hts i_Mo hown hZ.1 hP 0 rfl rfl 23 (by decide) (hts _ fl_Mo_29) (fun _ h9 => h9) rfl d_Mo_waves_168 ?_
                      refine lv_iload_n hx hb d_Mo_waves_171 rfl (lv_at hl 5 rfl) ?_
                      refine lv_iconst (v := 2) hx hb d_Mo_waves_172 (by decide) ?_
                      refine lv_iadd hx hb d_Mo_waves_173 ?_
                      refine lv_tv (y := nI (i + 2)) (nI_add i 2) ?_
                      refine va_iald hx hb hZ.1 hP 1 1 rfl rfl (vp_in_nI (by omega) (by omega)) d_Mo_waves_174 ?_
                      refine lv_tv (y := g_stack (i + 2)) (by rw [nI_clamp (by omega)]) ?_
                      refine lv_aload_n hx hb d_Mo_waves_175 rfl (lv_at hl 2 rfl) ?_
                      refine va_get (D := D) (ci := 8) (v := .ref m_stack) (C := R_Mo) (T := F_Mo) (N := 29) hx hb hts i_Mo hown hZ.1 hP 0 rfl rfl 23 (by decide) (hts _ fl_Mo_29) (fun _ h9 => h9) rfl d_Mo_waves_176 ?_
                      refine lv_iload_n hx hb d_Mo_waves_179 rfl (lv_at hl 5 rfl) ?_
                      refine lv_iconst (v := 3) hx hb d_Mo_waves_180 (by decide) ?_
                      refine lv_iadd hx hb d_Mo_waves_181 ?_
                      refine lv_tv (y := nI (i + 3)) (nI_add i 3) ?_
                      refine va_iald hx hb hZ.1 hP 1 1 rfl rfl (vp_in_nI (by omega) (by omega)) d_Mo_waves_182 ?_
                      refine lv_tv (y := g_stack (i + 3)) (by rw [nI_clamp (by omega)]) ?_
                      refine lv_iload hx hb d_Mo_waves_183 (lv_at hl 1 rfl) ?_
                      have hC : Cut [(mo, .inr (8, [.int z_fault, .int z_size, .ref m_row, .ref m_shelves, .ref m_many, .ref m_widths, .int (nI mL), .ref m_mark, .int z_shown, .ref m_shownMark, .int z_wasRun, .int wL, .int z_ended, .int (nI sp), .int z_hints, .int z_hasWidth, .int z_width, .int z_first, .int z_moved, .int z_deepest, .int xL, .int yL, .int (nI t), .ref m_stack, .ref m_places, .int (nI d), .ref m_kinds, .ref m_ats, .ref m_ends])), (m_stack, .inl (cI, 48, .inl g_stack)), (m_mark, .inl (cI, 28000, .inl gm))] [(mo, .inr (8, [.int z_fault, .int z_size, .ref m_row, .ref m_shelves, .ref m_many, .ref m_widths, .int (nI mL), .ref m_mark, .int z_shown, .ref m_shownMark, .int z_wasRun, .int wL, .int z_ended, .int (nI sp), .int z_hints, .int z_hasWidth, .int z_width, .int z_first, .int z_moved, .int z_deepest, .int xL, .int yL, .int (nI t), .ref m_stack, .ref m_places, .int (nI d), .ref m_kinds, .ref m_ats, .ref m_ends])), (m_mark, .inl (cI, 28000, .inl gm))] [(m_stack, .inl (cI, 48, .inl g_stack))] [0, 2] [1] := ⟨rfl, rfl, rfl, rfl, by decide⟩
                      refine goV0 (trV (As := [.int 0, .int (g_stack i), .int (g_stack (i + 1)), .int (g_stack (i + 2)), .int (g_stack (i + 3)), .int 0]) (rest := []) ⟨hx, hb, hml, hown, hts⟩ gd_good (c_Mo_curve l D cB cI cJ mo m_row m_shelves m_many m_widths m_mark m_shownMark m_stack m_places m_kinds m_ats m_ends mL sp t d z_fault z_size z_shown z_wasRun wL z_ended z_hints z_hasWidth z_width z_first z_moved z_deepest xL yL gm 0 (g_stack i) (g_stack (i + 1)) (g_stack (i + 2)) (g_stack (i + 3)) 0 (by omega) ) cal_Mo_curve ml_Mo_158 ⟨Nat.le_of_ble_eq_true rfl, Nat.le_of_ble_eq_true rfl⟩ hZ hP hD hC 0 (ci := 8) rfl rfl rfl rfl hl.1 rfl (Nat.le_of_ble_eq_true rfl) d_Mo_waves_185 ⟨Nat.le_of_ble_eq_true rfl, Nat.le_of_ble_eq_true rfl⟩) hZ hP hD hS hC (fun w1 H locs hq hP hD hS => ?_)
                      obtain ⟨z_x_28, z_y_28, z_wrong_28, mk_28, g_mark_28, rfl, hv_28⟩ := hq
                      have hP : va_P D classes [(m_stack, .inl (cI, 48, .inl g_stack)), (mo, .inr (8, [.int z_fault, .int z_size, .ref m_row, .ref m_shelves, .ref m_many, .ref m_widths, .int (nI mk_28), .ref m_mark, .int z_shown, .ref m_shownMark, .int z_wasRun, .int z_wrong_28, .int z_ended, .int (nI sp), .int z_hints, .int z_hasWidth, .int z_width, .int z_first, .int z_moved, .int z_deepest, .int z_x_28, .int z_y_28, .int (nI t), .ref m_stack, .ref m_places, .int (nI d), .ref m_kinds, .ref m_ats, .ref m_ends])), (m_mark, .inl (cI, 28000, .inl g_mark_28))] H := hP
                      have hD : va_D A_ [(m_stack, .inl (cI, 48, .inl g_stack)), (mo, .inr (8, [.int z_fault, .int z_size, .ref m_row, .ref m_shelves, .ref m_many, .ref m_widths, .int (nI mk_28), .ref m_mark, .int z_shown, .ref m_shownMark, .int z_wasRun, .int z_wrong_28, .int z_ended, .int (nI sp), .int z_hints, .int z_hasWidth, .int z_width, .int z_first, .int z_moved, .int z_deepest, .int z_x_28, .int z_y_28, .int (nI t), .ref m_stack, .ref m_places, .int (nI d), .ref m_kinds, .ref m_ats, .ref m_ends])), (m_mark, .inl (cI, 28000, .inl g_mark_28))] := hD
                      refine lv_iinc (v := nI (i + 4)) (lv' := [(3, .int (nI (i + 4))), (5, .int 0), (4, .int 0), (0, .ref mo), (1, .int c), (2, .int (nI (t - t % 4)))]) hx hb d_Mo_waves_188 hl (k := 5) rfl (nI_add i 4) (by decide) rfl (fun ls hl => ?_)
                      refine lv_goto (tgt := 44) hx hb d_Mo_waves_191 (by decide) ?_
                      exact ih_44  (i + 4) z_x_28 z_y_28 z_wrong_28 mk_28 g_mark_28 _ _ _ ⟨by omega, by omega, by omega⟩ (by omega) (hP.subm [1, 0, 2] rfl) (hD.sub [1, 0, 2] rfl rfl) hS (lv_sub hl [3, 4, 5, 0] rfl)
                    · refine lv_iconst (v := 1) hx hb d_Mo_waves_99 (by decide) ?_
                      refine lv_goto (tgt := 104) hx hb d_Mo_waves_100 (by decide) ?_
                      refine lv_istore (lv' := [(5, .int 1), (4, .int 0), (0, .ref mo), (1, .int c), (2, .int (nI (t - t % 4))), (3, .int (nI i))]) hx hb d_Mo_waves_104 hl (by decide) rfl (fun ls hl => ?_)
                      refine lv_iload hx hb d_Mo_waves_106 (lv_at hl 0 rfl) ?_
                      refine lv_if_eq (tgt := 151) hx hb d_Mo_waves_108 (by decide) (fun c_108 => absurd c_108 (by decide)) (fun c_108 => ?_)
                      clear c_108
                      refine lv_aload_n hx hb d_Mo_waves_111 rfl (lv_at hl 2 rfl) ?_
                      refine lv_aload_n hx hb d_Mo_waves_112 rfl (lv_at hl 2 rfl) ?_
                      refine va_get (D := D) (ci := 8) (v := .ref m_stack) (C := R_Mo) (T := F_Mo) (N := 29) hx hb hts i_Mo hown hZ.1 hP 0 rfl rfl 23 (by decide) (hts _ fl_Mo_29) (fun _ h9 => h9) rfl d_Mo_waves_113 ?_
                      refine lv_iload_n hx hb d_Mo_waves_116 rfl (lv_at hl 5 rfl) ?_
                      refine va_iald hx hb hZ.1 hP 1 1 rfl rfl (vp_in_nI (by omega) (by omega)) d_Mo_waves_117 ?_
                      refine lv_tv (y := g_stack i) (by rw [nI_clamp (by omega)]) ?_
                      refine lv_iconst (v := 0) hx hb d_Mo_waves_118 (by decide) ?_
                      refine lv_aload_n hx hb d_Mo_waves_119 rfl (lv_at hl 2 rfl) ?_
                      refine va_get (D := D) (ci := 8) (v := .ref m_stack) (C := R_Mo) (T := F_Mo) (N := 29) hx hb hts i_Mo hown hZ.1 hP 0 rfl rfl 23 (by decide) (hts _ fl_Mo_29) (fun _ h9 => h9) rfl d_Mo_waves_120 ?_
                      refine lv_iload_n hx hb d_Mo_waves_123 rfl (lv_at hl 5 rfl) ?_
                      refine lv_iconst (v := 1) hx hb d_Mo_waves_124 (by decide) ?_
                      refine lv_iadd hx hb d_Mo_waves_125 ?_
                      refine lv_tv (y := nI (i + 1)) (nI_add i 1) ?_
                      refine va_iald hx hb hZ.1 hP 1 1 rfl rfl (vp_in_nI (by omega) (by omega)) d_Mo_waves_126 ?_
                      refine lv_tv (y := g_stack (i + 1)) (by rw [nI_clamp (by omega)]) ?_
                      refine lv_aload_n hx hb d_Mo_waves_127 rfl (lv_at hl 2 rfl) ?_
                      refine va_get (D := D) (ci := 8) (v := .ref m_stack) (C := R_Mo) (T := F_Mo) (N := 29) hx hb hts i_Mo hown hZ.1 hP 0 rfl rfl 23 (by decide) (hts _ fl_Mo_29) (fun _ h9 => h9) rfl d_Mo_waves_128 ?_
                      refine lv_iload_n hx hb d_Mo_waves_131 rfl (lv_at hl 5 rfl) ?_
                      refine lv_iconst (v := 2) hx hb d_Mo_waves_132 (by decide) ?_
                      refine lv_iadd hx hb d_Mo_waves_133 ?_
                      refine lv_tv (y := nI (i + 2)) (nI_add i 2) ?_
                      refine va_iald hx hb hZ.1 hP 1 1 rfl rfl (vp_in_nI (by omega) (by omega)) d_Mo_waves_134 ?_
                      refine lv_tv (y := g_stack (i + 2)) (by rw [nI_clamp (by omega)]) ?_
                      refine lv_iload hx hb d_Mo_waves_135 (lv_at hl 1 rfl) ?_
                      refine lv_aload_n hx hb d_Mo_waves_137 rfl (lv_at hl 2 rfl) ?_
                      refine va_get (D := D) (ci := 8) (v := .ref m_stack) (C := R_Mo) (T := F_Mo) (N := 29) hx hb hts i_Mo hown hZ.1 hP 0 rfl rfl 23 (by decide) (hts _ fl_Mo_29) (fun _ h9 => h9) rfl d_Mo_waves_138 ?_
                      refine lv_iload_n hx hb d_Mo_waves_141 rfl (lv_at hl 5 rfl) ?_
                      refine lv_iconst (v := 3) hx hb d_Mo_waves_142 (by decide) ?_
                      refine lv_iadd hx hb d_Mo_waves_143 ?_
                      refine lv_tv (y := nI (i + 3)) (nI_add i 3) ?_
                      refine va_iald hx hb hZ.1 hP 1 1 rfl rfl (vp_in_nI (by omega) (by omega)) d_Mo_waves_144 ?_
                      refine lv_tv (y := g_stack (i + 3)) (by rw [nI_clamp (by omega)]) ?_
                      have hC : Cut [(mo, .inr (8, [.int z_fault, .int z_size, .ref m_row, .ref m_shelves, .ref m_many, .ref m_widths, .int (nI mL), .ref m_mark, .int z_shown, .ref m_shownMark, .int z_wasRun, .int wL, .int z_ended, .int (nI sp), .int z_hints, .int z_hasWidth, .int z_width, .int z_first, .int z_moved, .int z_deepest, .int xL, .int yL, .int (nI t), .ref m_stack, .ref m_places, .int (nI d), .ref m_kinds, .ref m_ats, .ref m_ends])), (m_stack, .inl (cI, 48, .inl g_stack)), (m_mark, .inl (cI, 28000, .inl gm))] [(mo, .inr (8, [.int z_fault, .int z_size, .ref m_row, .ref m_shelves, .ref m_many, .ref m_widths, .int (nI mL), .ref m_mark, .int z_shown, .ref m_shownMark, .int z_wasRun, .int wL, .int z_ended, .int (nI sp), .int z_hints, .int z_hasWidth, .int z_width, .int z_first, .int z_moved, .int z_deepest, .int xL, .int yL, .int (nI t), .ref m_stack, .ref m_places, .int (nI d), .ref m_kinds, .ref m_ats, .ref m_ends])), (m_mark, .inl (cI, 28000, .inl gm))] [(m_stack, .inl (cI, 48, .inl g_stack))] [0, 2] [1] := ⟨rfl, rfl, rfl, rfl, by decide⟩
                      refine goV0 (trV (As := [.int (g_stack i), .int 0, .int (g_stack (i + 1)), .int (g_stack (i + 2)), .int 0, .int (g_stack (i + 3))]) (rest := []) ⟨hx, hb, hml, hown, hts⟩ gd_good (c_Mo_curve l D cB cI cJ mo m_row m_shelves m_many m_widths m_mark m_shownMark m_stack m_places m_kinds m_ats m_ends mL sp t d z_fault z_size z_shown z_wasRun wL z_ended z_hints z_hasWidth z_width z_first z_moved z_deepest xL yL gm (g_stack i) 0 (g_stack (i + 1)) (g_stack (i + 2)) 0 (g_stack (i + 3)) (by omega) ) cal_Mo_curve ml_Mo_158 ⟨Nat.le_of_ble_eq_true rfl, Nat.le_of_ble_eq_true rfl⟩ hZ hP hD hC 0 (ci := 8) rfl rfl rfl rfl hl.1 rfl (Nat.le_of_ble_eq_true rfl) d_Mo_waves_145 ⟨Nat.le_of_ble_eq_true rfl, Nat.le_of_ble_eq_true rfl⟩) hZ hP hD hS hC (fun w1 H locs hq hP hD hS => ?_)
                      obtain ⟨z_x_29, z_y_29, z_wrong_29, mk_29, g_mark_29, rfl, hv_29⟩ := hq
                      have hP : va_P D classes [(m_stack, .inl (cI, 48, .inl g_stack)), (mo, .inr (8, [.int z_fault, .int z_size, .ref m_row, .ref m_shelves, .ref m_many, .ref m_widths, .int (nI mk_29), .ref m_mark, .int z_shown, .ref m_shownMark, .int z_wasRun, .int z_wrong_29, .int z_ended, .int (nI sp), .int z_hints, .int z_hasWidth, .int z_width, .int z_first, .int z_moved, .int z_deepest, .int z_x_29, .int z_y_29, .int (nI t), .ref m_stack, .ref m_places, .int (nI d), .ref m_kinds, .ref m_ats, .ref m_ends])), (m_mark, .inl (cI, 28000, .inl g_mark_29))] H := hP
                      have hD : va_D A_ [(m_stack, .inl (cI, 48, .inl g_stack)), (mo, .inr (8, [.int z_fault, .int z_size, .ref m_row, .ref m_shelves, .ref m_many, .ref m_widths, .int (nI mk_29), .ref m_mark, .int z_shown, .ref m_shownMark, .int z_wasRun, .int z_wrong_29, .int z_ended, .int (nI sp), .int z_hints, .int z_hasWidth, .int z_width, .int z_first, .int z_moved, .int z_deepest, .int z_x_29, .int z_y_29, .int (nI t), .ref m_stack, .ref m_places, .int (nI d), .ref m_kinds, .ref m_ats, .ref m_ends])), (m_mark, .inl (cI, 28000, .inl g_mark_29))] := hD
                      refine lv_goto (tgt := 188) hx hb d_Mo_waves_148 (by decide) ?_
                      refine lv_iinc (v := nI (i + 4)) (lv' := [(3, .int (nI (i + 4))), (5, .int 1), (4, .int 0), (0, .ref mo), (1, .int c), (2, .int (nI (t - t % 4)))]) hx hb d_Mo_waves_188 hl (k := 5) rfl (nI_add i 4) (by decide) rfl (fun ls hl => ?_)
                      refine lv_goto (tgt := 44) hx hb d_Mo_waves_191 (by decide) ?_
                      exact ih_44  (i + 4) z_x_29 z_y_29 z_wrong_29 mk_29 g_mark_29 _ _ _ ⟨by omega, by omega, by omega⟩ (by omega) (hP.subm [1, 0, 2] rfl) (hD.sub [1, 0, 2] rfl rfl) hS (lv_sub hl [3, 4, 5, 0] rfl)
                · have n_63 : (i + 5) = (t) := (nI_eq (a := i + 5) (b := t) (by omega) (by omega)).mp c_63
                  refine lv_aload_n hx hb d_Mo_waves_66 rfl (lv_at hl 0 rfl) ?_
                  refine va_get (D := D) (ci := 8) (v := .ref m_stack) (C := R_Mo) (T := F_Mo) (N := 29) hx hb hts i_Mo hown hZ.1 hP 0 rfl rfl 23 (by decide) (hts _ fl_Mo_29) (fun _ h9 => h9) rfl d_Mo_waves_67 ?_
                  refine lv_aload_n hx hb d_Mo_waves_70 rfl (lv_at hl 0 rfl) ?_
                  refine va_get (D := D) (ci := 8) (v := .int (nI t)) (C := R_Mo) (T := F_Mo) (N := 29) hx hb hts i_Mo hown hZ.1 hP 0 rfl rfl 22 (by decide) (hts _ fl_Mo_82) (fun _ h9 => h9) rfl d_Mo_waves_71 ?_
                  refine lv_iconst (v := 1) hx hb d_Mo_waves_74 (by decide) ?_
                  refine lv_isub hx hb d_Mo_waves_75 ?_
                  refine lv_tv (y := nI (t - 1)) (pk_sub (a := t) (b := 1) (by omega)) ?_
                  refine va_iald hx hb hZ.1 hP 1 1 rfl rfl (vp_in_nI (by omega) (by omega)) d_Mo_waves_76 ?_
                  refine lv_tv (y := g_stack (t - 1)) (by rw [nI_clamp (by omega)]) ?_
                  refine lv_goto (tgt := 81) hx hb d_Mo_waves_77 (by decide) ?_
                  refine lv_istore (lv' := [(4, .int (g_stack (t - 1))), (0, .ref mo), (1, .int c), (2, .int (nI (t - t % 4))), (3, .int (nI i))]) hx hb d_Mo_waves_81 hl (by decide) rfl (fun ls hl => ?_)
                  refine lv_iload_n hx hb d_Mo_waves_83 rfl (lv_at hl 4 rfl) ?_
                  refine lv_bipush (v := 8) hx hb d_Mo_waves_84 (by decide) ?_
                  refine lv_irem hx hb d_Mo_waves_86 (by decide) ?_
                  refine lv_tv (y := nI (i % 8)) (pk_rem (a := i) (d := 8) (by omega) (by omega) (by omega)) ?_
                  refine lv_if_ne (tgt := 94) hx hb d_Mo_waves_87 (by decide) (fun c_87 => ?_) (fun c_87 => ?_)
                  · have n_87 : ¬ (i % 8) = (0) := fun z => c_87 ((nI_eq (a := i % 8) (b := 0) (by omega) (by omega)).mpr z)
                    refine lv_iconst (v := 0) hx hb d_Mo_waves_94 (by decide) ?_
                    refine lv_iload_n hx hb d_Mo_waves_95 rfl (lv_at hl 2 rfl) ?_
                    refine lv_icmp_ne (tgt := 103) hx hb d_Mo_waves_96 (by decide) (fun c_96 => ?_) (fun c_96 => ?_)
                    · refine lv_iconst (v := 0) hx hb d_Mo_waves_103 (by decide) ?_
                      refine lv_istore (lv' := [(5, .int 0), (4, .int (g_stack (t - 1))), (0, .ref mo), (1, .int c), (2, .int (nI (t - t % 4))), (3, .int (nI i))]) hx hb d_Mo_waves_104 hl (by decide) rfl (fun ls hl => ?_)
                      refine lv_iload hx hb d_Mo_waves_106 (lv_at hl 0 rfl) ?_
                      refine lv_if_eq (tgt := 151) hx hb d_Mo_waves_108 (by decide) (fun c_108 => ?_) (fun c_108 => absurd (by decide) c_108)
                      clear c_108
                      refine lv_aload_n hx hb d_Mo_waves_151 rfl (lv_at hl 2 rfl) ?_
                      refine lv_iconst (v := 0) hx hb d_Mo_waves_152 (by decide) ?_
                      refine lv_aload_n hx hb d_Mo_waves_153 rfl (lv_at hl 2 rfl) ?_
                      refine va_get (D := D) (ci := 8) (v := .ref m_stack) (C := R_Mo) (T := F_Mo) (N := 29) hx hb hts i_Mo hown hZ.1 hP 0 rfl rfl 23 (by decide) (hts _ fl_Mo_29) (fun _ h9 => h9) rfl d_Mo_waves_154 ?_
                      refine lv_iload_n hx hb d_Mo_waves_157 rfl (lv_at hl 5 rfl) ?_
                      refine va_iald hx hb hZ.1 hP 1 1 rfl rfl (vp_in_nI (by omega) (by omega)) d_Mo_waves_158 ?_
                      refine lv_tv (y := g_stack i) (by rw [nI_clamp (by omega)]) ?_
                      refine lv_aload_n hx hb d_Mo_waves_159 rfl (lv_at hl 2 rfl) ?_
                      refine va_get (D := D) (ci := 8) (v := .ref m_stack) (C := R_Mo) (T := F_Mo) (N := 29) hx hb hts i_Mo hown hZ.1 hP 0 rfl rfl 23 (by decide) (hts _ fl_Mo_29) (fun _ h9 => h9) rfl d_Mo_waves_160 ?_
                      refine lv_iload_n hx hb d_Mo_waves_163 rfl (lv_at hl 5 rfl) ?_
                      refine lv_iconst (v := 1) hx hb d_Mo_waves_164 (by decide) ?_
                      refine lv_iadd hx hb d_Mo_waves_165 ?_
                      refine lv_tv (y := nI (i + 1)) (nI_add i 1) ?_
                      refine va_iald hx hb hZ.1 hP 1 1 rfl rfl (vp_in_nI (by omega) (by omega)) d_Mo_waves_166 ?_
                      refine lv_tv (y := g_stack (i + 1)) (by rw [nI_clamp (by omega)]) ?_
                      refine lv_aload_n hx hb d_Mo_waves_167 rfl (lv_at hl 2 rfl) ?_
                      refine va_get (D := D) (ci := 8) (v := .ref m_stack) (C := R_Mo) (T := F_Mo) (N := 29) hx hb hts i_Mo hown hZ.1 hP 0 rfl rfl 23 (by decide) (hts _ fl_Mo_29) (fun _ h9 => h9) rfl d_Mo_waves_168 ?_
                      refine lv_iload_n hx hb d_Mo_waves_171 rfl (lv_at hl 5 rfl) ?_
                      refine lv_iconst (v := 2) hx hb d_Mo_waves_172 (by decide) ?_
                      refine lv_iadd hx hb d_Mo_waves_173 ?_
                      refine lv_tv (y := nI (i + 2)) (nI_add i 2) ?_
                      refine va_iald hx hb hZ.1 hP 1 1 rfl rfl (vp_in_nI (by omega) (by omega)) d_Mo_waves_174 ?_
                      refine lv_tv (y := g_stack (i + 2)) (by rw [nI_clamp (by omega)]) ?_
                      refine lv_aload_n hx hb d_Mo_waves_175 rfl (lv_at hl 2 rfl) ?_
                      refine va_get (D := D) (ci := 8) (v := .ref m_stack) (C := R_Mo) (T := F_Mo) (N := 29) hx hb hts i_Mo hown hZ.1 hP 0 rfl rfl 23 (by decide) (hts _ fl_Mo_29) (fun _ h9 => h9) rfl d_Mo_waves_176 ?_
                      refine lv_iload_n hx hb d_Mo_waves_179 rfl (lv_at hl 5 rfl) ?_
                      refine lv_iconst (v := 3) hx hb d_Mo_waves_180 (by decide) ?_
                      refine lv_iadd hx hb d_Mo_waves_181 ?_
                      refine lv_tv (y := nI (i + 3)) (nI_add i 3) ?_
                      refine va_iald hx hb hZ.1 hP 1 1 rfl rfl (vp_in_nI (by omega) (by omega)) d_Mo_waves_182 ?_
                      refine lv_tv (y := g_stack (i + 3)) (by rw [nI_clamp (by omega)]) ?_
                      refine lv_iload hx hb d_Mo_waves_183 (lv_at hl 1 rfl) ?_
                      have hC : Cut [(mo, .inr (8, [.int z_fault, .int z_size, .ref m_row, .ref m_shelves, .ref m_many, .ref m_widths, .int (nI mL), .ref m_mark, .int z_shown, .ref m_shownMark, .int z_wasRun, .int wL, .int z_ended, .int (nI sp), .int z_hints, .int z_hasWidth, .int z_width, .int z_first, .int z_moved, .int z_deepest, .int xL, .int yL, .int (nI t), .ref m_stack, .ref m_places, .int (nI d), .ref m_kinds, .ref m_ats, .ref m_ends])), (m_stack, .inl (cI, 48, .inl g_stack)), (m_mark, .inl (cI, 28000, .inl gm))] [(mo, .inr (8, [.int z_fault, .int z_size, .ref m_row, .ref m_shelves, .ref m_many, .ref m_widths, .int (nI mL), .ref m_mark, .int z_shown, .ref m_shownMark, .int z_wasRun, .int wL, .int z_ended, .int (nI sp), .int z_hints, .int z_hasWidth, .int z_width, .int z_first, .int z_moved, .int z_deepest, .int xL, .int yL, .int (nI t), .ref m_stack, .ref m_places, .int (nI d), .ref m_kinds, .ref m_ats, .ref m_ends])), (m_mark, .inl (cI, 28000, .inl gm))] [(m_stack, .inl (cI, 48, .inl g_stack))] [0, 2] [1] := ⟨rfl, rfl, rfl, rfl, by decide⟩
                      refine goV0 (trV (As := [.int 0, .int (g_stack i), .int (g_stack (i + 1)), .int (g_stack (i + 2)), .int (g_stack (i + 3)), .int (g_stack (t - 1))]) (rest := []) ⟨hx, hb, hml, hown, hts⟩ gd_good (c_Mo_curve l D cB cI cJ mo m_row m_shelves m_many m_widths m_mark m_shownMark m_stack m_places m_kinds m_ats m_ends mL sp t d z_fault z_size z_shown z_wasRun wL z_ended z_hints z_hasWidth z_width z_first z_moved z_deepest xL yL gm 0 (g_stack i) (g_stack (i + 1)) (g_stack (i + 2)) (g_stack (i + 3)) (g_stack (t - 1)) (by omega) ) cal_Mo_curve ml_Mo_158 ⟨Nat.le_of_ble_eq_true rfl, Nat.le_of_ble_eq_true rfl⟩ hZ hP hD hC 0 (ci := 8) rfl rfl rfl rfl hl.1 rfl (Nat.le_of_ble_eq_true rfl) d_Mo_waves_185 ⟨Nat.le_of_ble_eq_true rfl, Nat.le_of_ble_eq_true rfl⟩) hZ hP hD hS hC (fun w1 H locs hq hP hD hS => ?_)
                      obtain ⟨z_x_30, z_y_30, z_wrong_30, mk_30, g_mark_30, rfl, hv_30⟩ := hq
                      have hP : va_P D classes [(m_stack, .inl (cI, 48, .inl g_stack)), (mo, .inr (8, [.int z_fault, .int z_size, .ref m_row, .ref m_shelves, .ref m_many, .ref m_widths, .int (nI mk_30), .ref m_mark, .int z_shown, .ref m_shownMark, .int z_wasRun, .int z_wrong_30, .int z_ended, .int (nI sp), .int z_hints, .int z_hasWidth, .int z_width, .int z_first, .int z_moved, .int z_deepest, .int z_x_30, .int z_y_30, .int (nI t), .ref m_stack, .ref m_places, .int (nI d), .ref m_kinds, .ref m_ats, .ref m_ends])), (m_mark, .inl (cI, 28000, .inl g_mark_30))] H := hP
                      have hD : va_D A_ [(m_stack, .inl (cI, 48, .inl g_stack)), (mo, .inr (8, [.int z_fault, .int z_size, .ref m_row, .ref m_shelves, .ref m_many, .ref m_widths, .int (nI mk_30), .ref m_mark, .int z_shown, .ref m_shownMark, .int z_wasRun, .int z_wrong_30, .int z_ended, .int (nI sp), .int z_hints, .int z_hasWidth, .int z_width, .int z_first, .int z_moved, .int z_deepest, .int z_x_30, .int z_y_30, .int (nI t), .ref m_stack, .ref m_places, .int (nI d), .ref m_kinds, .ref m_ats, .ref m_ends])), (m_mark, .inl (cI, 28000, .inl g_mark_30))] := hD
                      refine lv_iinc (v := nI (i + 4)) (lv' := [(3, .int (nI (i + 4))), (5, .int 0), (4, .int (g_stack (t - 1))), (0, .ref mo), (1, .int c), (2, .int (nI (t - t % 4)))]) hx hb d_Mo_waves_188 hl (k := 5) rfl (nI_add i 4) (by decide) rfl (fun ls hl => ?_)
                      refine lv_goto (tgt := 44) hx hb d_Mo_waves_191 (by decide) ?_
                      exact ih_44  (i + 4) z_x_30 z_y_30 z_wrong_30 mk_30 g_mark_30 _ _ _ ⟨by omega, by omega, by omega⟩ (by omega) (hP.subm [1, 0, 2] rfl) (hD.sub [1, 0, 2] rfl rfl) hS (lv_sub hl [3, 4, 5, 0] rfl)
                    · refine lv_iconst (v := 1) hx hb d_Mo_waves_99 (by decide) ?_
                      refine lv_goto (tgt := 104) hx hb d_Mo_waves_100 (by decide) ?_
                      refine lv_istore (lv' := [(5, .int 1), (4, .int (g_stack (t - 1))), (0, .ref mo), (1, .int c), (2, .int (nI (t - t % 4))), (3, .int (nI i))]) hx hb d_Mo_waves_104 hl (by decide) rfl (fun ls hl => ?_)
                      refine lv_iload hx hb d_Mo_waves_106 (lv_at hl 0 rfl) ?_
                      refine lv_if_eq (tgt := 151) hx hb d_Mo_waves_108 (by decide) (fun c_108 => absurd c_108 (by decide)) (fun c_108 => ?_)
                      clear c_108
                      refine lv_aload_n hx hb d_Mo_waves_111 rfl (lv_at hl 2 rfl) ?_
                      refine lv_aload_n hx hb d_Mo_waves_112 rfl (lv_at hl 2 rfl) ?_
                      refine va_get (D := D) (ci := 8) (v := .ref m_stack) (C := R_Mo) (T := F_Mo) (N := 29) hx hb hts i_Mo hown hZ.1 hP 0 rfl rfl 23 (by decide) (hts _ fl_Mo_29) (fun _ h9 => h9) rfl d_Mo_waves_113 ?_
                      refine lv_iload_n hx hb d_Mo_waves_116 rfl (lv_at hl 5 rfl) ?_
                      refine va_iald hx hb hZ.1 hP 1 1 rfl rfl (vp_in_nI (by omega) (by omega)) d_Mo_waves_117 ?_
                      refine lv_tv (y := g_stack i) (by rw [nI_clamp (by omega)]) ?_
                      refine lv_iconst (v := 0) hx hb d_Mo_waves_118 (by decide) ?_
                      refine lv_aload_n hx hb d_Mo_waves_119 rfl (lv_at hl 2 rfl) ?_
                      refine va_get (D := D) (ci := 8) (v := .ref m_stack) (C := R_Mo) (T := F_Mo) (N := 29) hx hb hts i_Mo hown hZ.1 hP 0 rfl rfl 23 (by decide) (hts _ fl_Mo_29) (fun _ h9 => h9) rfl d_Mo_waves_120 ?_
                      refine lv_iload_n hx hb d_Mo_waves_123 rfl (lv_at hl 5 rfl) ?_
                      refine lv_iconst (v := 1) hx hb d_Mo_waves_124 (by decide) ?_
                      refine lv_iadd hx hb d_Mo_waves_125 ?_
                      refine lv_tv (y := nI (i + 1)) (nI_add i 1) ?_
                      refine va_iald hx hb hZ.1 hP 1 1 rfl rfl (vp_in_nI (by omega) (by omega)) d_Mo_waves_126 ?_
                      refine lv_tv (y := g_stack (i + 1)) (by rw [nI_clamp (by omega)]) ?_
                      refine lv_aload_n hx hb d_Mo_waves_127 rfl (lv_at hl 2 rfl) ?_
                      refine va_get (D := D) (ci := 8) (v := .ref m_stack) (C := R_Mo) (T := F_Mo) (N := 29) hx hb hts i_Mo hown hZ.1 hP 0 rfl rfl 23 (by decide) (hts _ fl_Mo_29) (fun _ h9 => h9) rfl d_Mo_waves_128 ?_
                      refine lv_iload_n hx hb d_Mo_waves_131 rfl (lv_at hl 5 rfl) ?_
                      refine lv_iconst (v := 2) hx hb d_Mo_waves_132 (by decide) ?_
                      refine lv_iadd hx hb d_Mo_waves_133 ?_
                      refine lv_tv (y := nI (i + 2)) (nI_add i 2) ?_
                      refine va_iald hx hb hZ.1 hP 1 1 rfl rfl (vp_in_nI (by omega) (by omega)) d_Mo_waves_134 ?_
                      refine lv_tv (y := g_stack (i + 2)) (by rw [nI_clamp (by omega)]) ?_
                      refine lv_iload hx hb d_Mo_waves_135 (lv_at hl 1 rfl) ?_
                      refine lv_aload_n hx hb d_Mo_waves_137 rfl (lv_at hl 2 rfl) ?_
                      refine va_get (D := D) (ci := 8) (v := .ref m_stack) (C := R_Mo) (T := F_Mo) (N := 29) hx hb hts i_Mo hown hZ.1 hP 0 rfl rfl 23 (by decide) (hts _ fl_Mo_29) (fun _ h9 => h9) rfl d_Mo_waves_138 ?_
                      refine lv_iload_n hx hb d_Mo_waves_141 rfl (lv_at hl 5 rfl) ?_
                      refine lv_iconst (v := 3) hx hb d_Mo_waves_142 (by decide) ?_
                      refine lv_iadd hx hb d_Mo_waves_143 ?_
                      refine lv_tv (y := nI (i + 3)) (nI_add i 3) ?_
                      refine va_iald hx hb hZ.1 hP 1 1 rfl rfl (vp_in_nI (by omega) (by omega)) d_Mo_waves_144 ?_
                      refine lv_tv (y := g_stack (i + 3)) (by rw [nI_clamp (by omega)]) ?_
                      have hC : Cut [(mo, .inr (8, [.int z_fault, .int z_size, .ref m_row, .ref m_shelves, .ref m_many, .ref m_widths, .int (nI mL), .ref m_mark, .int z_shown, .ref m_shownMark, .int z_wasRun, .int wL, .int z_ended, .int (nI sp), .int z_hints, .int z_hasWidth, .int z_width, .int z_first, .int z_moved, .int z_deepest, .int xL, .int yL, .int (nI t), .ref m_stack, .ref m_places, .int (nI d), .ref m_kinds, .ref m_ats, .ref m_ends])), (m_stack, .inl (cI, 48, .inl g_stack)), (m_mark, .inl (cI, 28000, .inl gm))] [(mo, .inr (8, [.int z_fault, .int z_size, .ref m_row, .ref m_shelves, .ref m_many, .ref m_widths, .int (nI mL), .ref m_mark, .int z_shown, .ref m_shownMark, .int z_wasRun, .int wL, .int z_ended, .int (nI sp), .int z_hints, .int z_hasWidth, .int z_width, .int z_first, .int z_moved, .int z_deepest, .int xL, .int yL, .int (nI t), .ref m_stack, .ref m_places, .int (nI d), .ref m_kinds, .ref m_ats, .ref m_ends])), (m_mark, .inl (cI, 28000, .inl gm))] [(m_stack, .inl (cI, 48, .inl g_stack))] [0, 2] [1] := ⟨rfl, rfl, rfl, rfl, by decide⟩
                      refine goV0 (trV (As := [.int (g_stack i), .int 0, .int (g_stack (i + 1)), .int (g_stack (i + 2)), .int (g_stack (t - 1)), .int (g_stack (i + 3))]) (rest := []) ⟨hx, hb, hml, hown, hts⟩ gd_good (c_Mo_curve l D cB cI cJ mo m_row m_shelves m_many m_widths m_mark m_shownMark m_stack m_places m_kinds m_ats m_ends mL sp t d z_fault z_size z_shown z_wasRun wL z_ended z_hints z_hasWidth z_width z_first z_moved z_deepest xL yL gm (g_stack i) 0 (g_stack (i + 1)) (g_stack (i + 2)) (g_stack (t - 1)) (g_stack (i + 3)) (by omega) ) cal_Mo_curve ml_Mo_158 ⟨Nat.le_of_ble_eq_true rfl, Nat.le_of_ble_eq_true rfl⟩ hZ hP hD hC 0 (ci := 8) rfl rfl rfl rfl hl.1 rfl (Nat.le_of_ble_eq_true rfl) d_Mo_waves_145 ⟨Nat.le_of_ble_eq_true rfl, Nat.le_of_ble_eq_true rfl⟩) hZ hP hD hS hC (fun w1 H locs hq hP hD hS => ?_)
                      obtain ⟨z_x_31, z_y_31, z_wrong_31, mk_31, g_mark_31, rfl, hv_31⟩ := hq
                      have hP : va_P D classes [(m_stack, .inl (cI, 48, .inl g_stack)), (mo, .inr (8, [.int z_fault, .int z_size, .ref m_row, .ref m_shelves, .ref m_many, .ref m_widths, .int (nI mk_31), .ref m_mark, .int z_shown, .ref m_shownMark, .int z_wasRun, .int z_wrong_31, .int z_ended, .int (nI sp), .int z_hints, .int z_hasWidth, .int z_width, .int z_first, .int z_moved, .int z_deepest, .int z_x_31, .int z_y_31, .int (nI t), .ref m_stack, .ref m_places, .int (nI d), .ref m_kinds, .ref m_ats, .ref m_ends])), (m_mark, .inl (cI, 28000, .inl g_mark_31))] H := hP
                      have hD : va_D A_ [(m_stack, .inl (cI, 48, .inl g_stack)), (mo, .inr (8, [.int z_fault, .int z_size, .ref m_row, .ref m_shelves, .ref m_many, .ref m_widths, .int (nI mk_31), .ref m_mark, .int z_shown, .ref m_shownMark, .int z_wasRun, .int z_wrong_31, .int z_ended, .int (nI sp), .int z_hints, .int z_hasWidth, .int z_width, .int z_first, .int z_moved, .int z_deepest, .int z_x_31, .int z_y_31, .int (nI t), .ref m_stack, .ref m_places, .int (nI d), .ref m_kinds, .ref m_ats, .ref m_ends])), (m_mark, .inl (cI, 28000, .inl g_mark_31))] := hD
                      refine lv_goto (tgt := 188) hx hb d_Mo_waves_148 (by decide) ?_
                      refine lv_iinc (v := nI (i + 4)) (lv' := [(3, .int (nI (i + 4))), (5, .int 1), (4, .int (g_stack (t - 1))), (0, .ref mo), (1, .int c), (2, .int (nI (t - t % 4)))]) hx hb d_Mo_waves_188 hl (k := 5) rfl (nI_add i 4) (by decide) rfl (fun ls hl => ?_)
                      refine lv_goto (tgt := 44) hx hb d_Mo_waves_191 (by decide) ?_
                      exact ih_44  (i + 4) z_x_31 z_y_31 z_wrong_31 mk_31 g_mark_31 _ _ _ ⟨by omega, by omega, by omega⟩ (by omega) (hP.subm [1, 0, 2] rfl) (hD.sub [1, 0, 2] rfl rfl) hS (lv_sub hl [3, 4, 5, 0] rfl)
                  · have n_87 : (i % 8) = (0) := (nI_eq (a := i % 8) (b := 0) (by omega) (by omega)).mp c_87
                    refine lv_iconst (v := 1) hx hb d_Mo_waves_90 (by decide) ?_
                    refine lv_goto (tgt := 95) hx hb d_Mo_waves_91 (by decide) ?_
                    refine lv_iload_n hx hb d_Mo_waves_95 rfl (lv_at hl 2 rfl) ?_
                    refine lv_icmp_ne (tgt := 103) hx hb d_Mo_waves_96 (by decide) (fun c_96 => ?_) (fun c_96 => ?_)
                    · refine lv_iconst (v := 0) hx hb d_Mo_waves_103 (by decide) ?_
                      refine lv_istore (lv' := [(5, .int 0), (4, .int (g_stack (t - 1))), (0, .ref mo), (1, .int c), (2, .int (nI (t - t % 4))), (3, .int (nI i))]) hx hb d_Mo_waves_104 hl (by decide) rfl (fun ls hl => ?_)
                      refine lv_iload hx hb d_Mo_waves_106 (lv_at hl 0 rfl) ?_
                      refine lv_if_eq (tgt := 151) hx hb d_Mo_waves_108 (by decide) (fun c_108 => ?_) (fun c_108 => absurd (by decide) c_108)
                      clear c_108
                      refine lv_aload_n hx hb d_Mo_waves_151 rfl (lv_at hl 2 rfl) ?_
                      refine lv_iconst (v := 0) hx hb d_Mo_waves_152 (by decide) ?_
                      refine lv_aload_n hx hb d_Mo_waves_153 rfl (lv_at hl 2 rfl) ?_
                      refine va_get (D := D) (ci := 8) (v := .ref m_stack) (C := R_Mo) (T := F_Mo) (N := 29) hx hb hts i_Mo hown hZ.1 hP 0 rfl rfl 23 (by decide) (hts _ fl_Mo_29) (fun _ h9 => h9) rfl d_Mo_waves_154 ?_
                      refine lv_iload_n hx hb d_Mo_waves_157 rfl (lv_at hl 5 rfl) ?_
                      refine va_iald hx hb hZ.1 hP 1 1 rfl rfl (vp_in_nI (by omega) (by omega)) d_Mo_waves_158 ?_
                      refine lv_tv (y := g_stack i) (by rw [nI_clamp (by omega)]) ?_
                      refine lv_aload_n hx hb d_Mo_waves_159 rfl (lv_at hl 2 rfl) ?_
                      refine va_get (D := D) (ci := 8) (v := .ref m_stack) (C := R_Mo) (T := F_Mo) (N := 29) hx hb hts i_Mo hown hZ.1 hP 0 rfl rfl 23 (by decide) (hts _ fl_Mo_29) (fun _ h9 => h9) rfl d_Mo_waves_160 ?_
                      refine lv_iload_n hx hb d_Mo_waves_163 rfl (lv_at hl 5 rfl) ?_
                      refine lv_iconst (v := 1) hx hb d_Mo_waves_164 (by decide) ?_
                      refine lv_iadd hx hb d_Mo_waves_165 ?_
                      refine lv_tv (y := nI (i + 1)) (nI_add i 1) ?_
                      refine va_iald hx hb hZ.1 hP 1 1 rfl rfl (vp_in_nI (by omega) (by omega)) d_Mo_waves_166 ?_
                      refine lv_tv (y := g_stack (i + 1)) (by rw [nI_clamp (by omega)]) ?_
                      refine lv_aload_n hx hb d_Mo_waves_167 rfl (lv_at hl 2 rfl) ?_
                      refine va_get (D := D) (ci := 8) (v := .ref m_stack) (C := R_Mo) (T := F_Mo) (N := 29) hx hb hts i_Mo hown hZ.1 hP 0 rfl rfl 23 (by decide) (hts _ fl_Mo_29) (fun _ h9 => h9) rfl d_Mo_waves_168 ?_
                      refine lv_iload_n hx hb d_Mo_waves_171 rfl (lv_at hl 5 rfl) ?_
                      refine lv_iconst (v := 2) hx hb d_Mo_waves_172 (by decide) ?_
                      refine lv_iadd hx hb d_Mo_waves_173 ?_
                      refine lv_tv (y := nI (i + 2)) (nI_add i 2) ?_
                      refine va_iald hx hb hZ.1 hP 1 1 rfl rfl (vp_in_nI (by omega) (by omega)) d_Mo_waves_174 ?_
                      refine lv_tv (y := g_stack (i + 2)) (by rw [nI_clamp (by omega)]) ?_
                      refine lv_aload_n hx hb d_Mo_waves_175 rfl (lv_at hl 2 rfl) ?_
                      refine va_get (D := D) (ci := 8) (v := .ref m_stack) (C := R_Mo) (T := F_Mo) (N := 29) hx hb hts i_Mo hown hZ.1 hP 0 rfl rfl 23 (by decide) (hts _ fl_Mo_29) (fun _ h9 => h9) rfl d_Mo_waves_176 ?_
                      refine lv_iload_n hx hb d_Mo_waves_179 rfl (lv_at hl 5 rfl) ?_
                      refine lv_iconst (v := 3) hx hb d_Mo_waves_180 (by decide) ?_
                      refine lv_iadd hx hb d_Mo_waves_181 ?_
                      refine lv_tv (y := nI (i + 3)) (nI_add i 3) ?_
                      refine va_iald hx hb hZ.1 hP 1 1 rfl rfl (vp_in_nI (by omega) (by omega)) d_Mo_waves_182 ?_
                      refine lv_tv (y := g_stack (i + 3)) (by rw [nI_clamp (by omega)]) ?_
                      refine lv_iload hx hb d_Mo_waves_183 (lv_at hl 1 rfl) ?_
                      have hC : Cut [(mo, .inr (8, [.int z_fault, .int z_size, .ref m_row, .ref m_shelves, .ref m_many, .ref m_widths, .int (nI mL), .ref m_mark, .int z_shown, .ref m_shownMark, .int z_wasRun, .int wL, .int z_ended, .int (nI sp), .int z_hints, .int z_hasWidth, .int z_width, .int z_first, .int z_moved, .int z_deepest, .int xL, .int yL, .int (nI t), .ref m_stack, .ref m_places, .int (nI d), .ref m_kinds, .ref m_ats, .ref m_ends])), (m_stack, .inl (cI, 48, .inl g_stack)), (m_mark, .inl (cI, 28000, .inl gm))] [(mo, .inr (8, [.int z_fault, .int z_size, .ref m_row, .ref m_shelves, .ref m_many, .ref m_widths, .int (nI mL), .ref m_mark, .int z_shown, .ref m_shownMark, .int z_wasRun, .int wL, .int z_ended, .int (nI sp), .int z_hints, .int z_hasWidth, .int z_width, .int z_first, .int z_moved, .int z_deepest, .int xL, .int yL, .int (nI t), .ref m_stack, .ref m_places, .int (nI d), .ref m_kinds, .ref m_ats, .ref m_ends])), (m_mark, .inl (cI, 28000, .inl gm))] [(m_stack, .inl (cI, 48, .inl g_stack))] [0, 2] [1] := ⟨rfl, rfl, rfl, rfl, by decide⟩
                      refine goV0 (trV (As := [.int 0, .int (g_stack i), .int (g_stack (i + 1)), .int (g_stack (i + 2)), .int (g_stack (i + 3)), .int (g_stack (t - 1))]) (rest := []) ⟨hx, hb, hml, hown, hts⟩ gd_good (c_Mo_curve l D cB cI cJ mo m_row m_shelves m_many m_widths m_mark m_shownMark m_stack m_places m_kinds m_ats m_ends mL sp t d z_fault z_size z_shown z_wasRun wL z_ended z_hints z_hasWidth z_width z_first z_moved z_deepest xL yL gm 0 (g_stack i) (g_stack (i + 1)) (g_stack (i + 2)) (g_stack (i + 3)) (g_stack (t - 1)) (by omega) ) cal_Mo_curve ml_Mo_158 ⟨Nat.le_of_ble_eq_true rfl, Nat.le_of_ble_eq_true rfl⟩ hZ hP hD hC 0 (ci := 8) rfl rfl rfl rfl hl.1 rfl (Nat.le_of_ble_eq_true rfl) d_Mo_waves_185 ⟨Nat.le_of_ble_eq_true rfl, Nat.le_of_ble_eq_true rfl⟩) hZ hP hD hS hC (fun w1 H locs hq hP hD hS => ?_)
                      obtain ⟨z_x_32, z_y_32, z_wrong_32, mk_32, g_mark_32, rfl, hv_32⟩ := hq
                      have hP : va_P D classes [(m_stack, .inl (cI, 48, .inl g_stack)), (mo, .inr (8, [.int z_fault, .int z_size, .ref m_row, .ref m_shelves, .ref m_many, .ref m_widths, .int (nI mk_32), .ref m_mark, .int z_shown, .ref m_shownMark, .int z_wasRun, .int z_wrong_32, .int z_ended, .int (nI sp), .int z_hints, .int z_hasWidth, .int z_width, .int z_first, .int z_moved, .int z_deepest, .int z_x_32, .int z_y_32, .int (nI t), .ref m_stack, .ref m_places, .int (nI d), .ref m_kinds, .ref m_ats, .ref m_ends])), (m_mark, .inl (cI, 28000, .inl g_mark_32))] H := hP
                      have hD : va_D A_ [(m_stack, .inl (cI, 48, .inl g_stack)), (mo, .inr (8, [.int z_fault, .int z_size, .ref m_row, .ref m_shelves, .ref m_many, .ref m_widths, .int (nI mk_32), .ref m_mark, .int z_shown, .ref m_shownMark, .int z_wasRun, .int z_wrong_32, .int z_ended, .int (nI sp), .int z_hints, .int z_hasWidth, .int z_width, .int z_first, .int z_moved, .int z_deepest, .int z_x_32, .int z_y_32, .int (nI t), .ref m_stack, .ref m_places, .int (nI d), .ref m_kinds, .ref m_ats, .ref m_ends])), (m_mark, .inl (cI, 28000, .inl g_mark_32))] := hD
                      refine lv_iinc (v := nI (i + 4)) (lv' := [(3, .int (nI (i + 4))), (5, .int 0), (4, .int (g_stack (t - 1))), (0, .ref mo), (1, .int c), (2, .int (nI (t - t % 4)))]) hx hb d_Mo_waves_188 hl (k := 5) rfl (nI_add i 4) (by decide) rfl (fun ls hl => ?_)
                      refine lv_goto (tgt := 44) hx hb d_Mo_waves_191 (by decide) ?_
                      exact ih_44  (i + 4) z_x_32 z_y_32 z_wrong_32 mk_32 g_mark_32 _ _ _ ⟨by omega, by omega, by omega⟩ (by omega) (hP.subm [1, 0, 2] rfl) (hD.sub [1, 0, 2] rfl rfl) hS (lv_sub hl [3, 4, 5, 0] rfl)
                    · refine lv_iconst (v := 1) hx hb d_Mo_waves_99 (by decide) ?_
                      refine lv_goto (tgt := 104) hx hb d_Mo_waves_100 (by decide) ?_
                      refine lv_istore (lv' := [(5, .int 1), (4, .int (g_stack (t - 1))), (0, .ref mo), (1, .int c), (2, .int (nI (t - t % 4))), (3, .int (nI i))]) hx hb d_Mo_waves_104 hl (by decide) rfl (fun ls hl => ?_)
                      refine lv_iload hx hb d_Mo_waves_106 (lv_at hl 0 rfl) ?_
                      refine lv_if_eq (tgt := 151) hx hb d_Mo_waves_108 (by decide) (fun c_108 => absurd c_108 (by decide)) (fun c_108 => ?_)
                      clear c_108
                      refine lv_aload_n hx hb d_Mo_waves_111 rfl (lv_at hl 2 rfl) ?_
                      refine lv_aload_n hx hb d_Mo_waves_112 rfl (lv_at hl 2 rfl) ?_
                      refine va_get (D := D) (ci := 8) (v := .ref m_stack) (C := R_Mo) (T := F_Mo) (N := 29) hx hb hts i_Mo hown hZ.1 hP 0 rfl rfl 23 (by decide) (hts _ fl_Mo_29) (fun _ h9 => h9) rfl d_Mo_waves_113 ?_
                      refine lv_iload_n hx hb d_Mo_waves_116 rfl (lv_at hl 5 rfl) ?_
                      refine va_iald hx hb hZ.1 hP 1 1 rfl rfl (vp_in_nI (by omega) (by omega)) d_Mo_waves_117 ?_
                      refine lv_tv (y := g_stack i) (by rw [nI_clamp (by omega)]) ?_
                      refine lv_iconst (v := 0) hx hb d_Mo_waves_118 (by decide) ?_
                      refine lv_aload_n hx hb d_Mo_waves_119 rfl (lv_at hl 2 rfl) ?_
                      refine va_get (D := D) (ci := 8) (v := .ref m_stack) (C := R_Mo) (T := F_Mo) (N := 29) hx hb hts i_Mo hown hZ.1 hP 0 rfl rfl 23 (by decide) (hts _ fl_Mo_29) (fun _ h9 => h9) rfl d_Mo_waves_120 ?_
                      refine lv_iload_n hx hb d_Mo_waves_123 rfl (lv_at hl 5 rfl) ?_
                      refine lv_iconst (v := 1) hx hb d_Mo_waves_124 (by decide) ?_
                      refine lv_iadd hx hb d_Mo_waves_125 ?_
                      refine lv_tv (y := nI (i + 1)) (nI_add i 1) ?_
                      refine va_iald hx hb hZ.1 hP 1 1 rfl rfl (vp_in_nI (by omega) (by omega)) d_Mo_waves_126 ?_
                      refine lv_tv (y := g_stack (i + 1)) (by rw [nI_clamp (by omega)]) ?_
                      refine lv_aload_n hx hb d_Mo_waves_127 rfl (lv_at hl 2 rfl) ?_
                      refine va_get (D := D) (ci := 8) (v := .ref m_stack) (C := R_Mo) (T := F_Mo) (N := 29) hx hb hts i_Mo hown hZ.1 hP 0 rfl rfl 23 (by decide) (hts _ fl_Mo_29) (fun _ h9 => h9) rfl d_Mo_waves_128 ?_
                      refine lv_iload_n hx hb d_Mo_waves_131 rfl (lv_at hl 5 rfl) ?_
                      refine lv_iconst (v := 2) hx hb d_Mo_waves_132 (by decide) ?_
                      refine lv_iadd hx hb d_Mo_waves_133 ?_
                      refine lv_tv (y := nI (i + 2)) (nI_add i 2) ?_
                      refine va_iald hx hb hZ.1 hP 1 1 rfl rfl (vp_in_nI (by omega) (by omega)) d_Mo_waves_134 ?_
                      refine lv_tv (y := g_stack (i + 2)) (by rw [nI_clamp (by omega)]) ?_
                      refine lv_iload hx hb d_Mo_waves_135 (lv_at hl 1 rfl) ?_
                      refine lv_aload_n hx hb d_Mo_waves_137 rfl (lv_at hl 2 rfl) ?_
                      refine va_get (D := D) (ci := 8) (v := .ref m_stack) (C := R_Mo) (T := F_Mo) (N := 29) hx hb hts i_Mo hown hZ.1 hP 0 rfl rfl 23 (by decide) (hts _ fl_Mo_29) (fun _ h9 => h9) rfl d_Mo_waves_138 ?_
                      refine lv_iload_n hx hb d_Mo_waves_141 rfl (lv_at hl 5 rfl) ?_
                      refine lv_iconst (v := 3) hx hb d_Mo_waves_142 (by decide) ?_
                      refine lv_iadd hx hb d_Mo_waves_143 ?_
                      refine lv_tv (y := nI (i + 3)) (nI_add i 3) ?_
                      refine va_iald hx hb hZ.1 hP 1 1 rfl rfl (vp_in_nI (by omega) (by omega)) d_Mo_waves_144 ?_
                      refine lv_tv (y := g_stack (i + 3)) (by rw [nI_clamp (by omega)]) ?_
                      have hC : Cut [(mo, .inr (8, [.int z_fault, .int z_size, .ref m_row, .ref m_shelves, .ref m_many, .ref m_widths, .int (nI mL), .ref m_mark, .int z_shown, .ref m_shownMark, .int z_wasRun, .int wL, .int z_ended, .int (nI sp), .int z_hints, .int z_hasWidth, .int z_width, .int z_first, .int z_moved, .int z_deepest, .int xL, .int yL, .int (nI t), .ref m_stack, .ref m_places, .int (nI d), .ref m_kinds, .ref m_ats, .ref m_ends])), (m_stack, .inl (cI, 48, .inl g_stack)), (m_mark, .inl (cI, 28000, .inl gm))] [(mo, .inr (8, [.int z_fault, .int z_size, .ref m_row, .ref m_shelves, .ref m_many, .ref m_widths, .int (nI mL), .ref m_mark, .int z_shown, .ref m_shownMark, .int z_wasRun, .int wL, .int z_ended, .int (nI sp), .int z_hints, .int z_hasWidth, .int z_width, .int z_first, .int z_moved, .int z_deepest, .int xL, .int yL, .int (nI t), .ref m_stack, .ref m_places, .int (nI d), .ref m_kinds, .ref m_ats, .ref m_ends])), (m_mark, .inl (cI, 28000, .inl gm))] [(m_stack, .inl (cI, 48, .inl g_stack))] [0, 2] [1] := ⟨rfl, rfl, rfl, rfl, by decide⟩
                      refine goV0 (trV (As := [.int (g_stack i), .int 0, .int (g_stack (i + 1)), .int (g_stack (i + 2)), .int (g_stack (t - 1)), .int (g_stack (i + 3))]) (rest := []) ⟨hx, hb, hml, hown, hts⟩ gd_good (c_Mo_curve l D cB cI cJ mo m_row m_shelves m_many m_widths m_mark m_shownMark m_stack m_places m_kinds m_ats m_ends mL sp t d z_fault z_size z_shown z_wasRun wL z_ended z_hints z_hasWidth z_width z_first z_moved z_deepest xL yL gm (g_stack i) 0 (g_stack (i + 1)) (g_stack (i + 2)) (g_stack (t - 1)) (g_stack (i + 3)) (by omega) ) cal_Mo_curve ml_Mo_158 ⟨Nat.le_of_ble_eq_true rfl, Nat.le_of_ble_eq_true rfl⟩ hZ hP hD hC 0 (ci := 8) rfl rfl rfl rfl hl.1 rfl (Nat.le_of_ble_eq_true rfl) d_Mo_waves_145 ⟨Nat.le_of_ble_eq_true rfl, Nat.le_of_ble_eq_true rfl⟩) hZ hP hD hS hC (fun w1 H locs hq hP hD hS => ?_)
                      obtain ⟨z_x_33, z_y_33, z_wrong_33, mk_33, g_mark_33, rfl, hv_33⟩ := hq
                      have hP : va_P D classes [(m_stack, .inl (cI, 48, .inl g_stack)), (mo, .inr (8, [.int z_fault, .int z_size, .ref m_row, .ref m_shelves, .ref m_many, .ref m_widths, .int (nI mk_33), .ref m_mark, .int z_shown, .ref m_shownMark, .int z_wasRun, .int z_wrong_33, .int z_ended, .int (nI sp), .int z_hints, .int z_hasWidth, .int z_width, .int z_first, .int z_moved, .int z_deepest, .int z_x_33, .int z_y_33, .int (nI t), .ref m_stack, .ref m_places, .int (nI d), .ref m_kinds, .ref m_ats, .ref m_ends])), (m_mark, .inl (cI, 28000, .inl g_mark_33))] H := hP
                      have hD : va_D A_ [(m_stack, .inl (cI, 48, .inl g_stack)), (mo, .inr (8, [.int z_fault, .int z_size, .ref m_row, .ref m_shelves, .ref m_many, .ref m_widths, .int (nI mk_33), .ref m_mark, .int z_shown, .ref m_shownMark, .int z_wasRun, .int z_wrong_33, .int z_ended, .int (nI sp), .int z_hints, .int z_hasWidth, .int z_width, .int z_first, .int z_moved, .int z_deepest, .int z_x_33, .int z_y_33, .int (nI t), .ref m_stack, .ref m_places, .int (nI d), .ref m_kinds, .ref m_ats, .ref m_ends])), (m_mark, .inl (cI, 28000, .inl g_mark_33))] := hD
                      refine lv_goto (tgt := 188) hx hb d_Mo_waves_148 (by decide) ?_
                      refine lv_iinc (v := nI (i + 4)) (lv' := [(3, .int (nI (i + 4))), (5, .int 1), (4, .int (g_stack (t - 1))), (0, .ref mo), (1, .int c), (2, .int (nI (t - t % 4)))]) hx hb d_Mo_waves_188 hl (k := 5) rfl (nI_add i 4) (by decide) rfl (fun ls hl => ?_)
                      refine lv_goto (tgt := 44) hx hb d_Mo_waves_191 (by decide) ?_
                      exact ih_44  (i + 4) z_x_33 z_y_33 z_wrong_33 mk_33 g_mark_33 _ _ _ ⟨by omega, by omega, by omega⟩ (by omega) (hP.subm [1, 0, 2] rfl) (hD.sub [1, 0, 2] rfl rfl) hS (lv_sub hl [3, 4, 5, 0] rfl)
        exact lp_44 _ 0 z_x z_y z_wrong_23 mk g_mark _ _ _ ⟨by omega, by omega, by omega⟩ (Nat.lt_succ_self _) (hP.subm [2, 0, 1] rfl) (hD.sub [2, 0, 1] rfl rfl) hS (lv_sub hl [2, 3, 1, 0] rfl)
set_option maxHeartbeats 1000000 in
set_option maxRecDepth 100000 in
theorem c_Mo_curvesLine (l : Launch) (D : va_G) (cB cI cJ : ClassId) (mo m_row m_shelves m_many m_widths m_mark m_shownMark m_stack m_places m_kinds m_ats m_ends : Nat) (mk sp t d : Nat) (z_fault z_size z_shown z_wasRun z_wrong z_ended z_hints z_hasWidth z_width z_first z_moved z_deepest z_x z_y : Int32) (g_stack g_mark : Nat → Int32)  (hiv : t ≤ 48 ∧ d ≤ 10 ∧ mk ≤ 4000 ∧ sp ≤ 20000) : Tr l D classes (TY cB cI cJ) gd_tbl nx_tbl y_Mo_curvesLine b_Mo_curvesLine 2 none ({ frames := 4, cells := 0, slots := 0, locals := 98 }) [.ref mo] [(mo, .inr (8, [.int z_fault, .int z_size, .ref m_row, .ref m_shelves, .ref m_many, .ref m_widths, .int (nI mk), .ref m_mark, .int z_shown, .ref m_shownMark, .int z_wasRun, .int z_wrong, .int z_ended, .int (nI sp), .int z_hints, .int z_hasWidth, .int z_width, .int z_first, .int z_moved, .int z_deepest, .int z_x, .int z_y, .int (nI t), .ref m_stack, .ref m_places, .int (nI d), .ref m_kinds, .ref m_ats, .ref m_ends])), (m_stack, .inl (cI, 48, .inl g_stack)), (m_mark, .inl (cI, 28000, .inl g_mark))] (pV0 (fun w => ∃ (z_x' : Int32) (z_y' : Int32) (z_wrong' : Int32) (mk' : Nat) (t' : Nat) (g_mark' : Nat → Int32), w = [(mo, .inr (8, [.int z_fault, .int z_size, .ref m_row, .ref m_shelves, .ref m_many, .ref m_widths, .int (nI mk'), .ref m_mark, .int z_shown, .ref m_shownMark, .int z_wasRun, .int z_wrong', .int z_ended, .int (nI sp), .int z_hints, .int z_hasWidth, .int z_width, .int z_first, .int z_moved, .int z_deepest, .int z_x', .int z_y', .int (nI t'), .ref m_stack, .ref m_places, .int (nI d), .ref m_kinds, .ref m_ats, .ref m_ends])), (m_stack, .inl (cI, 48, .inl g_stack)), (m_mark, .inl (cI, 28000, .inl g_mark'))] ∧ (t' ≤ 48 ∧ d ≤ 10 ∧ mk' ≤ 4000 ∧ sp ≤ 20000))) := by
  refine Tr.intro (by decide +kernel) nx_ok (Nat.le_of_ble_eq_true rfl) ?_
  intro p_ e_ s_ m_ args_ below_ meth_ c_ A_ ls hx hb hml hown hts hr hlk hnm hZ hP hD hS hl
  have hl : lv_has ls 2 [(0, .ref mo)] := hl
  refine lv_aload_n hx hb d_Mo_curvesLine_0 rfl (lv_at hl 0 rfl) ?_
  refine lv_aload_n hx hb d_Mo_curvesLine_1 rfl (lv_at hl 0 rfl) ?_
  refine va_get (D := D) (ci := 8) (v := .int (nI t)) (C := R_Mo) (T := F_Mo) (N := 29) hx hb hts i_Mo hown hZ.1 hP 0 rfl rfl 22 (by decide) (hts _ fl_Mo_82) (fun _ h9 => h9) rfl d_Mo_curvesLine_2 ?_
  refine lv_bipush (v := 8) hx hb d_Mo_curvesLine_5 (by decide) ?_
  refine lv_icmp_lt (tgt := 25) hx hb d_Mo_curvesLine_7 (by decide) (fun c_7 => ?_) (fun c_7 => ?_)
  · have n_7 : (t) < (8) := (nI_ltI (a := t) (b := 8) (by omega) (by omega)).mp c_7
    refine lv_iconst (v := 0) hx hb d_Mo_curvesLine_25 (by decide) ?_
    have hC : Cut [(mo, .inr (8, [.int z_fault, .int z_size, .ref m_row, .ref m_shelves, .ref m_many, .ref m_widths, .int (nI mk), .ref m_mark, .int z_shown, .ref m_shownMark, .int z_wasRun, .int z_wrong, .int z_ended, .int (nI sp), .int z_hints, .int z_hasWidth, .int z_width, .int z_first, .int z_moved, .int z_deepest, .int z_x, .int z_y, .int (nI t), .ref m_stack, .ref m_places, .int (nI d), .ref m_kinds, .ref m_ats, .ref m_ends])), (m_stack, .inl (cI, 48, .inl g_stack)), (m_mark, .inl (cI, 28000, .inl g_mark))] [(mo, .inr (8, [.int z_fault, .int z_size, .ref m_row, .ref m_shelves, .ref m_many, .ref m_widths, .int (nI mk), .ref m_mark, .int z_shown, .ref m_shownMark, .int z_wasRun, .int z_wrong, .int z_ended, .int (nI sp), .int z_hints, .int z_hasWidth, .int z_width, .int z_first, .int z_moved, .int z_deepest, .int z_x, .int z_y, .int (nI t), .ref m_stack, .ref m_places, .int (nI d), .ref m_kinds, .ref m_ats, .ref m_ends]))] [(m_stack, .inl (cI, 48, .inl g_stack)), (m_mark, .inl (cI, 28000, .inl g_mark))] [0] [1, 2] := ⟨rfl, rfl, rfl, rfl, by decide⟩
    refine goI0 (trV (As := [.int 0]) (rest := []) ⟨hx, hb, hml, hown, hts⟩ gd_good (c_Mo_may l D cB cI cJ mo m_row m_shelves m_many m_widths m_mark m_shownMark m_stack m_places m_kinds m_ats m_ends mk sp t d z_fault z_size z_shown z_wasRun z_wrong z_ended z_hints z_hasWidth z_width z_first z_moved z_deepest z_x z_y 0 (by omega) ) cal_Mo_may ml_Mo_162 ⟨Nat.le_of_ble_eq_true rfl, Nat.le_of_ble_eq_true rfl⟩ hZ hP hD hC 0 (ci := 8) rfl rfl rfl rfl hl.1 rfl (Nat.le_of_ble_eq_true rfl) d_Mo_curvesLine_26 ⟨Nat.le_of_ble_eq_true rfl, Nat.le_of_ble_eq_true rfl⟩) hZ hP hD hS hC (fun r_26 w1 H locs hq hP hD hS => ?_)
    obtain ⟨z_wrong_1, rfl, hv_1, hx_1, hz_1⟩ := hq
    have hP : va_P D classes [(m_stack, .inl (cI, 48, .inl g_stack)), (m_mark, .inl (cI, 28000, .inl g_mark)), (mo, .inr (8, [.int z_fault, .int z_size, .ref m_row, .ref m_shelves, .ref m_many, .ref m_widths, .int (nI mk), .ref m_mark, .int z_shown, .ref m_shownMark, .int z_wasRun, .int z_wrong_1, .int z_ended, .int (nI sp), .int z_hints, .int z_hasWidth, .int z_width, .int z_first, .int z_moved, .int z_deepest, .int z_x, .int z_y, .int (nI t), .ref m_stack, .ref m_places, .int (nI d), .ref m_kinds, .ref m_ats, .ref m_ends]))] H := hP
    have hD : va_D A_ [(m_stack, .inl (cI, 48, .inl g_stack)), (m_mark, .inl (cI, 28000, .inl g_mark)), (mo, .inr (8, [.int z_fault, .int z_size, .ref m_row, .ref m_shelves, .ref m_many, .ref m_widths, .int (nI mk), .ref m_mark, .int z_shown, .ref m_shownMark, .int z_wasRun, .int z_wrong_1, .int z_ended, .int (nI sp), .int z_hints, .int z_hasWidth, .int z_width, .int z_first, .int z_moved, .int z_deepest, .int z_x, .int z_y, .int (nI t), .ref m_stack, .ref m_places, .int (nI d), .ref m_kinds, .ref m_ats, .ref m_ends]))] := hD
    refine lv_if_eq (tgt := 99) hx hb d_Mo_curvesLine_29 (by decide) (fun c_29 => ?_) (fun c_29 => ?_)
    · exact t_vret hx hb hr hlk d_Mo_curvesLine_99 (hP.subm (ws' := [(mo, .inr (8, [.int z_fault, .int z_size, .ref m_row, .ref m_shelves, .ref m_many, .ref m_widths, .int (nI mk), .ref m_mark, .int z_shown, .ref m_shownMark, .int z_wasRun, .int z_wrong_1, .int z_ended, .int (nI sp), .int z_hints, .int z_hasWidth, .int z_width, .int z_first, .int z_moved, .int z_deepest, .int z_x, .int z_y, .int (nI t), .ref m_stack, .ref m_places, .int (nI d), .ref m_kinds, .ref m_ats, .ref m_ends])), (m_stack, .inl (cI, 48, .inl g_stack)), (m_mark, .inl (cI, 28000, .inl g_mark))]) [2, 0, 1] rfl) (hD.sub (ws' := [(mo, .inr (8, [.int z_fault, .int z_size, .ref m_row, .ref m_shelves, .ref m_many, .ref m_widths, .int (nI mk), .ref m_mark, .int z_shown, .ref m_shownMark, .int z_wasRun, .int z_wrong_1, .int z_ended, .int (nI sp), .int z_hints, .int z_hasWidth, .int z_width, .int z_first, .int z_moved, .int z_deepest, .int z_x, .int z_y, .int (nI t), .ref m_stack, .ref m_places, .int (nI d), .ref m_kinds, .ref m_ats, .ref m_ends])), (m_stack, .inl (cI, 48, .inl g_stack)), (m_mark, .inl (cI, 28000, .inl g_mark))]) [2, 0, 1] rfl rfl) hS ⟨rfl, rfl, rfl, _, _, _, mk, t, _, rfl, (by omega)⟩
    · exact absurd rfl (hx_1 c_29)
  · have n_7 : ¬ (t) < (8) := fun z => c_7 ((nI_ltI (a := t) (b := 8) (by omega) (by omega)).mpr z)
    refine lv_aload_n hx hb d_Mo_curvesLine_10 rfl (lv_at hl 0 rfl) ?_
    refine va_get (D := D) (ci := 8) (v := .int (nI t)) (C := R_Mo) (T := F_Mo) (N := 29) hx hb hts i_Mo hown hZ.1 hP 0 rfl rfl 22 (by decide) (hts _ fl_Mo_82) (fun _ h9 => h9) rfl d_Mo_curvesLine_11 ?_
    refine lv_bipush (v := 6) hx hb d_Mo_curvesLine_14 (by decide) ?_
    refine lv_irem hx hb d_Mo_curvesLine_16 (by decide) ?_
    refine lv_tv (y := nI (t % 6)) (pk_rem (a := t) (d := 6) (by omega) (by omega) (by omega)) ?_
    refine lv_iconst (v := 2) hx hb d_Mo_curvesLine_17 (by decide) ?_
    refine lv_icmp_ne (tgt := 25) hx hb d_Mo_curvesLine_18 (by decide) (fun c_18 => ?_) (fun c_18 => ?_)
    · have n_18 : ¬ (t % 6) = (2) := fun z => c_18 ((nI_eq (a := t % 6) (b := 2) (by omega) (by omega)).mpr z)
      refine lv_iconst (v := 0) hx hb d_Mo_curvesLine_25 (by decide) ?_
      have hC : Cut [(mo, .inr (8, [.int z_fault, .int z_size, .ref m_row, .ref m_shelves, .ref m_many, .ref m_widths, .int (nI mk), .ref m_mark, .int z_shown, .ref m_shownMark, .int z_wasRun, .int z_wrong, .int z_ended, .int (nI sp), .int z_hints, .int z_hasWidth, .int z_width, .int z_first, .int z_moved, .int z_deepest, .int z_x, .int z_y, .int (nI t), .ref m_stack, .ref m_places, .int (nI d), .ref m_kinds, .ref m_ats, .ref m_ends])), (m_stack, .inl (cI, 48, .inl g_stack)), (m_mark, .inl (cI, 28000, .inl g_mark))] [(mo, .inr (8, [.int z_fault, .int z_size, .ref m_row, .ref m_shelves, .ref m_many, .ref m_widths, .int (nI mk), .ref m_mark, .int z_shown, .ref m_shownMark, .int z_wasRun, .int z_wrong, .int z_ended, .int (nI sp), .int z_hints, .int z_hasWidth, .int z_width, .int z_first, .int z_moved, .int z_deepest, .int z_x, .int z_y, .int (nI t), .ref m_stack, .ref m_places, .int (nI d), .ref m_kinds, .ref m_ats, .ref m_ends]))] [(m_stack, .inl (cI, 48, .inl g_stack)), (m_mark, .inl (cI, 28000, .inl g_mark))] [0] [1, 2] := ⟨rfl, rfl, rfl, rfl, by decide⟩
      refine goI0 (trV (As := [.int 0]) (rest := []) ⟨hx, hb, hml, hown, hts⟩ gd_good (c_Mo_may l D cB cI cJ mo m_row m_shelves m_many m_widths m_mark m_shownMark m_stack m_places m_kinds m_ats m_ends mk sp t d z_fault z_size z_shown z_wasRun z_wrong z_ended z_hints z_hasWidth z_width z_first z_moved z_deepest z_x z_y 0 (by omega) ) cal_Mo_may ml_Mo_162 ⟨Nat.le_of_ble_eq_true rfl, Nat.le_of_ble_eq_true rfl⟩ hZ hP hD hC 0 (ci := 8) rfl rfl rfl rfl hl.1 rfl (Nat.le_of_ble_eq_true rfl) d_Mo_curvesLine_26 ⟨Nat.le_of_ble_eq_true rfl, Nat.le_of_ble_eq_true rfl⟩) hZ hP hD hS hC (fun r_26 w1 H locs hq hP hD hS => ?_)
      obtain ⟨z_wrong_2, rfl, hv_2, hx_2, hz_2⟩ := hq
      have hP : va_P D classes [(m_stack, .inl (cI, 48, .inl g_stack)), (m_mark, .inl (cI, 28000, .inl g_mark)), (mo, .inr (8, [.int z_fault, .int z_size, .ref m_row, .ref m_shelves, .ref m_many, .ref m_widths, .int (nI mk), .ref m_mark, .int z_shown, .ref m_shownMark, .int z_wasRun, .int z_wrong_2, .int z_ended, .int (nI sp), .int z_hints, .int z_hasWidth, .int z_width, .int z_first, .int z_moved, .int z_deepest, .int z_x, .int z_y, .int (nI t), .ref m_stack, .ref m_places, .int (nI d), .ref m_kinds, .ref m_ats, .ref m_ends]))] H := hP
      have hD : va_D A_ [(m_stack, .inl (cI, 48, .inl g_stack)), (m_mark, .inl (cI, 28000, .inl g_mark)), (mo, .inr (8, [.int z_fault, .int z_size, .ref m_row, .ref m_shelves, .ref m_many, .ref m_widths, .int (nI mk), .ref m_mark, .int z_shown, .ref m_shownMark, .int z_wasRun, .int z_wrong_2, .int z_ended, .int (nI sp), .int z_hints, .int z_hasWidth, .int z_width, .int z_first, .int z_moved, .int z_deepest, .int z_x, .int z_y, .int (nI t), .ref m_stack, .ref m_places, .int (nI d), .ref m_kinds, .ref m_ats, .ref m_ends]))] := hD
      refine lv_if_eq (tgt := 99) hx hb d_Mo_curvesLine_29 (by decide) (fun c_29 => ?_) (fun c_29 => ?_)
      · exact t_vret hx hb hr hlk d_Mo_curvesLine_99 (hP.subm (ws' := [(mo, .inr (8, [.int z_fault, .int z_size, .ref m_row, .ref m_shelves, .ref m_many, .ref m_widths, .int (nI mk), .ref m_mark, .int z_shown, .ref m_shownMark, .int z_wasRun, .int z_wrong_2, .int z_ended, .int (nI sp), .int z_hints, .int z_hasWidth, .int z_width, .int z_first, .int z_moved, .int z_deepest, .int z_x, .int z_y, .int (nI t), .ref m_stack, .ref m_places, .int (nI d), .ref m_kinds, .ref m_ats, .ref m_ends])), (m_stack, .inl (cI, 48, .inl g_stack)), (m_mark, .inl (cI, 28000, .inl g_mark))]) [2, 0, 1] rfl) (hD.sub (ws' := [(mo, .inr (8, [.int z_fault, .int z_size, .ref m_row, .ref m_shelves, .ref m_many, .ref m_widths, .int (nI mk), .ref m_mark, .int z_shown, .ref m_shownMark, .int z_wasRun, .int z_wrong_2, .int z_ended, .int (nI sp), .int z_hints, .int z_hasWidth, .int z_width, .int z_first, .int z_moved, .int z_deepest, .int z_x, .int z_y, .int (nI t), .ref m_stack, .ref m_places, .int (nI d), .ref m_kinds, .ref m_ats, .ref m_ends])), (m_stack, .inl (cI, 48, .inl g_stack)), (m_mark, .inl (cI, 28000, .inl g_mark))]) [2, 0, 1] rfl rfl) hS ⟨rfl, rfl, rfl, _, _, _, mk, t, _, rfl, (by omega)⟩
      · exact absurd rfl (hx_2 c_29)
    · have n_18 : (t % 6) = (2) := (nI_eq (a := t % 6) (b := 2) (by omega) (by omega)).mp c_18
      refine lv_iconst (v := 1) hx hb d_Mo_curvesLine_21 (by decide) ?_
      refine lv_goto (tgt := 26) hx hb d_Mo_curvesLine_22 (by decide) ?_
      have hC : Cut [(mo, .inr (8, [.int z_fault, .int z_size, .ref m_row, .ref m_shelves, .ref m_many, .ref m_widths, .int (nI mk), .ref m_mark, .int z_shown, .ref m_shownMark, .int z_wasRun, .int z_wrong, .int z_ended, .int (nI sp), .int z_hints, .int z_hasWidth, .int z_width, .int z_first, .int z_moved, .int z_deepest, .int z_x, .int z_y, .int (nI t), .ref m_stack, .ref m_places, .int (nI d), .ref m_kinds, .ref m_ats, .ref m_ends])), (m_stack, .inl (cI, 48, .inl g_stack)), (m_mark, .inl (cI, 28000, .inl g_mark))] [(mo, .inr (8, [.int z_fault, .int z_size, .ref m_row, .ref m_shelves, .ref m_many, .ref m_widths, .int (nI mk), .ref m_mark, .int z_shown, .ref m_shownMark, .int z_wasRun, .int z_wrong, .int z_ended, .int (nI sp), .int z_hints, .int z_hasWidth, .int z_width, .int z_first, .int z_moved, .int z_deepest, .int z_x, .int z_y, .int (nI t), .ref m_stack, .ref m_places, .int (nI d), .ref m_kinds, .ref m_ats, .ref m_ends]))] [(m_stack, .inl (cI, 48, .inl g_stack)), (m_mark, .inl (cI, 28000, .inl g_mark))] [0] [1, 2] := ⟨rfl, rfl, rfl, rfl, by decide⟩
      refine goI0 (trV (As := [.int 1]) (rest := []) ⟨hx, hb, hml, hown, hts⟩ gd_good (c_Mo_may l D cB cI cJ mo m_row m_shelves m_many m_widths m_mark m_shownMark m_stack m_places m_kinds m_ats m_ends mk sp t d z_fault z_size z_shown z_wasRun z_wrong z_ended z_hints z_hasWidth z_width z_first z_moved z_deepest z_x z_y 1 (by omega) ) cal_Mo_may ml_Mo_162 ⟨Nat.le_of_ble_eq_true rfl, Nat.le_of_ble_eq_true rfl⟩ hZ hP hD hC 0 (ci := 8) rfl rfl rfl rfl hl.1 rfl (Nat.le_of_ble_eq_true rfl) d_Mo_curvesLine_26 ⟨Nat.le_of_ble_eq_true rfl, Nat.le_of_ble_eq_true rfl⟩) hZ hP hD hS hC (fun r_26 w1 H locs hq hP hD hS => ?_)
      obtain ⟨z_wrong_3, rfl, hv_3, hx_3, hz_3⟩ := hq
      have hP : va_P D classes [(m_stack, .inl (cI, 48, .inl g_stack)), (m_mark, .inl (cI, 28000, .inl g_mark)), (mo, .inr (8, [.int z_fault, .int z_size, .ref m_row, .ref m_shelves, .ref m_many, .ref m_widths, .int (nI mk), .ref m_mark, .int z_shown, .ref m_shownMark, .int z_wasRun, .int z_wrong_3, .int z_ended, .int (nI sp), .int z_hints, .int z_hasWidth, .int z_width, .int z_first, .int z_moved, .int z_deepest, .int z_x, .int z_y, .int (nI t), .ref m_stack, .ref m_places, .int (nI d), .ref m_kinds, .ref m_ats, .ref m_ends]))] H := hP
      have hD : va_D A_ [(m_stack, .inl (cI, 48, .inl g_stack)), (m_mark, .inl (cI, 28000, .inl g_mark)), (mo, .inr (8, [.int z_fault, .int z_size, .ref m_row, .ref m_shelves, .ref m_many, .ref m_widths, .int (nI mk), .ref m_mark, .int z_shown, .ref m_shownMark, .int z_wasRun, .int z_wrong_3, .int z_ended, .int (nI sp), .int z_hints, .int z_hasWidth, .int z_width, .int z_first, .int z_moved, .int z_deepest, .int z_x, .int z_y, .int (nI t), .ref m_stack, .ref m_places, .int (nI d), .ref m_kinds, .ref m_ats, .ref m_ends]))] := hD
      refine lv_if_eq (tgt := 99) hx hb d_Mo_curvesLine_29 (by decide) (fun c_29 => ?_) (fun c_29 => ?_)
      · exact t_vret hx hb hr hlk d_Mo_curvesLine_99 (hP.subm (ws' := [(mo, .inr (8, [.int z_fault, .int z_size, .ref m_row, .ref m_shelves, .ref m_many, .ref m_widths, .int (nI mk), .ref m_mark, .int z_shown, .ref m_shownMark, .int z_wasRun, .int z_wrong_3, .int z_ended, .int (nI sp), .int z_hints, .int z_hasWidth, .int z_width, .int z_first, .int z_moved, .int z_deepest, .int z_x, .int z_y, .int (nI t), .ref m_stack, .ref m_places, .int (nI d), .ref m_kinds, .ref m_ats, .ref m_ends])), (m_stack, .inl (cI, 48, .inl g_stack)), (m_mark, .inl (cI, 28000, .inl g_mark))]) [2, 0, 1] rfl) (hD.sub (ws' := [(mo, .inr (8, [.int z_fault, .int z_size, .ref m_row, .ref m_shelves, .ref m_many, .ref m_widths, .int (nI mk), .ref m_mark, .int z_shown, .ref m_shownMark, .int z_wasRun, .int z_wrong_3, .int z_ended, .int (nI sp), .int z_hints, .int z_hasWidth, .int z_width, .int z_first, .int z_moved, .int z_deepest, .int z_x, .int z_y, .int (nI t), .ref m_stack, .ref m_places, .int (nI d), .ref m_kinds, .ref m_ats, .ref m_ends])), (m_stack, .inl (cI, 48, .inl g_stack)), (m_mark, .inl (cI, 28000, .inl g_mark))]) [2, 0, 1] rfl rfl) hS ⟨rfl, rfl, rfl, _, _, _, mk, t, _, rfl, (by omega)⟩
      · refine lv_iconst (v := 0) hx hb d_Mo_curvesLine_32 (by decide) ?_
        refine lv_istore_n (lv' := [(1, .int 0), (0, .ref mo)]) hx hb d_Mo_curvesLine_33 rfl hl (by decide) rfl (fun ls hl => ?_)
        have lp_34 : ∀ (fu : Nat) (i : Nat) (xL : Int32) (yL : Int32) (wL : Int32) (mL : Nat) (gm : Nat → Int32) (H : Heap) (locs : List Loc) (ls : Array Slot), (mL ≤ 4000 ∧ i ≤ 60 ∧ i % 6 = 0) → (70 - i) < fu → va_P D classes [(mo, .inr (8, [.int z_fault, .int z_size, .ref m_row, .ref m_shelves, .ref m_many, .ref m_widths, .int (nI mL), .ref m_mark, .int z_shown, .ref m_shownMark, .int z_wasRun, .int wL, .int z_ended, .int (nI sp), .int z_hints, .int z_hasWidth, .int z_width, .int z_first, .int z_moved, .int z_deepest, .int xL, .int yL, .int (nI t), .ref m_stack, .ref m_places, .int (nI d), .ref m_kinds, .ref m_ats, .ref m_ends])), (m_stack, .inl (cI, 48, .inl g_stack)), (m_mark, .inl (cI, 28000, .inl gm))] H → va_D A_ [(mo, .inr (8, [.int z_fault, .int z_size, .ref m_row, .ref m_shelves, .ref m_many, .ref m_widths, .int (nI mL), .ref m_mark, .int z_shown, .ref m_shownMark, .int z_wasRun, .int wL, .int z_ended, .int (nI sp), .int z_hints, .int z_hasWidth, .int z_width, .int z_first, .int z_moved, .int z_deepest, .int xL, .int yL, .int (nI t), .ref m_stack, .ref m_places, .int (nI d), .ref m_kinds, .ref m_ats, .ref m_ends])), (m_stack, .inl (cI, 48, .inl g_stack)), (m_mark, .inl (cI, 28000, .inl gm))] → va_S A_ s_.heap H locs → lv_has ls 2 [(0, .ref mo), (1, .int (nI i))] → W p_ l e_ ({ frames := 4, cells := 0, slots := 0, locals := 98 }) s_ m_ args_ below_ meth_ c_ H locs (0) (0) (MQT below_ D classes A_ (pV0 (fun w => ∃ (z_x' : Int32) (z_y' : Int32) (z_wrong' : Int32) (mk' : Nat) (t' : Nat) (g_mark' : Nat → Int32), w = [(mo, .inr (8, [.int z_fault, .int z_size, .ref m_row, .ref m_shelves, .ref m_many, .ref m_widths, .int (nI mk'), .ref m_mark, .int z_shown, .ref m_shownMark, .int z_wasRun, .int z_wrong', .int z_ended, .int (nI sp), .int z_hints, .int z_hasWidth, .int z_width, .int z_first, .int z_moved, .int z_deepest, .int z_x', .int z_y', .int (nI t'), .ref m_stack, .ref m_places, .int (nI d), .ref m_kinds, .ref m_ats, .ref m_ends])), (m_stack, .inl (cI, 48, .inl g_stack)), (m_mark, .inl (cI, 28000, .inl g_mark'))] ∧ (t' ≤ 48 ∧ d ≤ 10 ∧ mk' ≤ 4000 ∧ sp ≤ 20000))) s_) (F0 m_ 34 ls []) := by
          intro fu
          induction fu with
          | zero => intro i xL yL wL mL gm H locs ls hinv hfu; exact absurd hfu (Nat.not_lt_zero _)
          | succ fu ih_34 =>
            intro i xL yL wL mL gm H locs ls hinv hfu hP hD hS hl
            obtain ⟨hmL, hi1, hi2⟩ := hinv
            refine lv_iload_n hx hb d_Mo_curvesLine_34 rfl (lv_at hl 1 rfl) ?_
            refine lv_iconst (v := 2) hx hb d_Mo_curvesLine_35 (by decide) ?_
            refine lv_iadd hx hb d_Mo_curvesLine_36 ?_
            refine lv_tv (y := nI (i + 2)) (nI_add i 2) ?_
            refine lv_aload_n hx hb d_Mo_curvesLine_37 rfl (lv_at hl 0 rfl) ?_
            refine va_get (D := D) (ci := 8) (v := .int (nI t)) (C := R_Mo) (T := F_Mo) (N := 29) hx hb hts i_Mo hown hZ.1 hP 0 rfl rfl 22 (by decide) (hts _ fl_Mo_82) (fun _ h9 => h9) rfl d_Mo_curvesLine_38 ?_
            refine lv_icmp_ge (tgt := 62) hx hb d_Mo_curvesLine_41 (by decide) (fun c_41 => ?_) (fun c_41 => ?_)
            · have n_41 : (t) ≤ (i + 2) := (nI_leI (a := t) (b := i + 2) (by omega) (by omega)).mp c_41
              refine lv_aload_n hx hb d_Mo_curvesLine_62 rfl (lv_at hl 0 rfl) ?_
              refine va_get (D := D) (ci := 8) (v := .int wL) (C := R_Mo) (T := F_Mo) (N := 29) hx hb hts i_Mo hown hZ.1 hP 0 rfl rfl 11 (by decide) (hts _ fl_Mo_75) (fun _ h9 => h9) rfl d_Mo_curvesLine_63 ?_
              refine lv_if_ne (tgt := 95) hx hb d_Mo_curvesLine_66 (by decide) (fun c_66 => ?_) (fun c_66 => ?_)
              · refine lv_aload_n hx hb d_Mo_curvesLine_95 rfl (lv_at hl 0 rfl) ?_
                have hC : Cut [(mo, .inr (8, [.int z_fault, .int z_size, .ref m_row, .ref m_shelves, .ref m_many, .ref m_widths, .int (nI mL), .ref m_mark, .int z_shown, .ref m_shownMark, .int z_wasRun, .int wL, .int z_ended, .int (nI sp), .int z_hints, .int z_hasWidth, .int z_width, .int z_first, .int z_moved, .int z_deepest, .int xL, .int yL, .int (nI t), .ref m_stack, .ref m_places, .int (nI d), .ref m_kinds, .ref m_ats, .ref m_ends])), (m_stack, .inl (cI, 48, .inl g_stack)), (m_mark, .inl (cI, 28000, .inl gm))] [(mo, .inr (8, [.int z_fault, .int z_size, .ref m_row, .ref m_shelves, .ref m_many, .ref m_widths, .int (nI mL), .ref m_mark, .int z_shown, .ref m_shownMark, .int z_wasRun, .int wL, .int z_ended, .int (nI sp), .int z_hints, .int z_hasWidth, .int z_width, .int z_first, .int z_moved, .int z_deepest, .int xL, .int yL, .int (nI t), .ref m_stack, .ref m_places, .int (nI d), .ref m_kinds, .ref m_ats, .ref m_ends]))] [(m_stack, .inl (cI, 48, .inl g_stack)), (m_mark, .inl (cI, 28000, .inl gm))] [0] [1, 2] := ⟨rfl, rfl, rfl, rfl, by decide⟩
                refine goV0 (trV (As := []) (rest := []) ⟨hx, hb, hml, hown, hts⟩ gd_good (c_Mo_take_V l D cB cI cJ mo m_row m_shelves m_many m_widths m_mark m_shownMark m_stack m_places m_kinds m_ats m_ends mL sp t d z_fault z_size z_shown z_wasRun wL z_ended z_hints z_hasWidth z_width z_first z_moved z_deepest xL yL (by omega) ) cal_Mo_take_V ml_Mo_155 ⟨Nat.le_of_ble_eq_true rfl, Nat.le_of_ble_eq_true rfl⟩ hZ hP hD hC 0 (ci := 8) rfl rfl rfl rfl hl.1 rfl (Nat.le_of_ble_eq_true rfl) d_Mo_curvesLine_96 ⟨Nat.le_of_ble_eq_true rfl, Nat.le_of_ble_eq_true rfl⟩) hZ hP hD hS hC (fun w1 H locs hq hP hD hS => ?_)
                obtain ⟨t_4, rfl, hv_4⟩ := hq
                have hP : va_P D classes [(m_stack, .inl (cI, 48, .inl g_stack)), (m_mark, .inl (cI, 28000, .inl gm)), (mo, .inr (8, [.int z_fault, .int z_size, .ref m_row, .ref m_shelves, .ref m_many, .ref m_widths, .int (nI mL), .ref m_mark, .int z_shown, .ref m_shownMark, .int z_wasRun, .int wL, .int z_ended, .int (nI sp), .int z_hints, .int z_hasWidth, .int z_width, .int z_first, .int z_moved, .int z_deepest, .int xL, .int yL, .int (nI t_4), .ref m_stack, .ref m_places, .int (nI d), .ref m_kinds, .ref m_ats, .ref m_ends]))] H := hP
                have hD : va_D A_ [(m_stack, .inl (cI, 48, .inl g_stack)), (m_mark, .inl (cI, 28000, .inl gm)), (mo, .inr (8, [.int z_fault, .int z_size, .ref m_row, .ref m_shelves, .ref m_many, .ref m_widths, .int (nI mL), .ref m_mark, .int z_shown, .ref m_shownMark, .int z_wasRun, .int wL, .int z_ended, .int (nI sp), .int z_hints, .int z_hasWidth, .int z_width, .int z_first, .int z_moved, .int z_deepest, .int xL, .int yL, .int (nI t_4), .ref m_stack, .ref m_places, .int (nI d), .ref m_kinds, .ref m_ats, .ref m_ends]))] := hD
                exact t_vret hx hb hr hlk d_Mo_curvesLine_99 (hP.subm (ws' := [(mo, .inr (8, [.int z_fault, .int z_size, .ref m_row, .ref m_shelves, .ref m_many, .ref m_widths, .int (nI mL), .ref m_mark, .int z_shown, .ref m_shownMark, .int z_wasRun, .int wL, .int z_ended, .int (nI sp), .int z_hints, .int z_hasWidth, .int z_width, .int z_first, .int z_moved, .int z_deepest, .int xL, .int yL, .int (nI t_4), .ref m_stack, .ref m_places, .int (nI d), .ref m_kinds, .ref m_ats, .ref m_ends])), (m_stack, .inl (cI, 48, .inl g_stack)), (m_mark, .inl (cI, 28000, .inl gm))]) [2, 0, 1] rfl) (hD.sub (ws' := [(mo, .inr (8, [.int z_fault, .int z_size, .ref m_row, .ref m_shelves, .ref m_many, .ref m_widths, .int (nI mL), .ref m_mark, .int z_shown, .ref m_shownMark, .int z_wasRun, .int wL, .int z_ended, .int (nI sp), .int z_hints, .int z_hasWidth, .int z_width, .int z_first, .int z_moved, .int z_deepest, .int xL, .int yL, .int (nI t_4), .ref m_stack, .ref m_places, .int (nI d), .ref m_kinds, .ref m_ats, .ref m_ends])), (m_stack, .inl (cI, 48, .inl g_stack)), (m_mark, .inl (cI, 28000, .inl gm))]) [2, 0, 1] rfl rfl) hS ⟨rfl, rfl, rfl, _, _, _, mL, t_4, _, rfl, (by omega)⟩
              · refine lv_aload_n hx hb d_Mo_curvesLine_69 rfl (lv_at hl 0 rfl) ?_
                refine lv_aload_n hx hb d_Mo_curvesLine_70 rfl (lv_at hl 0 rfl) ?_
                refine va_get (D := D) (ci := 8) (v := .ref m_stack) (C := R_Mo) (T := F_Mo) (N := 29) hx hb hts i_Mo hown hZ.1 hP 0 rfl rfl 23 (by decide) (hts _ fl_Mo_29) (fun _ h9 => h9) rfl d_Mo_curvesLine_71 ?_
                refine lv_aload_n hx hb d_Mo_curvesLine_74 rfl (lv_at hl 0 rfl) ?_
                refine va_get (D := D) (ci := 8) (v := .int (nI t)) (C := R_Mo) (T := F_Mo) (N := 29) hx hb hts i_Mo hown hZ.1 hP 0 rfl rfl 22 (by decide) (hts _ fl_Mo_82) (fun _ h9 => h9) rfl d_Mo_curvesLine_75 ?_
                refine lv_iconst (v := 2) hx hb d_Mo_curvesLine_78 (by decide) ?_
                refine lv_isub hx hb d_Mo_curvesLine_79 ?_
                refine lv_tv (y := nI (t - 2)) (pk_sub (a := t) (b := 2) (by omega)) ?_
                refine va_iald hx hb hZ.1 hP 1 1 rfl rfl (vp_in_nI (by omega) (by omega)) d_Mo_curvesLine_80 ?_
                refine lv_tv (y := g_stack (t - 2)) (by rw [nI_clamp (by omega)]) ?_
                refine lv_aload_n hx hb d_Mo_curvesLine_81 rfl (lv_at hl 0 rfl) ?_
                refine va_get (D := D) (ci := 8) (v := .ref m_stack) (C := R_Mo) (T := F_Mo) (N := 29) hx hb hts i_Mo hown hZ.1 hP 0 rfl rfl 23 (by decide) (hts _ fl_Mo_29) (fun _ h9 => h9) rfl d_Mo_curvesLine_82 ?_
                refine lv_aload_n hx hb d_Mo_curvesLine_85 rfl (lv_at hl 0 rfl) ?_
                refine va_get (D := D) (ci := 8) (v := .int (nI t)) (C := R_Mo) (T := F_Mo) (N := 29) hx hb hts i_Mo hown hZ.1 hP 0 rfl rfl 22 (by decide) (hts _ fl_Mo_82) (fun _ h9 => h9) rfl d_Mo_curvesLine_86 ?_
                refine lv_iconst (v := 1) hx hb d_Mo_curvesLine_89 (by decide) ?_
                refine lv_isub hx hb d_Mo_curvesLine_90 ?_
                refine lv_tv (y := nI (t - 1)) (pk_sub (a := t) (b := 1) (by omega)) ?_
                refine va_iald hx hb hZ.1 hP 1 1 rfl rfl (vp_in_nI (by omega) (by omega)) d_Mo_curvesLine_91 ?_
                refine lv_tv (y := g_stack (t - 1)) (by rw [nI_clamp (by omega)]) ?_
                have hC : Cut [(mo, .inr (8, [.int z_fault, .int z_size, .ref m_row, .ref m_shelves, .ref m_many, .ref m_widths, .int (nI mL), .ref m_mark, .int z_shown, .ref m_shownMark, .int z_wasRun, .int wL, .int z_ended, .int (nI sp), .int z_hints, .int z_hasWidth, .int z_width, .int z_first, .int z_moved, .int z_deepest, .int xL, .int yL, .int (nI t), .ref m_stack, .ref m_places, .int (nI d), .ref m_kinds, .ref m_ats, .ref m_ends])), (m_stack, .inl (cI, 48, .inl g_stack)), (m_mark, .inl (cI, 28000, .inl gm))] [(mo, .inr (8, [.int z_fault, .int z_size, .ref m_row, .ref m_shelves, .ref m_many, .ref m_widths, .int (nI mL), .ref m_mark, .int z_shown, .ref m_shownMark, .int z_wasRun, .int wL, .int z_ended, .int (nI sp), .int z_hints, .int z_hasWidth, .int z_width, .int z_first, .int z_moved, .int z_deepest, .int xL, .int yL, .int (nI t), .ref m_stack, .ref m_places, .int (nI d), .ref m_kinds, .ref m_ats, .ref m_ends])), (m_mark, .inl (cI, 28000, .inl gm))] [(m_stack, .inl (cI, 48, .inl g_stack))] [0, 2] [1] := ⟨rfl, rfl, rfl, rfl, by decide⟩
                refine goV0 (trV (As := [.int (g_stack (t - 2)), .int (g_stack (t - 1))]) (rest := []) ⟨hx, hb, hml, hown, hts⟩ gd_good (c_Mo_line l D cB cI cJ mo m_row m_shelves m_many m_widths m_mark m_shownMark m_stack m_places m_kinds m_ats m_ends mL sp t d z_fault z_size z_shown z_wasRun wL z_ended z_hints z_hasWidth z_width z_first z_moved z_deepest xL yL gm (g_stack (t - 2)) (g_stack (t - 1)) (by omega) ) cal_Mo_line ml_Mo_166 ⟨Nat.le_of_ble_eq_true rfl, Nat.le_of_ble_eq_true rfl⟩ hZ hP hD hC 0 (ci := 8) rfl rfl rfl rfl hl.1 rfl (Nat.le_of_ble_eq_true rfl) d_Mo_curvesLine_92 ⟨Nat.le_of_ble_eq_true rfl, Nat.le_of_ble_eq_true rfl⟩) hZ hP hD hS hC (fun w1 H locs hq hP hD hS => ?_)
                obtain ⟨z_x_5, z_y_5, z_wrong_5, mk_5, g_mark_5, rfl, hv_5⟩ := hq
                have hP : va_P D classes [(m_stack, .inl (cI, 48, .inl g_stack)), (mo, .inr (8, [.int z_fault, .int z_size, .ref m_row, .ref m_shelves, .ref m_many, .ref m_widths, .int (nI mk_5), .ref m_mark, .int z_shown, .ref m_shownMark, .int z_wasRun, .int z_wrong_5, .int z_ended, .int (nI sp), .int z_hints, .int z_hasWidth, .int z_width, .int z_first, .int z_moved, .int z_deepest, .int z_x_5, .int z_y_5, .int (nI t), .ref m_stack, .ref m_places, .int (nI d), .ref m_kinds, .ref m_ats, .ref m_ends])), (m_mark, .inl (cI, 28000, .inl g_mark_5))] H := hP
                have hD : va_D A_ [(m_stack, .inl (cI, 48, .inl g_stack)), (mo, .inr (8, [.int z_fault, .int z_size, .ref m_row, .ref m_shelves, .ref m_many, .ref m_widths, .int (nI mk_5), .ref m_mark, .int z_shown, .ref m_shownMark, .int z_wasRun, .int z_wrong_5, .int z_ended, .int (nI sp), .int z_hints, .int z_hasWidth, .int z_width, .int z_first, .int z_moved, .int z_deepest, .int z_x_5, .int z_y_5, .int (nI t), .ref m_stack, .ref m_places, .int (nI d), .ref m_kinds, .ref m_ats, .ref m_ends])), (m_mark, .inl (cI, 28000, .inl g_mark_5))] := hD
                refine lv_aload_n hx hb d_Mo_curvesLine_95 rfl (lv_at hl 0 rfl) ?_
                have hC : Cut [(m_stack, .inl (cI, 48, .inl g_stack)), (mo, .inr (8, [.int z_fault, .int z_size, .ref m_row, .ref m_shelves, .ref m_many, .ref m_widths, .int (nI mk_5), .ref m_mark, .int z_shown, .ref m_shownMark, .int z_wasRun, .int z_wrong_5, .int z_ended, .int (nI sp), .int z_hints, .int z_hasWidth, .int z_width, .int z_first, .int z_moved, .int z_deepest, .int z_x_5, .int z_y_5, .int (nI t), .ref m_stack, .ref m_places, .int (nI d), .ref m_kinds, .ref m_ats, .ref m_ends])), (m_mark, .inl (cI, 28000, .inl g_mark_5))] [(mo, .inr (8, [.int z_fault, .int z_size, .ref m_row, .ref m_shelves, .ref m_many, .ref m_widths, .int (nI mk_5), .ref m_mark, .int z_shown, .ref m_shownMark, .int z_wasRun, .int z_wrong_5, .int z_ended, .int (nI sp), .int z_hints, .int z_hasWidth, .int z_width, .int z_first, .int z_moved, .int z_deepest, .int z_x_5, .int z_y_5, .int (nI t), .ref m_stack, .ref m_places, .int (nI d), .ref m_kinds, .ref m_ats, .ref m_ends]))] [(m_stack, .inl (cI, 48, .inl g_stack)), (m_mark, .inl (cI, 28000, .inl g_mark_5))] [1] [0, 2] := ⟨rfl, rfl, rfl, rfl, by decide⟩
                refine goV0 (trV (As := []) (rest := []) ⟨hx, hb, hml, hown, hts⟩ gd_good (c_Mo_take_V l D cB cI cJ mo m_row m_shelves m_many m_widths m_mark m_shownMark m_stack m_places m_kinds m_ats m_ends mk_5 sp t d z_fault z_size z_shown z_wasRun z_wrong_5 z_ended z_hints z_hasWidth z_width z_first z_moved z_deepest z_x_5 z_y_5 (by omega) ) cal_Mo_take_V ml_Mo_155 ⟨Nat.le_of_ble_eq_true rfl, Nat.le_of_ble_eq_true rfl⟩ hZ hP hD hC 1 (ci := 8) rfl rfl rfl rfl hl.1 rfl (Nat.le_of_ble_eq_true rfl) d_Mo_curvesLine_96 ⟨Nat.le_of_ble_eq_true rfl, Nat.le_of_ble_eq_true rfl⟩) hZ hP hD hS hC (fun w1 H locs hq hP hD hS => ?_)
                obtain ⟨t_6, rfl, hv_6⟩ := hq
                have hP : va_P D classes [(m_stack, .inl (cI, 48, .inl g_stack)), (m_mark, .inl (cI, 28000, .inl g_mark_5)), (mo, .inr (8, [.int z_fault, .int z_size, .ref m_row, .ref m_shelves, .ref m_many, .ref m_widths, .int (nI mk_5), .ref m_mark, .int z_shown, .ref m_shownMark, .int z_wasRun, .int z_wrong_5, .int z_ended, .int (nI sp), .int z_hints, .int z_hasWidth, .int z_width, .int z_first, .int z_moved, .int z_deepest, .int z_x_5, .int z_y_5, .int (nI t_6), .ref m_stack, .ref m_places, .int (nI d), .ref m_kinds, .ref m_ats, .ref m_ends]))] H := hP
                have hD : va_D A_ [(m_stack, .inl (cI, 48, .inl g_stack)), (m_mark, .inl (cI, 28000, .inl g_mark_5)), (mo, .inr (8, [.int z_fault, .int z_size, .ref m_row, .ref m_shelves, .ref m_many, .ref m_widths, .int (nI mk_5), .ref m_mark, .int z_shown, .ref m_shownMark, .int z_wasRun, .int z_wrong_5, .int z_ended, .int (nI sp), .int z_hints, .int z_hasWidth, .int z_width, .int z_first, .int z_moved, .int z_deepest, .int z_x_5, .int z_y_5, .int (nI t_6), .ref m_stack, .ref m_places, .int (nI d), .ref m_kinds, .ref m_ats, .ref m_ends]))] := hD
                exact t_vret hx hb hr hlk d_Mo_curvesLine_99 (hP.subm (ws' := [(mo, .inr (8, [.int z_fault, .int z_size, .ref m_row, .ref m_shelves, .ref m_many, .ref m_widths, .int (nI mk_5), .ref m_mark, .int z_shown, .ref m_shownMark, .int z_wasRun, .int z_wrong_5, .int z_ended, .int (nI sp), .int z_hints, .int z_hasWidth, .int z_width, .int z_first, .int z_moved, .int z_deepest, .int z_x_5, .int z_y_5, .int (nI t_6), .ref m_stack, .ref m_places, .int (nI d), .ref m_kinds, .ref m_ats, .ref m_ends])), (m_stack, .inl (cI, 48, .inl g_stack)), (m_mark, .inl (cI, 28000, .inl g_mark_5))]) [2, 0, 1] rfl) (hD.sub (ws' := [(mo, .inr (8, [.int z_fault, .int z_size, .ref m_row, .ref m_shelves, .ref m_many, .ref m_widths, .int (nI mk_5), .ref m_mark, .int z_shown, .ref m_shownMark, .int z_wasRun, .int z_wrong_5, .int z_ended, .int (nI sp), .int z_hints, .int z_hasWidth, .int z_width, .int z_first, .int z_moved, .int z_deepest, .int z_x_5, .int z_y_5, .int (nI t_6), .ref m_stack, .ref m_places, .int (nI d), .ref m_kinds, .ref m_ats, .ref m_ends])), (m_stack, .inl (cI, 48, .inl g_stack)), (m_mark, .inl (cI, 28000, .inl g_mark_5))]) [2, 0, 1] rfl rfl) hS ⟨rfl, rfl, rfl, _, _, _, mk_5, t_6, _, rfl, (by omega)⟩
            · have n_41 : ¬ (t) ≤ (i + 2) := fun z => c_41 ((nI_leI (a := t) (b := i + 2) (by omega) (by omega)).mpr z)
              refine lv_aload_n hx hb d_Mo_curvesLine_44 rfl (lv_at hl 0 rfl) ?_
              refine va_get (D := D) (ci := 8) (v := .int wL) (C := R_Mo) (T := F_Mo) (N := 29) hx hb hts i_Mo hown hZ.1 hP 0 rfl rfl 11 (by decide) (hts _ fl_Mo_75) (fun _ h9 => h9) rfl d_Mo_curvesLine_45 ?_
              refine lv_if_ne (tgt := 62) hx hb d_Mo_curvesLine_48 (by decide) (fun c_48 => ?_) (fun c_48 => ?_)
              · refine lv_aload_n hx hb d_Mo_curvesLine_62 rfl (lv_at hl 0 rfl) ?_
                refine va_get (D := D) (ci := 8) (v := .int wL) (C := R_Mo) (T := F_Mo) (N := 29) hx hb hts i_Mo hown hZ.1 hP 0 rfl rfl 11 (by decide) (hts _ fl_Mo_75) (fun _ h9 => h9) rfl d_Mo_curvesLine_63 ?_
                refine lv_if_ne (tgt := 95) hx hb d_Mo_curvesLine_66 (by decide) (fun c_66 => ?_) (fun c_66 => ?_)
                · refine lv_aload_n hx hb d_Mo_curvesLine_95 rfl (lv_at hl 0 rfl) ?_
                  have hC : Cut [(mo, .inr (8, [.int z_fault, .int z_size, .ref m_row, .ref m_shelves, .ref m_many, .ref m_widths, .int (nI mL), .ref m_mark, .int z_shown, .ref m_shownMark, .int z_wasRun, .int wL, .int z_ended, .int (nI sp), .int z_hints, .int z_hasWidth, .int z_width, .int z_first, .int z_moved, .int z_deepest, .int xL, .int yL, .int (nI t), .ref m_stack, .ref m_places, .int (nI d), .ref m_kinds, .ref m_ats, .ref m_ends])), (m_stack, .inl (cI, 48, .inl g_stack)), (m_mark, .inl (cI, 28000, .inl gm))] [(mo, .inr (8, [.int z_fault, .int z_size, .ref m_row, .ref m_shelves, .ref m_many, .ref m_widths, .int (nI mL), .ref m_mark, .int z_shown, .ref m_shownMark, .int z_wasRun, .int wL, .int z_ended, .int (nI sp), .int z_hints, .int z_hasWidth, .int z_width, .int z_first, .int z_moved, .int z_deepest, .int xL, .int yL, .int (nI t), .ref m_stack, .ref m_places, .int (nI d), .ref m_kinds, .ref m_ats, .ref m_ends]))] [(m_stack, .inl (cI, 48, .inl g_stack)), (m_mark, .inl (cI, 28000, .inl gm))] [0] [1, 2] := ⟨rfl, rfl, rfl, rfl, by decide⟩
                  refine goV0 (trV (As := []) (rest := []) ⟨hx, hb, hml, hown, hts⟩ gd_good (c_Mo_take_V l D cB cI cJ mo m_row m_shelves m_many m_widths m_mark m_shownMark m_stack m_places m_kinds m_ats m_ends mL sp t d z_fault z_size z_shown z_wasRun wL z_ended z_hints z_hasWidth z_width z_first z_moved z_deepest xL yL (by omega) ) cal_Mo_take_V ml_Mo_155 ⟨Nat.le_of_ble_eq_true rfl, Nat.le_of_ble_eq_true rfl⟩ hZ hP hD hC 0 (ci := 8) rfl rfl rfl rfl hl.1 rfl (Nat.le_of_ble_eq_true rfl) d_Mo_curvesLine_96 ⟨Nat.le_of_ble_eq_true rfl, Nat.le_of_ble_eq_true rfl⟩) hZ hP hD hS hC (fun w1 H locs hq hP hD hS => ?_)
                  obtain ⟨t_7, rfl, hv_7⟩ := hq
                  have hP : va_P D classes [(m_stack, .inl (cI, 48, .inl g_stack)), (m_mark, .inl (cI, 28000, .inl gm)), (mo, .inr (8, [.int z_fault, .int z_size, .ref m_row, .ref m_shelves, .ref m_many, .ref m_widths, .int (nI mL), .ref m_mark, .int z_shown, .ref m_shownMark, .int z_wasRun, .int wL, .int z_ended, .int (nI sp), .int z_hints, .int z_hasWidth, .int z_width, .int z_first, .int z_moved, .int z_deepest, .int xL, .int yL, .int (nI t_7), .ref m_stack, .ref m_places, .int (nI d), .ref m_kinds, .ref m_ats, .ref m_ends]))] H := hP
                  have hD : va_D A_ [(m_stack, .inl (cI, 48, .inl g_stack)), (m_mark, .inl (cI, 28000, .inl gm)), (mo, .inr (8, [.int z_fault, .int z_size, .ref m_row, .ref m_shelves, .ref m_many, .ref m_widths, .int (nI mL), .ref m_mark, .int z_shown, .ref m_shownMark, .int z_wasRun, .int wL, .int z_ended, .int (nI sp), .int z_hints, .int z_hasWidth, .int z_width, .int z_first, .int z_moved, .int z_deepest, .int xL, .int yL, .int (nI t_7), .ref m_stack, .ref m_places, .int (nI d), .ref m_kinds, .ref m_ats, .ref m_ends]))] := hD
                  exact t_vret hx hb hr hlk d_Mo_curvesLine_99 (hP.subm (ws' := [(mo, .inr (8, [.int z_fault, .int z_size, .ref m_row, .ref m_shelves, .ref m_many, .ref m_widths, .int (nI mL), .ref m_mark, .int z_shown, .ref m_shownMark, .int z_wasRun, .int wL, .int z_ended, .int (nI sp), .int z_hints, .int z_hasWidth, .int z_width, .int z_first, .int z_moved, .int z_deepest, .int xL, .int yL, .int (nI t_7), .ref m_stack, .ref m_places, .int (nI d), .ref m_kinds, .ref m_ats, .ref m_ends])), (m_stack, .inl (cI, 48, .inl g_stack)), (m_mark, .inl (cI, 28000, .inl gm))]) [2, 0, 1] rfl) (hD.sub (ws' := [(mo, .inr (8, [.int z_fault, .int z_size, .ref m_row, .ref m_shelves, .ref m_many, .ref m_widths, .int (nI mL), .ref m_mark, .int z_shown, .ref m_shownMark, .int z_wasRun, .int wL, .int z_ended, .int (nI sp), .int z_hints, .int z_hasWidth, .int z_width, .int z_first, .int z_moved, .int z_deepest, .int xL, .int yL, .int (nI t_7), .ref m_stack, .ref m_places, .int (nI d), .ref m_kinds, .ref m_ats, .ref m_ends])), (m_stack, .inl (cI, 48, .inl g_stack)), (m_mark, .inl (cI, 28000, .inl gm))]) [2, 0, 1] rfl rfl) hS ⟨rfl, rfl, rfl, _, _, _, mL, t_7, _, rfl, (by omega)⟩
                · refine lv_aload_n hx hb d_Mo_curvesLine_69 rfl (lv_at hl 0 rfl) ?_
                  refine lv_aload_n hx hb d_Mo_curvesLine_70 rfl (lv_at hl 0 rfl) ?_
                  refine va_get (D := D) (ci := 8) (v := .ref m_stack) (C := R_Mo) (T := F_Mo) (N := 29) hx hb hts i_Mo hown hZ.1 hP 0 rfl rfl 23 (by decide) (hts _ fl_Mo_29) (fun _ h9 => h9) rfl d_Mo_curvesLine_71 ?_
                  refine lv_aload_n hx hb d_Mo_curvesLine_74 rfl (lv_at hl 0 rfl) ?_
                  refine va_get (D := D) (ci := 8) (v := .int (nI t)) (C := R_Mo) (T := F_Mo) (N := 29) hx hb hts i_Mo hown hZ.1 hP 0 rfl rfl 22 (by decide) (hts _ fl_Mo_82) (fun _ h9 => h9) rfl d_Mo_curvesLine_75 ?_
                  refine lv_iconst (v := 2) hx hb d_Mo_curvesLine_78 (by decide) ?_
                  refine lv_isub hx hb d_Mo_curvesLine_79 ?_
                  refine lv_tv (y := nI (t - 2)) (pk_sub (a := t) (b := 2) (by omega)) ?_
                  refine va_iald hx hb hZ.1 hP 1 1 rfl rfl (vp_in_nI (by omega) (by omega)) d_Mo_curvesLine_80 ?_
                  refine lv_tv (y := g_stack (t - 2)) (by rw [nI_clamp (by omega)]) ?_
                  refine lv_aload_n hx hb d_Mo_curvesLine_81 rfl (lv_at hl 0 rfl) ?_
                  refine va_get (D := D) (ci := 8) (v := .ref m_stack) (C := R_Mo) (T := F_Mo) (N := 29) hx hb hts i_Mo hown hZ.1 hP 0 rfl rfl 23 (by decide) (hts _ fl_Mo_29) (fun _ h9 => h9) rfl d_Mo_curvesLine_82 ?_
                  refine lv_aload_n hx hb d_Mo_curvesLine_85 rfl (lv_at hl 0 rfl) ?_
                  refine va_get (D := D) (ci := 8) (v := .int (nI t)) (C := R_Mo) (T := F_Mo) (N := 29) hx hb hts i_Mo hown hZ.1 hP 0 rfl rfl 22 (by decide) (hts _ fl_Mo_82) (fun _ h9 => h9) rfl d_Mo_curvesLine_86 ?_
                  refine lv_iconst (v := 1) hx hb d_Mo_curvesLine_89 (by decide) ?_
                  refine lv_isub hx hb d_Mo_curvesLine_90 ?_
                  refine lv_tv (y := nI (t - 1)) (pk_sub (a := t) (b := 1) (by omega)) ?_
                  refine va_iald hx hb hZ.1 hP 1 1 rfl rfl (vp_in_nI (by omega) (by omega)) d_Mo_curvesLine_91 ?_
                  refine lv_tv (y := g_stack (t - 1)) (by rw [nI_clamp (by omega)]) ?_
                  have hC : Cut [(mo, .inr (8, [.int z_fault, .int z_size, .ref m_row, .ref m_shelves, .ref m_many, .ref m_widths, .int (nI mL), .ref m_mark, .int z_shown, .ref m_shownMark, .int z_wasRun, .int wL, .int z_ended, .int (nI sp), .int z_hints, .int z_hasWidth, .int z_width, .int z_first, .int z_moved, .int z_deepest, .int xL, .int yL, .int (nI t), .ref m_stack, .ref m_places, .int (nI d), .ref m_kinds, .ref m_ats, .ref m_ends])), (m_stack, .inl (cI, 48, .inl g_stack)), (m_mark, .inl (cI, 28000, .inl gm))] [(mo, .inr (8, [.int z_fault, .int z_size, .ref m_row, .ref m_shelves, .ref m_many, .ref m_widths, .int (nI mL), .ref m_mark, .int z_shown, .ref m_shownMark, .int z_wasRun, .int wL, .int z_ended, .int (nI sp), .int z_hints, .int z_hasWidth, .int z_width, .int z_first, .int z_moved, .int z_deepest, .int xL, .int yL, .int (nI t), .ref m_stack, .ref m_places, .int (nI d), .ref m_kinds, .ref m_ats, .ref m_ends])), (m_mark, .inl (cI, 28000, .inl gm))] [(m_stack, .inl (cI, 48, .inl g_stack))] [0, 2] [1] := ⟨rfl, rfl, rfl, rfl, by decide⟩
                  refine goV0 (trV (As := [.int (g_stack (t - 2)), .int (g_stack (t - 1))]) (rest := []) ⟨hx, hb, hml, hown, hts⟩ gd_good (c_Mo_line l D cB cI cJ mo m_row m_shelves m_many m_widths m_mark m_shownMark m_stack m_places m_kinds m_ats m_ends mL sp t d z_fault z_size z_shown z_wasRun wL z_ended z_hints z_hasWidth z_width z_first z_moved z_deepest xL yL gm (g_stack (t - 2)) (g_stack (t - 1)) (by omega) ) cal_Mo_line ml_Mo_166 ⟨Nat.le_of_ble_eq_true rfl, Nat.le_of_ble_eq_true rfl⟩ hZ hP hD hC 0 (ci := 8) rfl rfl rfl rfl hl.1 rfl (Nat.le_of_ble_eq_true rfl) d_Mo_curvesLine_92 ⟨Nat.le_of_ble_eq_true rfl, Nat.le_of_ble_eq_true rfl⟩) hZ hP hD hS hC (fun w1 H locs hq hP hD hS => ?_)
                  obtain ⟨z_x_8, z_y_8, z_wrong_8, mk_8, g_mark_8, rfl, hv_8⟩ := hq
                  have hP : va_P D classes [(m_stack, .inl (cI, 48, .inl g_stack)), (mo, .inr (8, [.int z_fault, .int z_size, .ref m_row, .ref m_shelves, .ref m_many, .ref m_widths, .int (nI mk_8), .ref m_mark, .int z_shown, .ref m_shownMark, .int z_wasRun, .int z_wrong_8, .int z_ended, .int (nI sp), .int z_hints, .int z_hasWidth, .int z_width, .int z_first, .int z_moved, .int z_deepest, .int z_x_8, .int z_y_8, .int (nI t), .ref m_stack, .ref m_places, .int (nI d), .ref m_kinds, .ref m_ats, .ref m_ends])), (m_mark, .inl (cI, 28000, .inl g_mark_8))] H := hP
                  have hD : va_D A_ [(m_stack, .inl (cI, 48, .inl g_stack)), (mo, .inr (8, [.int z_fault, .int z_size, .ref m_row, .ref m_shelves, .ref m_many, .ref m_widths, .int (nI mk_8), .ref m_mark, .int z_shown, .ref m_shownMark, .int z_wasRun, .int z_wrong_8, .int z_ended, .int (nI sp), .int z_hints, .int z_hasWidth, .int z_width, .int z_first, .int z_moved, .int z_deepest, .int z_x_8, .int z_y_8, .int (nI t), .ref m_stack, .ref m_places, .int (nI d), .ref m_kinds, .ref m_ats, .ref m_ends])), (m_mark, .inl (cI, 28000, .inl g_mark_8))] := hD
                  refine lv_aload_n hx hb d_Mo_curvesLine_95 rfl (lv_at hl 0 rfl) ?_
                  have hC : Cut [(m_stack, .inl (cI, 48, .inl g_stack)), (mo, .inr (8, [.int z_fault, .int z_size, .ref m_row, .ref m_shelves, .ref m_many, .ref m_widths, .int (nI mk_8), .ref m_mark, .int z_shown, .ref m_shownMark, .int z_wasRun, .int z_wrong_8, .int z_ended, .int (nI sp), .int z_hints, .int z_hasWidth, .int z_width, .int z_first, .int z_moved, .int z_deepest, .int z_x_8, .int z_y_8, .int (nI t), .ref m_stack, .ref m_places, .int (nI d), .ref m_kinds, .ref m_ats, .ref m_ends])), (m_mark, .inl (cI, 28000, .inl g_mark_8))] [(mo, .inr (8, [.int z_fault, .int z_size, .ref m_row, .ref m_shelves, .ref m_many, .ref m_widths, .int (nI mk_8), .ref m_mark, .int z_shown, .ref m_shownMark, .int z_wasRun, .int z_wrong_8, .int z_ended, .int (nI sp), .int z_hints, .int z_hasWidth, .int z_width, .int z_first, .int z_moved, .int z_deepest, .int z_x_8, .int z_y_8, .int (nI t), .ref m_stack, .ref m_places, .int (nI d), .ref m_kinds, .ref m_ats, .ref m_ends]))] [(m_stack, .inl (cI, 48, .inl g_stack)), (m_mark, .inl (cI, 28000, .inl g_mark_8))] [1] [0, 2] := ⟨rfl, rfl, rfl, rfl, by decide⟩
                  refine goV0 (trV (As := []) (rest := []) ⟨hx, hb, hml, hown, hts⟩ gd_good (c_Mo_take_V l D cB cI cJ mo m_row m_shelves m_many m_widths m_mark m_shownMark m_stack m_places m_kinds m_ats m_ends mk_8 sp t d z_fault z_size z_shown z_wasRun z_wrong_8 z_ended z_hints z_hasWidth z_width z_first z_moved z_deepest z_x_8 z_y_8 (by omega) ) cal_Mo_take_V ml_Mo_155 ⟨Nat.le_of_ble_eq_true rfl, Nat.le_of_ble_eq_true rfl⟩ hZ hP hD hC 1 (ci := 8) rfl rfl rfl rfl hl.1 rfl (Nat.le_of_ble_eq_true rfl) d_Mo_curvesLine_96 ⟨Nat.le_of_ble_eq_true rfl, Nat.le_of_ble_eq_true rfl⟩) hZ hP hD hS hC (fun w1 H locs hq hP hD hS => ?_)
                  obtain ⟨t_9, rfl, hv_9⟩ := hq
                  have hP : va_P D classes [(m_stack, .inl (cI, 48, .inl g_stack)), (m_mark, .inl (cI, 28000, .inl g_mark_8)), (mo, .inr (8, [.int z_fault, .int z_size, .ref m_row, .ref m_shelves, .ref m_many, .ref m_widths, .int (nI mk_8), .ref m_mark, .int z_shown, .ref m_shownMark, .int z_wasRun, .int z_wrong_8, .int z_ended, .int (nI sp), .int z_hints, .int z_hasWidth, .int z_width, .int z_first, .int z_moved, .int z_deepest, .int z_x_8, .int z_y_8, .int (nI t_9), .ref m_stack, .ref m_places, .int (nI d), .ref m_kinds, .ref m_ats, .ref m_ends]))] H := hP
                  have hD : va_D A_ [(m_stack, .inl (cI, 48, .inl g_stack)), (m_mark, .inl (cI, 28000, .inl g_mark_8)), (mo, .inr (8, [.int z_fault, .int z_size, .ref m_row, .ref m_shelves, .ref m_many, .ref m_widths, .int (nI mk_8), .ref m_mark, .int z_shown, .ref m_shownMark, .int z_wasRun, .int z_wrong_8, .int z_ended, .int (nI sp), .int z_hints, .int z_hasWidth, .int z_width, .int z_first, .int z_moved, .int z_deepest, .int z_x_8, .int z_y_8, .int (nI t_9), .ref m_stack, .ref m_places, .int (nI d), .ref m_kinds, .ref m_ats, .ref m_ends]))] := hD
                  exact t_vret hx hb hr hlk d_Mo_curvesLine_99 (hP.subm (ws' := [(mo, .inr (8, [.int z_fault, .int z_size, .ref m_row, .ref m_shelves, .ref m_many, .ref m_widths, .int (nI mk_8), .ref m_mark, .int z_shown, .ref m_shownMark, .int z_wasRun, .int z_wrong_8, .int z_ended, .int (nI sp), .int z_hints, .int z_hasWidth, .int z_width, .int z_first, .int z_moved, .int z_deepest, .int z_x_8, .int z_y_8, .int (nI t_9), .ref m_stack, .ref m_places, .int (nI d), .ref m_kinds, .ref m_ats, .ref m_ends])), (m_stack, .inl (cI, 48, .inl g_stack)), (m_mark, .inl (cI, 28000, .inl g_mark_8))]) [2, 0, 1] rfl) (hD.sub (ws' := [(mo, .inr (8, [.int z_fault, .int z_size, .ref m_row, .ref m_shelves, .ref m_many, .ref m_widths, .int (nI mk_8), .ref m_mark, .int z_shown, .ref m_shownMark, .int z_wasRun, .int z_wrong_8, .int z_ended, .int (nI sp), .int z_hints, .int z_hasWidth, .int z_width, .int z_first, .int z_moved, .int z_deepest, .int z_x_8, .int z_y_8, .int (nI t_9), .ref m_stack, .ref m_places, .int (nI d), .ref m_kinds, .ref m_ats, .ref m_ends])), (m_stack, .inl (cI, 48, .inl g_stack)), (m_mark, .inl (cI, 28000, .inl g_mark_8))]) [2, 0, 1] rfl rfl) hS ⟨rfl, rfl, rfl, _, _, _, mk_8, t_9, _, rfl, (by omega)⟩
              · refine lv_aload_n hx hb d_Mo_curvesLine_51 rfl (lv_at hl 0 rfl) ?_
                refine lv_iload_n hx hb d_Mo_curvesLine_52 rfl (lv_at hl 1 rfl) ?_
                have hC : Cut [(mo, .inr (8, [.int z_fault, .int z_size, .ref m_row, .ref m_shelves, .ref m_many, .ref m_widths, .int (nI mL), .ref m_mark, .int z_shown, .ref m_shownMark, .int z_wasRun, .int wL, .int z_ended, .int (nI sp), .int z_hints, .int z_hasWidth, .int z_width, .int z_first, .int z_moved, .int z_deepest, .int xL, .int yL, .int (nI t), .ref m_stack, .ref m_places, .int (nI d), .ref m_kinds, .ref m_ats, .ref m_ends])), (m_stack, .inl (cI, 48, .inl g_stack)), (m_mark, .inl (cI, 28000, .inl gm))] [(mo, .inr (8, [.int z_fault, .int z_size, .ref m_row, .ref m_shelves, .ref m_many, .ref m_widths, .int (nI mL), .ref m_mark, .int z_shown, .ref m_shownMark, .int z_wasRun, .int wL, .int z_ended, .int (nI sp), .int z_hints, .int z_hasWidth, .int z_width, .int z_first, .int z_moved, .int z_deepest, .int xL, .int yL, .int (nI t), .ref m_stack, .ref m_places, .int (nI d), .ref m_kinds, .ref m_ats, .ref m_ends])), (m_stack, .inl (cI, 48, .inl g_stack)), (m_mark, .inl (cI, 28000, .inl gm))] [] [0, 1, 2] [] := ⟨rfl, rfl, rfl, rfl, by decide⟩
                refine goV0 (trV (As := [.int (nI i)]) (rest := []) ⟨hx, hb, hml, hown, hts⟩ gd_good (c_Mo_six l D cB cI cJ mo m_row m_shelves m_many m_widths m_mark m_shownMark m_stack m_places m_kinds m_ats m_ends mL sp t d z_fault z_size z_shown z_wasRun wL z_ended z_hints z_hasWidth z_width z_first z_moved z_deepest xL yL g_stack gm i (by omega) (by omega)) cal_Mo_six ml_Mo_169 ⟨Nat.le_of_ble_eq_true rfl, Nat.le_of_ble_eq_true rfl⟩ hZ hP hD hC 0 (ci := 8) rfl rfl rfl rfl hl.1 rfl (Nat.le_of_ble_eq_true rfl) d_Mo_curvesLine_53 ⟨Nat.le_of_ble_eq_true rfl, Nat.le_of_ble_eq_true rfl⟩) hZ hP hD hS hC (fun w1 H locs hq hP hD hS => ?_)
                obtain ⟨z_x_10, z_y_10, z_wrong_10, mk_10, g_mark_10, rfl, hv_10⟩ := hq
                have hP : va_P D classes [(mo, .inr (8, [.int z_fault, .int z_size, .ref m_row, .ref m_shelves, .ref m_many, .ref m_widths, .int (nI mk_10), .ref m_mark, .int z_shown, .ref m_shownMark, .int z_wasRun, .int z_wrong_10, .int z_ended, .int (nI sp), .int z_hints, .int z_hasWidth, .int z_width, .int z_first, .int z_moved, .int z_deepest, .int z_x_10, .int z_y_10, .int (nI t), .ref m_stack, .ref m_places, .int (nI d), .ref m_kinds, .ref m_ats, .ref m_ends])), (m_stack, .inl (cI, 48, .inl g_stack)), (m_mark, .inl (cI, 28000, .inl g_mark_10))] H := hP
                have hD : va_D A_ [(mo, .inr (8, [.int z_fault, .int z_size, .ref m_row, .ref m_shelves, .ref m_many, .ref m_widths, .int (nI mk_10), .ref m_mark, .int z_shown, .ref m_shownMark, .int z_wasRun, .int z_wrong_10, .int z_ended, .int (nI sp), .int z_hints, .int z_hasWidth, .int z_width, .int z_first, .int z_moved, .int z_deepest, .int z_x_10, .int z_y_10, .int (nI t), .ref m_stack, .ref m_places, .int (nI d), .ref m_kinds, .ref m_ats, .ref m_ends])), (m_stack, .inl (cI, 48, .inl g_stack)), (m_mark, .inl (cI, 28000, .inl g_mark_10))] := hD
                refine lv_iinc (v := nI (i + 6)) (lv' := [(1, .int (nI (i + 6))), (0, .ref mo)]) hx hb d_Mo_curvesLine_56 hl (k := 1) rfl (nI_add i 6) (by decide) rfl (fun ls hl => ?_)
                refine lv_goto (tgt := 34) hx hb d_Mo_curvesLine_59 (by decide) ?_
                exact ih_34  (i + 6) z_x_10 z_y_10 z_wrong_10 mk_10 g_mark_10 _ _ _ ⟨by omega, by omega, by omega⟩ (by omega) (hP.subm [0, 1, 2] rfl) (hD.sub [0, 1, 2] rfl rfl) hS (lv_sub hl [1, 0] rfl)
        exact lp_34 _ 0 z_x z_y z_wrong_3 mk g_mark _ _ _ ⟨by omega, by omega, by omega⟩ (Nat.lt_succ_self _) (hP.subm [2, 0, 1] rfl) (hD.sub [2, 0, 1] rfl rfl) hS (lv_sub hl [1, 0] rfl)
set_option maxHeartbeats 1000000 in
set_option maxRecDepth 100000 in
theorem c_Mo_linesCurve (l : Launch) (D : va_G) (cB cI cJ : ClassId) (mo m_row m_shelves m_many m_widths m_mark m_shownMark m_stack m_places m_kinds m_ats m_ends : Nat) (mk sp t d : Nat) (z_fault z_size z_shown z_wasRun z_wrong z_ended z_hints z_hasWidth z_width z_first z_moved z_deepest z_x z_y : Int32) (g_stack g_mark : Nat → Int32)  (hiv : t ≤ 48 ∧ d ≤ 10 ∧ mk ≤ 4000 ∧ sp ≤ 20000) : Tr l D classes (TY cB cI cJ) gd_tbl nx_tbl y_Mo_linesCurve b_Mo_linesCurve 2 none ({ frames := 4, cells := 0, slots := 0, locals := 98 }) [.ref mo] [(mo, .inr (8, [.int z_fault, .int z_size, .ref m_row, .ref m_shelves, .ref m_many, .ref m_widths, .int (nI mk), .ref m_mark, .int z_shown, .ref m_shownMark, .int z_wasRun, .int z_wrong, .int z_ended, .int (nI sp), .int z_hints, .int z_hasWidth, .int z_width, .int z_first, .int z_moved, .int z_deepest, .int z_x, .int z_y, .int (nI t), .ref m_stack, .ref m_places, .int (nI d), .ref m_kinds, .ref m_ats, .ref m_ends])), (m_stack, .inl (cI, 48, .inl g_stack)), (m_mark, .inl (cI, 28000, .inl g_mark))] (pV0 (fun w => ∃ (z_x' : Int32) (z_y' : Int32) (z_wrong' : Int32) (mk' : Nat) (t' : Nat) (g_mark' : Nat → Int32), w = [(mo, .inr (8, [.int z_fault, .int z_size, .ref m_row, .ref m_shelves, .ref m_many, .ref m_widths, .int (nI mk'), .ref m_mark, .int z_shown, .ref m_shownMark, .int z_wasRun, .int z_wrong', .int z_ended, .int (nI sp), .int z_hints, .int z_hasWidth, .int z_width, .int z_first, .int z_moved, .int z_deepest, .int z_x', .int z_y', .int (nI t'), .ref m_stack, .ref m_places, .int (nI d), .ref m_kinds, .ref m_ats, .ref m_ends])), (m_stack, .inl (cI, 48, .inl g_stack)), (m_mark, .inl (cI, 28000, .inl g_mark'))] ∧ (t' ≤ 48 ∧ d ≤ 10 ∧ mk' ≤ 4000 ∧ sp ≤ 20000))) := by
  refine Tr.intro (by decide +kernel) nx_ok (Nat.le_of_ble_eq_true rfl) ?_
  intro p_ e_ s_ m_ args_ below_ meth_ c_ A_ ls hx hb hml hown hts hr hlk hnm hZ hP hD hS hl
  have hl : lv_has ls 2 [(0, .ref mo)] := hl
  refine lv_aload_n hx hb d_Mo_linesCurve_0 rfl (lv_at hl 0 rfl) ?_
  refine lv_aload_n hx hb d_Mo_linesCurve_1 rfl (lv_at hl 0 rfl) ?_
  refine va_get (D := D) (ci := 8) (v := .int (nI t)) (C := R_Mo) (T := F_Mo) (N := 29) hx hb hts i_Mo hown hZ.1 hP 0 rfl rfl 22 (by decide) (hts _ fl_Mo_82) (fun _ h9 => h9) rfl d_Mo_linesCurve_2 ?_
  refine lv_bipush (v := 8) hx hb d_Mo_linesCurve_5 (by decide) ?_
  refine lv_icmp_lt (tgt := 23) hx hb d_Mo_linesCurve_7 (by decide) (fun c_7 => ?_) (fun c_7 => ?_)
  · have n_7 : (t) < (8) := (nI_ltI (a := t) (b := 8) (by omega) (by omega)).mp c_7
    refine lv_iconst (v := 0) hx hb d_Mo_linesCurve_23 (by decide) ?_
    have hC : Cut [(mo, .inr (8, [.int z_fault, .int z_size, .ref m_row, .ref m_shelves, .ref m_many, .ref m_widths, .int (nI mk), .ref m_mark, .int z_shown, .ref m_shownMark, .int z_wasRun, .int z_wrong, .int z_ended, .int (nI sp), .int z_hints, .int z_hasWidth, .int z_width, .int z_first, .int z_moved, .int z_deepest, .int z_x, .int z_y, .int (nI t), .ref m_stack, .ref m_places, .int (nI d), .ref m_kinds, .ref m_ats, .ref m_ends])), (m_stack, .inl (cI, 48, .inl g_stack)), (m_mark, .inl (cI, 28000, .inl g_mark))] [(mo, .inr (8, [.int z_fault, .int z_size, .ref m_row, .ref m_shelves, .ref m_many, .ref m_widths, .int (nI mk), .ref m_mark, .int z_shown, .ref m_shownMark, .int z_wasRun, .int z_wrong, .int z_ended, .int (nI sp), .int z_hints, .int z_hasWidth, .int z_width, .int z_first, .int z_moved, .int z_deepest, .int z_x, .int z_y, .int (nI t), .ref m_stack, .ref m_places, .int (nI d), .ref m_kinds, .ref m_ats, .ref m_ends]))] [(m_stack, .inl (cI, 48, .inl g_stack)), (m_mark, .inl (cI, 28000, .inl g_mark))] [0] [1, 2] := ⟨rfl, rfl, rfl, rfl, by decide⟩
    refine goI0 (trV (As := [.int 0]) (rest := []) ⟨hx, hb, hml, hown, hts⟩ gd_good (c_Mo_may l D cB cI cJ mo m_row m_shelves m_many m_widths m_mark m_shownMark m_stack m_places m_kinds m_ats m_ends mk sp t d z_fault z_size z_shown z_wasRun z_wrong z_ended z_hints z_hasWidth z_width z_first z_moved z_deepest z_x z_y 0 (by omega) ) cal_Mo_may ml_Mo_162 ⟨Nat.le_of_ble_eq_true rfl, Nat.le_of_ble_eq_true rfl⟩ hZ hP hD hC 0 (ci := 8) rfl rfl rfl rfl hl.1 rfl (Nat.le_of_ble_eq_true rfl) d_Mo_linesCurve_24 ⟨Nat.le_of_ble_eq_true rfl, Nat.le_of_ble_eq_true rfl⟩) hZ hP hD hS hC (fun r_24 w1 H locs hq hP hD hS => ?_)
    obtain ⟨z_wrong_1, rfl, hv_1, hx_1, hz_1⟩ := hq
    have hP : va_P D classes [(m_stack, .inl (cI, 48, .inl g_stack)), (m_mark, .inl (cI, 28000, .inl g_mark)), (mo, .inr (8, [.int z_fault, .int z_size, .ref m_row, .ref m_shelves, .ref m_many, .ref m_widths, .int (nI mk), .ref m_mark, .int z_shown, .ref m_shownMark, .int z_wasRun, .int z_wrong_1, .int z_ended, .int (nI sp), .int z_hints, .int z_hasWidth, .int z_width, .int z_first, .int z_moved, .int z_deepest, .int z_x, .int z_y, .int (nI t), .ref m_stack, .ref m_places, .int (nI d), .ref m_kinds, .ref m_ats, .ref m_ends]))] H := hP
    have hD : va_D A_ [(m_stack, .inl (cI, 48, .inl g_stack)), (m_mark, .inl (cI, 28000, .inl g_mark)), (mo, .inr (8, [.int z_fault, .int z_size, .ref m_row, .ref m_shelves, .ref m_many, .ref m_widths, .int (nI mk), .ref m_mark, .int z_shown, .ref m_shownMark, .int z_wasRun, .int z_wrong_1, .int z_ended, .int (nI sp), .int z_hints, .int z_hasWidth, .int z_width, .int z_first, .int z_moved, .int z_deepest, .int z_x, .int z_y, .int (nI t), .ref m_stack, .ref m_places, .int (nI d), .ref m_kinds, .ref m_ats, .ref m_ends]))] := hD
    refine lv_if_eq (tgt := 96) hx hb d_Mo_linesCurve_27 (by decide) (fun c_27 => ?_) (fun c_27 => ?_)
    · exact t_vret hx hb hr hlk d_Mo_linesCurve_96 (hP.subm (ws' := [(mo, .inr (8, [.int z_fault, .int z_size, .ref m_row, .ref m_shelves, .ref m_many, .ref m_widths, .int (nI mk), .ref m_mark, .int z_shown, .ref m_shownMark, .int z_wasRun, .int z_wrong_1, .int z_ended, .int (nI sp), .int z_hints, .int z_hasWidth, .int z_width, .int z_first, .int z_moved, .int z_deepest, .int z_x, .int z_y, .int (nI t), .ref m_stack, .ref m_places, .int (nI d), .ref m_kinds, .ref m_ats, .ref m_ends])), (m_stack, .inl (cI, 48, .inl g_stack)), (m_mark, .inl (cI, 28000, .inl g_mark))]) [2, 0, 1] rfl) (hD.sub (ws' := [(mo, .inr (8, [.int z_fault, .int z_size, .ref m_row, .ref m_shelves, .ref m_many, .ref m_widths, .int (nI mk), .ref m_mark, .int z_shown, .ref m_shownMark, .int z_wasRun, .int z_wrong_1, .int z_ended, .int (nI sp), .int z_hints, .int z_hasWidth, .int z_width, .int z_first, .int z_moved, .int z_deepest, .int z_x, .int z_y, .int (nI t), .ref m_stack, .ref m_places, .int (nI d), .ref m_kinds, .ref m_ats, .ref m_ends])), (m_stack, .inl (cI, 48, .inl g_stack)), (m_mark, .inl (cI, 28000, .inl g_mark))]) [2, 0, 1] rfl rfl) hS ⟨rfl, rfl, rfl, _, _, _, mk, t, _, rfl, (by omega)⟩
    · exact absurd rfl (hx_1 c_27)
  · have n_7 : ¬ (t) < (8) := fun z => c_7 ((nI_ltI (a := t) (b := 8) (by omega) (by omega)).mpr z)
    refine lv_aload_n hx hb d_Mo_linesCurve_10 rfl (lv_at hl 0 rfl) ?_
    refine va_get (D := D) (ci := 8) (v := .int (nI t)) (C := R_Mo) (T := F_Mo) (N := 29) hx hb hts i_Mo hown hZ.1 hP 0 rfl rfl 22 (by decide) (hts _ fl_Mo_82) (fun _ h9 => h9) rfl d_Mo_linesCurve_11 ?_
    refine lv_iconst (v := 2) hx hb d_Mo_linesCurve_14 (by decide) ?_
    refine lv_irem hx hb d_Mo_linesCurve_15 (by decide) ?_
    refine lv_tv (y := nI (t % 2)) (pk_rem (a := t) (d := 2) (by omega) (by omega) (by omega)) ?_
    refine lv_if_ne (tgt := 23) hx hb d_Mo_linesCurve_16 (by decide) (fun c_16 => ?_) (fun c_16 => ?_)
    · have n_16 : ¬ (t % 2) = (0) := fun z => c_16 ((nI_eq (a := t % 2) (b := 0) (by omega) (by omega)).mpr z)
      refine lv_iconst (v := 0) hx hb d_Mo_linesCurve_23 (by decide) ?_
      have hC : Cut [(mo, .inr (8, [.int z_fault, .int z_size, .ref m_row, .ref m_shelves, .ref m_many, .ref m_widths, .int (nI mk), .ref m_mark, .int z_shown, .ref m_shownMark, .int z_wasRun, .int z_wrong, .int z_ended, .int (nI sp), .int z_hints, .int z_hasWidth, .int z_width, .int z_first, .int z_moved, .int z_deepest, .int z_x, .int z_y, .int (nI t), .ref m_stack, .ref m_places, .int (nI d), .ref m_kinds, .ref m_ats, .ref m_ends])), (m_stack, .inl (cI, 48, .inl g_stack)), (m_mark, .inl (cI, 28000, .inl g_mark))] [(mo, .inr (8, [.int z_fault, .int z_size, .ref m_row, .ref m_shelves, .ref m_many, .ref m_widths, .int (nI mk), .ref m_mark, .int z_shown, .ref m_shownMark, .int z_wasRun, .int z_wrong, .int z_ended, .int (nI sp), .int z_hints, .int z_hasWidth, .int z_width, .int z_first, .int z_moved, .int z_deepest, .int z_x, .int z_y, .int (nI t), .ref m_stack, .ref m_places, .int (nI d), .ref m_kinds, .ref m_ats, .ref m_ends]))] [(m_stack, .inl (cI, 48, .inl g_stack)), (m_mark, .inl (cI, 28000, .inl g_mark))] [0] [1, 2] := ⟨rfl, rfl, rfl, rfl, by decide⟩
      refine goI0 (trV (As := [.int 0]) (rest := []) ⟨hx, hb, hml, hown, hts⟩ gd_good (c_Mo_may l D cB cI cJ mo m_row m_shelves m_many m_widths m_mark m_shownMark m_stack m_places m_kinds m_ats m_ends mk sp t d z_fault z_size z_shown z_wasRun z_wrong z_ended z_hints z_hasWidth z_width z_first z_moved z_deepest z_x z_y 0 (by omega) ) cal_Mo_may ml_Mo_162 ⟨Nat.le_of_ble_eq_true rfl, Nat.le_of_ble_eq_true rfl⟩ hZ hP hD hC 0 (ci := 8) rfl rfl rfl rfl hl.1 rfl (Nat.le_of_ble_eq_true rfl) d_Mo_linesCurve_24 ⟨Nat.le_of_ble_eq_true rfl, Nat.le_of_ble_eq_true rfl⟩) hZ hP hD hS hC (fun r_24 w1 H locs hq hP hD hS => ?_)
      obtain ⟨z_wrong_2, rfl, hv_2, hx_2, hz_2⟩ := hq
      have hP : va_P D classes [(m_stack, .inl (cI, 48, .inl g_stack)), (m_mark, .inl (cI, 28000, .inl g_mark)), (mo, .inr (8, [.int z_fault, .int z_size, .ref m_row, .ref m_shelves, .ref m_many, .ref m_widths, .int (nI mk), .ref m_mark, .int z_shown, .ref m_shownMark, .int z_wasRun, .int z_wrong_2, .int z_ended, .int (nI sp), .int z_hints, .int z_hasWidth, .int z_width, .int z_first, .int z_moved, .int z_deepest, .int z_x, .int z_y, .int (nI t), .ref m_stack, .ref m_places, .int (nI d), .ref m_kinds, .ref m_ats, .ref m_ends]))] H := hP
      have hD : va_D A_ [(m_stack, .inl (cI, 48, .inl g_stack)), (m_mark, .inl (cI, 28000, .inl g_mark)), (mo, .inr (8, [.int z_fault, .int z_size, .ref m_row, .ref m_shelves, .ref m_many, .ref m_widths, .int (nI mk), .ref m_mark, .int z_shown, .ref m_shownMark, .int z_wasRun, .int z_wrong_2, .int z_ended, .int (nI sp), .int z_hints, .int z_hasWidth, .int z_width, .int z_first, .int z_moved, .int z_deepest, .int z_x, .int z_y, .int (nI t), .ref m_stack, .ref m_places, .int (nI d), .ref m_kinds, .ref m_ats, .ref m_ends]))] := hD
      refine lv_if_eq (tgt := 96) hx hb d_Mo_linesCurve_27 (by decide) (fun c_27 => ?_) (fun c_27 => ?_)
      · exact t_vret hx hb hr hlk d_Mo_linesCurve_96 (hP.subm (ws' := [(mo, .inr (8, [.int z_fault, .int z_size, .ref m_row, .ref m_shelves, .ref m_many, .ref m_widths, .int (nI mk), .ref m_mark, .int z_shown, .ref m_shownMark, .int z_wasRun, .int z_wrong_2, .int z_ended, .int (nI sp), .int z_hints, .int z_hasWidth, .int z_width, .int z_first, .int z_moved, .int z_deepest, .int z_x, .int z_y, .int (nI t), .ref m_stack, .ref m_places, .int (nI d), .ref m_kinds, .ref m_ats, .ref m_ends])), (m_stack, .inl (cI, 48, .inl g_stack)), (m_mark, .inl (cI, 28000, .inl g_mark))]) [2, 0, 1] rfl) (hD.sub (ws' := [(mo, .inr (8, [.int z_fault, .int z_size, .ref m_row, .ref m_shelves, .ref m_many, .ref m_widths, .int (nI mk), .ref m_mark, .int z_shown, .ref m_shownMark, .int z_wasRun, .int z_wrong_2, .int z_ended, .int (nI sp), .int z_hints, .int z_hasWidth, .int z_width, .int z_first, .int z_moved, .int z_deepest, .int z_x, .int z_y, .int (nI t), .ref m_stack, .ref m_places, .int (nI d), .ref m_kinds, .ref m_ats, .ref m_ends])), (m_stack, .inl (cI, 48, .inl g_stack)), (m_mark, .inl (cI, 28000, .inl g_mark))]) [2, 0, 1] rfl rfl) hS ⟨rfl, rfl, rfl, _, _, _, mk, t, _, rfl, (by omega)⟩
      · exact absurd rfl (hx_2 c_27)
    · have n_16 : (t % 2) = (0) := (nI_eq (a := t % 2) (b := 0) (by omega) (by omega)).mp c_16
      refine lv_iconst (v := 1) hx hb d_Mo_linesCurve_19 (by decide) ?_
      refine lv_goto (tgt := 24) hx hb d_Mo_linesCurve_20 (by decide) ?_
      have hC : Cut [(mo, .inr (8, [.int z_fault, .int z_size, .ref m_row, .ref m_shelves, .ref m_many, .ref m_widths, .int (nI mk), .ref m_mark, .int z_shown, .ref m_shownMark, .int z_wasRun, .int z_wrong, .int z_ended, .int (nI sp), .int z_hints, .int z_hasWidth, .int z_width, .int z_first, .int z_moved, .int z_deepest, .int z_x, .int z_y, .int (nI t), .ref m_stack, .ref m_places, .int (nI d), .ref m_kinds, .ref m_ats, .ref m_ends])), (m_stack, .inl (cI, 48, .inl g_stack)), (m_mark, .inl (cI, 28000, .inl g_mark))] [(mo, .inr (8, [.int z_fault, .int z_size, .ref m_row, .ref m_shelves, .ref m_many, .ref m_widths, .int (nI mk), .ref m_mark, .int z_shown, .ref m_shownMark, .int z_wasRun, .int z_wrong, .int z_ended, .int (nI sp), .int z_hints, .int z_hasWidth, .int z_width, .int z_first, .int z_moved, .int z_deepest, .int z_x, .int z_y, .int (nI t), .ref m_stack, .ref m_places, .int (nI d), .ref m_kinds, .ref m_ats, .ref m_ends]))] [(m_stack, .inl (cI, 48, .inl g_stack)), (m_mark, .inl (cI, 28000, .inl g_mark))] [0] [1, 2] := ⟨rfl, rfl, rfl, rfl, by decide⟩
      refine goI0 (trV (As := [.int 1]) (rest := []) ⟨hx, hb, hml, hown, hts⟩ gd_good (c_Mo_may l D cB cI cJ mo m_row m_shelves m_many m_widths m_mark m_shownMark m_stack m_places m_kinds m_ats m_ends mk sp t d z_fault z_size z_shown z_wasRun z_wrong z_ended z_hints z_hasWidth z_width z_first z_moved z_deepest z_x z_y 1 (by omega) ) cal_Mo_may ml_Mo_162 ⟨Nat.le_of_ble_eq_true rfl, Nat.le_of_ble_eq_true rfl⟩ hZ hP hD hC 0 (ci := 8) rfl rfl rfl rfl hl.1 rfl (Nat.le_of_ble_eq_true rfl) d_Mo_linesCurve_24 ⟨Nat.le_of_ble_eq_true rfl, Nat.le_of_ble_eq_true rfl⟩) hZ hP hD hS hC (fun r_24 w1 H locs hq hP hD hS => ?_)
      obtain ⟨z_wrong_3, rfl, hv_3, hx_3, hz_3⟩ := hq
      have hP : va_P D classes [(m_stack, .inl (cI, 48, .inl g_stack)), (m_mark, .inl (cI, 28000, .inl g_mark)), (mo, .inr (8, [.int z_fault, .int z_size, .ref m_row, .ref m_shelves, .ref m_many, .ref m_widths, .int (nI mk), .ref m_mark, .int z_shown, .ref m_shownMark, .int z_wasRun, .int z_wrong_3, .int z_ended, .int (nI sp), .int z_hints, .int z_hasWidth, .int z_width, .int z_first, .int z_moved, .int z_deepest, .int z_x, .int z_y, .int (nI t), .ref m_stack, .ref m_places, .int (nI d), .ref m_kinds, .ref m_ats, .ref m_ends]))] H := hP
      have hD : va_D A_ [(m_stack, .inl (cI, 48, .inl g_stack)), (m_mark, .inl (cI, 28000, .inl g_mark)), (mo, .inr (8, [.int z_fault, .int z_size, .ref m_row, .ref m_shelves, .ref m_many, .ref m_widths, .int (nI mk), .ref m_mark, .int z_shown, .ref m_shownMark, .int z_wasRun, .int z_wrong_3, .int z_ended, .int (nI sp), .int z_hints, .int z_hasWidth, .int z_width, .int z_first, .int z_moved, .int z_deepest, .int z_x, .int z_y, .int (nI t), .ref m_stack, .ref m_places, .int (nI d), .ref m_kinds, .ref m_ats, .ref m_ends]))] := hD
      refine lv_if_eq (tgt := 96) hx hb d_Mo_linesCurve_27 (by decide) (fun c_27 => ?_) (fun c_27 => ?_)
      · exact t_vret hx hb hr hlk d_Mo_linesCurve_96 (hP.subm (ws' := [(mo, .inr (8, [.int z_fault, .int z_size, .ref m_row, .ref m_shelves, .ref m_many, .ref m_widths, .int (nI mk), .ref m_mark, .int z_shown, .ref m_shownMark, .int z_wasRun, .int z_wrong_3, .int z_ended, .int (nI sp), .int z_hints, .int z_hasWidth, .int z_width, .int z_first, .int z_moved, .int z_deepest, .int z_x, .int z_y, .int (nI t), .ref m_stack, .ref m_places, .int (nI d), .ref m_kinds, .ref m_ats, .ref m_ends])), (m_stack, .inl (cI, 48, .inl g_stack)), (m_mark, .inl (cI, 28000, .inl g_mark))]) [2, 0, 1] rfl) (hD.sub (ws' := [(mo, .inr (8, [.int z_fault, .int z_size, .ref m_row, .ref m_shelves, .ref m_many, .ref m_widths, .int (nI mk), .ref m_mark, .int z_shown, .ref m_shownMark, .int z_wasRun, .int z_wrong_3, .int z_ended, .int (nI sp), .int z_hints, .int z_hasWidth, .int z_width, .int z_first, .int z_moved, .int z_deepest, .int z_x, .int z_y, .int (nI t), .ref m_stack, .ref m_places, .int (nI d), .ref m_kinds, .ref m_ats, .ref m_ends])), (m_stack, .inl (cI, 48, .inl g_stack)), (m_mark, .inl (cI, 28000, .inl g_mark))]) [2, 0, 1] rfl rfl) hS ⟨rfl, rfl, rfl, _, _, _, mk, t, _, rfl, (by omega)⟩
      · refine lv_iconst (v := 0) hx hb d_Mo_linesCurve_30 (by decide) ?_
        refine lv_istore_n (lv' := [(1, .int 0), (0, .ref mo)]) hx hb d_Mo_linesCurve_31 rfl hl (by decide) rfl (fun ls hl => ?_)
        have lp_32 : ∀ (fu : Nat) (i : Nat) (xL : Int32) (yL : Int32) (wL : Int32) (mL : Nat) (gm : Nat → Int32) (H : Heap) (locs : List Loc) (ls : Array Slot), (mL ≤ 4000 ∧ i ≤ 60 ∧ i % 2 = 0) → (70 - i) < fu → va_P D classes [(mo, .inr (8, [.int z_fault, .int z_size, .ref m_row, .ref m_shelves, .ref m_many, .ref m_widths, .int (nI mL), .ref m_mark, .int z_shown, .ref m_shownMark, .int z_wasRun, .int wL, .int z_ended, .int (nI sp), .int z_hints, .int z_hasWidth, .int z_width, .int z_first, .int z_moved, .int z_deepest, .int xL, .int yL, .int (nI t), .ref m_stack, .ref m_places, .int (nI d), .ref m_kinds, .ref m_ats, .ref m_ends])), (m_stack, .inl (cI, 48, .inl g_stack)), (m_mark, .inl (cI, 28000, .inl gm))] H → va_D A_ [(mo, .inr (8, [.int z_fault, .int z_size, .ref m_row, .ref m_shelves, .ref m_many, .ref m_widths, .int (nI mL), .ref m_mark, .int z_shown, .ref m_shownMark, .int z_wasRun, .int wL, .int z_ended, .int (nI sp), .int z_hints, .int z_hasWidth, .int z_width, .int z_first, .int z_moved, .int z_deepest, .int xL, .int yL, .int (nI t), .ref m_stack, .ref m_places, .int (nI d), .ref m_kinds, .ref m_ats, .ref m_ends])), (m_stack, .inl (cI, 48, .inl g_stack)), (m_mark, .inl (cI, 28000, .inl gm))] → va_S A_ s_.heap H locs → lv_has ls 2 [(0, .ref mo), (1, .int (nI i))] → W p_ l e_ ({ frames := 4, cells := 0, slots := 0, locals := 98 }) s_ m_ args_ below_ meth_ c_ H locs (0) (0) (MQT below_ D classes A_ (pV0 (fun w => ∃ (z_x' : Int32) (z_y' : Int32) (z_wrong' : Int32) (mk' : Nat) (t' : Nat) (g_mark' : Nat → Int32), w = [(mo, .inr (8, [.int z_fault, .int z_size, .ref m_row, .ref m_shelves, .ref m_many, .ref m_widths, .int (nI mk'), .ref m_mark, .int z_shown, .ref m_shownMark, .int z_wasRun, .int z_wrong', .int z_ended, .int (nI sp), .int z_hints, .int z_hasWidth, .int z_width, .int z_first, .int z_moved, .int z_deepest, .int z_x', .int z_y', .int (nI t'), .ref m_stack, .ref m_places, .int (nI d), .ref m_kinds, .ref m_ats, .ref m_ends])), (m_stack, .inl (cI, 48, .inl g_stack)), (m_mark, .inl (cI, 28000, .inl g_mark'))] ∧ (t' ≤ 48 ∧ d ≤ 10 ∧ mk' ≤ 4000 ∧ sp ≤ 20000))) s_) (F0 m_ 32 ls []) := by
          intro fu
          induction fu with
          | zero => intro i xL yL wL mL gm H locs ls hinv hfu; exact absurd hfu (Nat.not_lt_zero _)
          | succ fu ih_32 =>
            intro i xL yL wL mL gm H locs ls hinv hfu hP hD hS hl
            obtain ⟨hmL, hi1, hi2⟩ := hinv
            refine lv_iload_n hx hb d_Mo_linesCurve_32 rfl (lv_at hl 1 rfl) ?_
            refine lv_bipush (v := 6) hx hb d_Mo_linesCurve_33 (by decide) ?_
            refine lv_iadd hx hb d_Mo_linesCurve_35 ?_
            refine lv_tv (y := nI (i + 6)) (nI_add i 6) ?_
            refine lv_aload_n hx hb d_Mo_linesCurve_36 rfl (lv_at hl 0 rfl) ?_
            refine va_get (D := D) (ci := 8) (v := .int (nI t)) (C := R_Mo) (T := F_Mo) (N := 29) hx hb hts i_Mo hown hZ.1 hP 0 rfl rfl 22 (by decide) (hts _ fl_Mo_82) (fun _ h9 => h9) rfl d_Mo_linesCurve_37 ?_
            refine lv_icmp_ge (tgt := 74) hx hb d_Mo_linesCurve_40 (by decide) (fun c_40 => ?_) (fun c_40 => ?_)
            · have n_40 : (t) ≤ (i + 6) := (nI_leI (a := t) (b := i + 6) (by omega) (by omega)).mp c_40
              refine lv_aload_n hx hb d_Mo_linesCurve_74 rfl (lv_at hl 0 rfl) ?_
              refine va_get (D := D) (ci := 8) (v := .int wL) (C := R_Mo) (T := F_Mo) (N := 29) hx hb hts i_Mo hown hZ.1 hP 0 rfl rfl 11 (by decide) (hts _ fl_Mo_75) (fun _ h9 => h9) rfl d_Mo_linesCurve_75 ?_
              refine lv_if_ne (tgt := 92) hx hb d_Mo_linesCurve_78 (by decide) (fun c_78 => ?_) (fun c_78 => ?_)
              · refine lv_aload_n hx hb d_Mo_linesCurve_92 rfl (lv_at hl 0 rfl) ?_
                have hC : Cut [(mo, .inr (8, [.int z_fault, .int z_size, .ref m_row, .ref m_shelves, .ref m_many, .ref m_widths, .int (nI mL), .ref m_mark, .int z_shown, .ref m_shownMark, .int z_wasRun, .int wL, .int z_ended, .int (nI sp), .int z_hints, .int z_hasWidth, .int z_width, .int z_first, .int z_moved, .int z_deepest, .int xL, .int yL, .int (nI t), .ref m_stack, .ref m_places, .int (nI d), .ref m_kinds, .ref m_ats, .ref m_ends])), (m_stack, .inl (cI, 48, .inl g_stack)), (m_mark, .inl (cI, 28000, .inl gm))] [(mo, .inr (8, [.int z_fault, .int z_size, .ref m_row, .ref m_shelves, .ref m_many, .ref m_widths, .int (nI mL), .ref m_mark, .int z_shown, .ref m_shownMark, .int z_wasRun, .int wL, .int z_ended, .int (nI sp), .int z_hints, .int z_hasWidth, .int z_width, .int z_first, .int z_moved, .int z_deepest, .int xL, .int yL, .int (nI t), .ref m_stack, .ref m_places, .int (nI d), .ref m_kinds, .ref m_ats, .ref m_ends]))] [(m_stack, .inl (cI, 48, .inl g_stack)), (m_mark, .inl (cI, 28000, .inl gm))] [0] [1, 2] := ⟨rfl, rfl, rfl, rfl, by decide⟩
                refine goV0 (trV (As := []) (rest := []) ⟨hx, hb, hml, hown, hts⟩ gd_good (c_Mo_take_V l D cB cI cJ mo m_row m_shelves m_many m_widths m_mark m_shownMark m_stack m_places m_kinds m_ats m_ends mL sp t d z_fault z_size z_shown z_wasRun wL z_ended z_hints z_hasWidth z_width z_first z_moved z_deepest xL yL (by omega) ) cal_Mo_take_V ml_Mo_155 ⟨Nat.le_of_ble_eq_true rfl, Nat.le_of_ble_eq_true rfl⟩ hZ hP hD hC 0 (ci := 8) rfl rfl rfl rfl hl.1 rfl (Nat.le_of_ble_eq_true rfl) d_Mo_linesCurve_93 ⟨Nat.le_of_ble_eq_true rfl, Nat.le_of_ble_eq_true rfl⟩) hZ hP hD hS hC (fun w1 H locs hq hP hD hS => ?_)
                obtain ⟨t_4, rfl, hv_4⟩ := hq
                have hP : va_P D classes [(m_stack, .inl (cI, 48, .inl g_stack)), (m_mark, .inl (cI, 28000, .inl gm)), (mo, .inr (8, [.int z_fault, .int z_size, .ref m_row, .ref m_shelves, .ref m_many, .ref m_widths, .int (nI mL), .ref m_mark, .int z_shown, .ref m_shownMark, .int z_wasRun, .int wL, .int z_ended, .int (nI sp), .int z_hints, .int z_hasWidth, .int z_width, .int z_first, .int z_moved, .int z_deepest, .int xL, .int yL, .int (nI t_4), .ref m_stack, .ref m_places, .int (nI d), .ref m_kinds, .ref m_ats, .ref m_ends]))] H := hP
                have hD : va_D A_ [(m_stack, .inl (cI, 48, .inl g_stack)), (m_mark, .inl (cI, 28000, .inl gm)), (mo, .inr (8, [.int z_fault, .int z_size, .ref m_row, .ref m_shelves, .ref m_many, .ref m_widths, .int (nI mL), .ref m_mark, .int z_shown, .ref m_shownMark, .int z_wasRun, .int wL, .int z_ended, .int (nI sp), .int z_hints, .int z_hasWidth, .int z_width, .int z_first, .int z_moved, .int z_deepest, .int xL, .int yL, .int (nI t_4), .ref m_stack, .ref m_places, .int (nI d), .ref m_kinds, .ref m_ats, .ref m_ends]))] := hD
                exact t_vret hx hb hr hlk d_Mo_linesCurve_96 (hP.subm (ws' := [(mo, .inr (8, [.int z_fault, .int z_size, .ref m_row, .ref m_shelves, .ref m_many, .ref m_widths, .int (nI mL), .ref m_mark, .int z_shown, .ref m_shownMark, .int z_wasRun, .int wL, .int z_ended, .int (nI sp), .int z_hints, .int z_hasWidth, .int z_width, .int z_first, .int z_moved, .int z_deepest, .int xL, .int yL, .int (nI t_4), .ref m_stack, .ref m_places, .int (nI d), .ref m_kinds, .ref m_ats, .ref m_ends])), (m_stack, .inl (cI, 48, .inl g_stack)), (m_mark, .inl (cI, 28000, .inl gm))]) [2, 0, 1] rfl) (hD.sub (ws' := [(mo, .inr (8, [.int z_fault, .int z_size, .ref m_row, .ref m_shelves, .ref m_many, .ref m_widths, .int (nI mL), .ref m_mark, .int z_shown, .ref m_shownMark, .int z_wasRun, .int wL, .int z_ended, .int (nI sp), .int z_hints, .int z_hasWidth, .int z_width, .int z_first, .int z_moved, .int z_deepest, .int xL, .int yL, .int (nI t_4), .ref m_stack, .ref m_places, .int (nI d), .ref m_kinds, .ref m_ats, .ref m_ends])), (m_stack, .inl (cI, 48, .inl g_stack)), (m_mark, .inl (cI, 28000, .inl gm))]) [2, 0, 1] rfl rfl) hS ⟨rfl, rfl, rfl, _, _, _, mL, t_4, _, rfl, (by omega)⟩
              · refine lv_aload_n hx hb d_Mo_linesCurve_81 rfl (lv_at hl 0 rfl) ?_
                refine lv_aload_n hx hb d_Mo_linesCurve_82 rfl (lv_at hl 0 rfl) ?_
                refine va_get (D := D) (ci := 8) (v := .int (nI t)) (C := R_Mo) (T := F_Mo) (N := 29) hx hb hts i_Mo hown hZ.1 hP 0 rfl rfl 22 (by decide) (hts _ fl_Mo_82) (fun _ h9 => h9) rfl d_Mo_linesCurve_83 ?_
                refine lv_bipush (v := 6) hx hb d_Mo_linesCurve_86 (by decide) ?_
                refine lv_isub hx hb d_Mo_linesCurve_88 ?_
                refine lv_tv (y := nI (t - 6)) (pk_sub (a := t) (b := 6) (by omega)) ?_
                have hC : Cut [(mo, .inr (8, [.int z_fault, .int z_size, .ref m_row, .ref m_shelves, .ref m_many, .ref m_widths, .int (nI mL), .ref m_mark, .int z_shown, .ref m_shownMark, .int z_wasRun, .int wL, .int z_ended, .int (nI sp), .int z_hints, .int z_hasWidth, .int z_width, .int z_first, .int z_moved, .int z_deepest, .int xL, .int yL, .int (nI t), .ref m_stack, .ref m_places, .int (nI d), .ref m_kinds, .ref m_ats, .ref m_ends])), (m_stack, .inl (cI, 48, .inl g_stack)), (m_mark, .inl (cI, 28000, .inl gm))] [(mo, .inr (8, [.int z_fault, .int z_size, .ref m_row, .ref m_shelves, .ref m_many, .ref m_widths, .int (nI mL), .ref m_mark, .int z_shown, .ref m_shownMark, .int z_wasRun, .int wL, .int z_ended, .int (nI sp), .int z_hints, .int z_hasWidth, .int z_width, .int z_first, .int z_moved, .int z_deepest, .int xL, .int yL, .int (nI t), .ref m_stack, .ref m_places, .int (nI d), .ref m_kinds, .ref m_ats, .ref m_ends])), (m_stack, .inl (cI, 48, .inl g_stack)), (m_mark, .inl (cI, 28000, .inl gm))] [] [0, 1, 2] [] := ⟨rfl, rfl, rfl, rfl, by decide⟩
                refine goV0 (trV (As := [.int (nI (t - 6))]) (rest := []) ⟨hx, hb, hml, hown, hts⟩ gd_good (c_Mo_six l D cB cI cJ mo m_row m_shelves m_many m_widths m_mark m_shownMark m_stack m_places m_kinds m_ats m_ends mL sp t d z_fault z_size z_shown z_wasRun wL z_ended z_hints z_hasWidth z_width z_first z_moved z_deepest xL yL g_stack gm (t - 6) (by omega) (by omega)) cal_Mo_six ml_Mo_169 ⟨Nat.le_of_ble_eq_true rfl, Nat.le_of_ble_eq_true rfl⟩ hZ hP hD hC 0 (ci := 8) rfl rfl rfl rfl hl.1 rfl (Nat.le_of_ble_eq_true rfl) d_Mo_linesCurve_89 ⟨Nat.le_of_ble_eq_true rfl, Nat.le_of_ble_eq_true rfl⟩) hZ hP hD hS hC (fun w1 H locs hq hP hD hS => ?_)
                obtain ⟨z_x_5, z_y_5, z_wrong_5, mk_5, g_mark_5, rfl, hv_5⟩ := hq
                have hP : va_P D classes [(mo, .inr (8, [.int z_fault, .int z_size, .ref m_row, .ref m_shelves, .ref m_many, .ref m_widths, .int (nI mk_5), .ref m_mark, .int z_shown, .ref m_shownMark, .int z_wasRun, .int z_wrong_5, .int z_ended, .int (nI sp), .int z_hints, .int z_hasWidth, .int z_width, .int z_first, .int z_moved, .int z_deepest, .int z_x_5, .int z_y_5, .int (nI t), .ref m_stack, .ref m_places, .int (nI d), .ref m_kinds, .ref m_ats, .ref m_ends])), (m_stack, .inl (cI, 48, .inl g_stack)), (m_mark, .inl (cI, 28000, .inl g_mark_5))] H := hP
                have hD : va_D A_ [(mo, .inr (8, [.int z_fault, .int z_size, .ref m_row, .ref m_shelves, .ref m_many, .ref m_widths, .int (nI mk_5), .ref m_mark, .int z_shown, .ref m_shownMark, .int z_wasRun, .int z_wrong_5, .int z_ended, .int (nI sp), .int z_hints, .int z_hasWidth, .int z_width, .int z_first, .int z_moved, .int z_deepest, .int z_x_5, .int z_y_5, .int (nI t), .ref m_stack, .ref m_places, .int (nI d), .ref m_kinds, .ref m_ats, .ref m_ends])), (m_stack, .inl (cI, 48, .inl g_stack)), (m_mark, .inl (cI, 28000, .inl g_mark_5))] := hD
                refine lv_aload_n hx hb d_Mo_linesCurve_92 rfl (lv_at hl 0 rfl) ?_
                have hC : Cut [(mo, .inr (8, [.int z_fault, .int z_size, .ref m_row, .ref m_shelves, .ref m_many, .ref m_widths, .int (nI mk_5), .ref m_mark, .int z_shown, .ref m_shownMark, .int z_wasRun, .int z_wrong_5, .int z_ended, .int (nI sp), .int z_hints, .int z_hasWidth, .int z_width, .int z_first, .int z_moved, .int z_deepest, .int z_x_5, .int z_y_5, .int (nI t), .ref m_stack, .ref m_places, .int (nI d), .ref m_kinds, .ref m_ats, .ref m_ends])), (m_stack, .inl (cI, 48, .inl g_stack)), (m_mark, .inl (cI, 28000, .inl g_mark_5))] [(mo, .inr (8, [.int z_fault, .int z_size, .ref m_row, .ref m_shelves, .ref m_many, .ref m_widths, .int (nI mk_5), .ref m_mark, .int z_shown, .ref m_shownMark, .int z_wasRun, .int z_wrong_5, .int z_ended, .int (nI sp), .int z_hints, .int z_hasWidth, .int z_width, .int z_first, .int z_moved, .int z_deepest, .int z_x_5, .int z_y_5, .int (nI t), .ref m_stack, .ref m_places, .int (nI d), .ref m_kinds, .ref m_ats, .ref m_ends]))] [(m_stack, .inl (cI, 48, .inl g_stack)), (m_mark, .inl (cI, 28000, .inl g_mark_5))] [0] [1, 2] := ⟨rfl, rfl, rfl, rfl, by decide⟩
                refine goV0 (trV (As := []) (rest := []) ⟨hx, hb, hml, hown, hts⟩ gd_good (c_Mo_take_V l D cB cI cJ mo m_row m_shelves m_many m_widths m_mark m_shownMark m_stack m_places m_kinds m_ats m_ends mk_5 sp t d z_fault z_size z_shown z_wasRun z_wrong_5 z_ended z_hints z_hasWidth z_width z_first z_moved z_deepest z_x_5 z_y_5 (by omega) ) cal_Mo_take_V ml_Mo_155 ⟨Nat.le_of_ble_eq_true rfl, Nat.le_of_ble_eq_true rfl⟩ hZ hP hD hC 0 (ci := 8) rfl rfl rfl rfl hl.1 rfl (Nat.le_of_ble_eq_true rfl) d_Mo_linesCurve_93 ⟨Nat.le_of_ble_eq_true rfl, Nat.le_of_ble_eq_true rfl⟩) hZ hP hD hS hC (fun w1 H locs hq hP hD hS => ?_)
                obtain ⟨t_6, rfl, hv_6⟩ := hq
                have hP : va_P D classes [(m_stack, .inl (cI, 48, .inl g_stack)), (m_mark, .inl (cI, 28000, .inl g_mark_5)), (mo, .inr (8, [.int z_fault, .int z_size, .ref m_row, .ref m_shelves, .ref m_many, .ref m_widths, .int (nI mk_5), .ref m_mark, .int z_shown, .ref m_shownMark, .int z_wasRun, .int z_wrong_5, .int z_ended, .int (nI sp), .int z_hints, .int z_hasWidth, .int z_width, .int z_first, .int z_moved, .int z_deepest, .int z_x_5, .int z_y_5, .int (nI t_6), .ref m_stack, .ref m_places, .int (nI d), .ref m_kinds, .ref m_ats, .ref m_ends]))] H := hP
                have hD : va_D A_ [(m_stack, .inl (cI, 48, .inl g_stack)), (m_mark, .inl (cI, 28000, .inl g_mark_5)), (mo, .inr (8, [.int z_fault, .int z_size, .ref m_row, .ref m_shelves, .ref m_many, .ref m_widths, .int (nI mk_5), .ref m_mark, .int z_shown, .ref m_shownMark, .int z_wasRun, .int z_wrong_5, .int z_ended, .int (nI sp), .int z_hints, .int z_hasWidth, .int z_width, .int z_first, .int z_moved, .int z_deepest, .int z_x_5, .int z_y_5, .int (nI t_6), .ref m_stack, .ref m_places, .int (nI d), .ref m_kinds, .ref m_ats, .ref m_ends]))] := hD
                exact t_vret hx hb hr hlk d_Mo_linesCurve_96 (hP.subm (ws' := [(mo, .inr (8, [.int z_fault, .int z_size, .ref m_row, .ref m_shelves, .ref m_many, .ref m_widths, .int (nI mk_5), .ref m_mark, .int z_shown, .ref m_shownMark, .int z_wasRun, .int z_wrong_5, .int z_ended, .int (nI sp), .int z_hints, .int z_hasWidth, .int z_width, .int z_first, .int z_moved, .int z_deepest, .int z_x_5, .int z_y_5, .int (nI t_6), .ref m_stack, .ref m_places, .int (nI d), .ref m_kinds, .ref m_ats, .ref m_ends])), (m_stack, .inl (cI, 48, .inl g_stack)), (m_mark, .inl (cI, 28000, .inl g_mark_5))]) [2, 0, 1] rfl) (hD.sub (ws' := [(mo, .inr (8, [.int z_fault, .int z_size, .ref m_row, .ref m_shelves, .ref m_many, .ref m_widths, .int (nI mk_5), .ref m_mark, .int z_shown, .ref m_shownMark, .int z_wasRun, .int z_wrong_5, .int z_ended, .int (nI sp), .int z_hints, .int z_hasWidth, .int z_width, .int z_first, .int z_moved, .int z_deepest, .int z_x_5, .int z_y_5, .int (nI t_6), .ref m_stack, .ref m_places, .int (nI d), .ref m_kinds, .ref m_ats, .ref m_ends])), (m_stack, .inl (cI, 48, .inl g_stack)), (m_mark, .inl (cI, 28000, .inl g_mark_5))]) [2, 0, 1] rfl rfl) hS ⟨rfl, rfl, rfl, _, _, _, mk_5, t_6, _, rfl, (by omega)⟩
            · have n_40 : ¬ (t) ≤ (i + 6) := fun z => c_40 ((nI_leI (a := t) (b := i + 6) (by omega) (by omega)).mpr z)
              refine lv_aload_n hx hb d_Mo_linesCurve_43 rfl (lv_at hl 0 rfl) ?_
              refine va_get (D := D) (ci := 8) (v := .int wL) (C := R_Mo) (T := F_Mo) (N := 29) hx hb hts i_Mo hown hZ.1 hP 0 rfl rfl 11 (by decide) (hts _ fl_Mo_75) (fun _ h9 => h9) rfl d_Mo_linesCurve_44 ?_
              refine lv_if_ne (tgt := 74) hx hb d_Mo_linesCurve_47 (by decide) (fun c_47 => ?_) (fun c_47 => ?_)
              · refine lv_aload_n hx hb d_Mo_linesCurve_74 rfl (lv_at hl 0 rfl) ?_
                refine va_get (D := D) (ci := 8) (v := .int wL) (C := R_Mo) (T := F_Mo) (N := 29) hx hb hts i_Mo hown hZ.1 hP 0 rfl rfl 11 (by decide) (hts _ fl_Mo_75) (fun _ h9 => h9) rfl d_Mo_linesCurve_75 ?_
                refine lv_if_ne (tgt := 92) hx hb d_Mo_linesCurve_78 (by decide) (fun c_78 => ?_) (fun c_78 => ?_)
                · refine lv_aload_n hx hb d_Mo_linesCurve_92 rfl (lv_at hl 0 rfl) ?_
                  have hC : Cut [(mo, .inr (8, [.int z_fault, .int z_size, .ref m_row, .ref m_shelves, .ref m_many, .ref m_widths, .int (nI mL), .ref m_mark, .int z_shown, .ref m_shownMark, .int z_wasRun, .int wL, .int z_ended, .int (nI sp), .int z_hints, .int z_hasWidth, .int z_width, .int z_first, .int z_moved, .int z_deepest, .int xL, .int yL, .int (nI t), .ref m_stack, .ref m_places, .int (nI d), .ref m_kinds, .ref m_ats, .ref m_ends])), (m_stack, .inl (cI, 48, .inl g_stack)), (m_mark, .inl (cI, 28000, .inl gm))] [(mo, .inr (8, [.int z_fault, .int z_size, .ref m_row, .ref m_shelves, .ref m_many, .ref m_widths, .int (nI mL), .ref m_mark, .int z_shown, .ref m_shownMark, .int z_wasRun, .int wL, .int z_ended, .int (nI sp), .int z_hints, .int z_hasWidth, .int z_width, .int z_first, .int z_moved, .int z_deepest, .int xL, .int yL, .int (nI t), .ref m_stack, .ref m_places, .int (nI d), .ref m_kinds, .ref m_ats, .ref m_ends]))] [(m_stack, .inl (cI, 48, .inl g_stack)), (m_mark, .inl (cI, 28000, .inl gm))] [0] [1, 2] := ⟨rfl, rfl, rfl, rfl, by decide⟩
                  refine goV0 (trV (As := []) (rest := []) ⟨hx, hb, hml, hown, hts⟩ gd_good (c_Mo_take_V l D cB cI cJ mo m_row m_shelves m_many m_widths m_mark m_shownMark m_stack m_places m_kinds m_ats m_ends mL sp t d z_fault z_size z_shown z_wasRun wL z_ended z_hints z_hasWidth z_width z_first z_moved z_deepest xL yL (by omega) ) cal_Mo_take_V ml_Mo_155 ⟨Nat.le_of_ble_eq_true rfl, Nat.le_of_ble_eq_true rfl⟩ hZ hP hD hC 0 (ci := 8) rfl rfl rfl rfl hl.1 rfl (Nat.le_of_ble_eq_true rfl) d_Mo_linesCurve_93 ⟨Nat.le_of_ble_eq_true rfl, Nat.le_of_ble_eq_true rfl⟩) hZ hP hD hS hC (fun w1 H locs hq hP hD hS => ?_)
                  obtain ⟨t_7, rfl, hv_7⟩ := hq
                  have hP : va_P D classes [(m_stack, .inl (cI, 48, .inl g_stack)), (m_mark, .inl (cI, 28000, .inl gm)), (mo, .inr (8, [.int z_fault, .int z_size, .ref m_row, .ref m_shelves, .ref m_many, .ref m_widths, .int (nI mL), .ref m_mark, .int z_shown, .ref m_shownMark, .int z_wasRun, .int wL, .int z_ended, .int (nI sp), .int z_hints, .int z_hasWidth, .int z_width, .int z_first, .int z_moved, .int z_deepest, .int xL, .int yL, .int (nI t_7), .ref m_stack, .ref m_places, .int (nI d), .ref m_kinds, .ref m_ats, .ref m_ends]))] H := hP
                  have hD : va_D A_ [(m_stack, .inl (cI, 48, .inl g_stack)), (m_mark, .inl (cI, 28000, .inl gm)), (mo, .inr (8, [.int z_fault, .int z_size, .ref m_row, .ref m_shelves, .ref m_many, .ref m_widths, .int (nI mL), .ref m_mark, .int z_shown, .ref m_shownMark, .int z_wasRun, .int wL, .int z_ended, .int (nI sp), .int z_hints, .int z_hasWidth, .int z_width, .int z_first, .int z_moved, .int z_deepest, .int xL, .int yL, .int (nI t_7), .ref m_stack, .ref m_places, .int (nI d), .ref m_kinds, .ref m_ats, .ref m_ends]))] := hD
                  exact t_vret hx hb hr hlk d_Mo_linesCurve_96 (hP.subm (ws' := [(mo, .inr (8, [.int z_fault, .int z_size, .ref m_row, .ref m_shelves, .ref m_many, .ref m_widths, .int (nI mL), .ref m_mark, .int z_shown, .ref m_shownMark, .int z_wasRun, .int wL, .int z_ended, .int (nI sp), .int z_hints, .int z_hasWidth, .int z_width, .int z_first, .int z_moved, .int z_deepest, .int xL, .int yL, .int (nI t_7), .ref m_stack, .ref m_places, .int (nI d), .ref m_kinds, .ref m_ats, .ref m_ends])), (m_stack, .inl (cI, 48, .inl g_stack)), (m_mark, .inl (cI, 28000, .inl gm))]) [2, 0, 1] rfl) (hD.sub (ws' := [(mo, .inr (8, [.int z_fault, .int z_size, .ref m_row, .ref m_shelves, .ref m_many, .ref m_widths, .int (nI mL), .ref m_mark, .int z_shown, .ref m_shownMark, .int z_wasRun, .int wL, .int z_ended, .int (nI sp), .int z_hints, .int z_hasWidth, .int z_width, .int z_first, .int z_moved, .int z_deepest, .int xL, .int yL, .int (nI t_7), .ref m_stack, .ref m_places, .int (nI d), .ref m_kinds, .ref m_ats, .ref m_ends])), (m_stack, .inl (cI, 48, .inl g_stack)), (m_mark, .inl (cI, 28000, .inl gm))]) [2, 0, 1] rfl rfl) hS ⟨rfl, rfl, rfl, _, _, _, mL, t_7, _, rfl, (by omega)⟩
                · refine lv_aload_n hx hb d_Mo_linesCurve_81 rfl (lv_at hl 0 rfl) ?_
                  refine lv_aload_n hx hb d_Mo_linesCurve_82 rfl (lv_at hl 0 rfl) ?_
                  refine va_get (D := D) (ci := 8) (v := .int (nI t)) (C := R_Mo) (T := F_Mo) (N := 29) hx hb hts i_Mo hown hZ.1 hP 0 rfl rfl 22 (by decide) (hts _ fl_Mo_82) (fun _ h9 => h9) rfl d_Mo_linesCurve_83 ?_
                  refine lv_bipush (v := 6) hx hb d_Mo_linesCurve_86 (by decide) ?_
                  refine lv_isub hx hb d_Mo_linesCurve_88 ?_
                  refine lv_tv (y := nI (t - 6)) (pk_sub (a := t) (b := 6) (by omega)) ?_
                  have hC : Cut [(mo, .inr (8, [.int z_fault, .int z_size, .ref m_row, .ref m_shelves, .ref m_many, .ref m_widths, .int (nI mL), .ref m_mark, .int z_shown, .ref m_shownMark, .int z_wasRun, .int wL, .int z_ended, .int (nI sp), .int z_hints, .int z_hasWidth, .int z_width, .int z_first, .int z_moved, .int z_deepest, .int xL, .int yL, .int (nI t), .ref m_stack, .ref m_places, .int (nI d), .ref m_kinds, .ref m_ats, .ref m_ends])), (m_stack, .inl (cI, 48, .inl g_stack)), (m_mark, .inl (cI, 28000, .inl gm))] [(mo, .inr (8, [.int z_fault, .int z_size, .ref m_row, .ref m_shelves, .ref m_many, .ref m_widths, .int (nI mL), .ref m_mark, .int z_shown, .ref m_shownMark, .int z_wasRun, .int wL, .int z_ended, .int (nI sp), .int z_hints, .int z_hasWidth, .int z_width, .int z_first, .int z_moved, .int z_deepest, .int xL, .int yL, .int (nI t), .ref m_stack, .ref m_places, .int (nI d), .ref m_kinds, .ref m_ats, .ref m_ends])), (m_stack, .inl (cI, 48, .inl g_stack)), (m_mark, .inl (cI, 28000, .inl gm))] [] [0, 1, 2] [] := ⟨rfl, rfl, rfl, rfl, by decide⟩
                  refine goV0 (trV (As := [.int (nI (t - 6))]) (rest := []) ⟨hx, hb, hml, hown, hts⟩ gd_good (c_Mo_six l D cB cI cJ mo m_row m_shelves m_many m_widths m_mark m_shownMark m_stack m_places m_kinds m_ats m_ends mL sp t d z_fault z_size z_shown z_wasRun wL z_ended z_hints z_hasWidth z_width z_first z_moved z_deepest xL yL g_stack gm (t - 6) (by omega) (by omega)) cal_Mo_six ml_Mo_169 ⟨Nat.le_of_ble_eq_true rfl, Nat.le_of_ble_eq_true rfl⟩ hZ hP hD hC 0 (ci := 8) rfl rfl rfl rfl hl.1 rfl (Nat.le_of_ble_eq_true rfl) d_Mo_linesCurve_89 ⟨Nat.le_of_ble_eq_true rfl, Nat.le_of_ble_eq_true rfl⟩) hZ hP hD hS hC (fun w1 H locs hq hP hD hS => ?_)
                  obtain ⟨z_x_8, z_y_8, z_wrong_8, mk_8, g_mark_8, rfl, hv_8⟩ := hq
                  have hP : va_P D classes [(mo, .inr (8, [.int z_fault, .int z_size, .ref m_row, .ref m_shelves, .ref m_many, .ref m_widths, .int (nI mk_8), .ref m_mark, .int z_shown, .ref m_shownMark, .int z_wasRun, .int z_wrong_8, .int z_ended, .int (nI sp), .int z_hints, .int z_hasWidth, .int z_width, .int z_first, .int z_moved, .int z_deepest, .int z_x_8, .int z_y_8, .int (nI t), .ref m_stack, .ref m_places, .int (nI d), .ref m_kinds, .ref m_ats, .ref m_ends])), (m_stack, .inl (cI, 48, .inl g_stack)), (m_mark, .inl (cI, 28000, .inl g_mark_8))] H := hP
                  have hD : va_D A_ [(mo, .inr (8, [.int z_fault, .int z_size, .ref m_row, .ref m_shelves, .ref m_many, .ref m_widths, .int (nI mk_8), .ref m_mark, .int z_shown, .ref m_shownMark, .int z_wasRun, .int z_wrong_8, .int z_ended, .int (nI sp), .int z_hints, .int z_hasWidth, .int z_width, .int z_first, .int z_moved, .int z_deepest, .int z_x_8, .int z_y_8, .int (nI t), .ref m_stack, .ref m_places, .int (nI d), .ref m_kinds, .ref m_ats, .ref m_ends])), (m_stack, .inl (cI, 48, .inl g_stack)), (m_mark, .inl (cI, 28000, .inl g_mark_8))] := hD
                  refine lv_aload_n hx hb d_Mo_linesCurve_92 rfl (lv_at hl 0 rfl) ?_
                  have hC : Cut [(mo, .inr (8, [.int z_fault, .int z_size, .ref m_row, .ref m_shelves, .ref m_many, .ref m_widths, .int (nI mk_8), .ref m_mark, .int z_shown, .ref m_shownMark, .int z_wasRun, .int z_wrong_8, .int z_ended, .int (nI sp), .int z_hints, .int z_hasWidth, .int z_width, .int z_first, .int z_moved, .int z_deepest, .int z_x_8, .int z_y_8, .int (nI t), .ref m_stack, .ref m_places, .int (nI d), .ref m_kinds, .ref m_ats, .ref m_ends])), (m_stack, .inl (cI, 48, .inl g_stack)), (m_mark, .inl (cI, 28000, .inl g_mark_8))] [(mo, .inr (8, [.int z_fault, .int z_size, .ref m_row, .ref m_shelves, .ref m_many, .ref m_widths, .int (nI mk_8), .ref m_mark, .int z_shown, .ref m_shownMark, .int z_wasRun, .int z_wrong_8, .int z_ended, .int (nI sp), .int z_hints, .int z_hasWidth, .int z_width, .int z_first, .int z_moved, .int z_deepest, .int z_x_8, .int z_y_8, .int (nI t), .ref m_stack, .ref m_places, .int (nI d), .ref m_kinds, .ref m_ats, .ref m_ends]))] [(m_stack, .inl (cI, 48, .inl g_stack)), (m_mark, .inl (cI, 28000, .inl g_mark_8))] [0] [1, 2] := ⟨rfl, rfl, rfl, rfl, by decide⟩
                  refine goV0 (trV (As := []) (rest := []) ⟨hx, hb, hml, hown, hts⟩ gd_good (c_Mo_take_V l D cB cI cJ mo m_row m_shelves m_many m_widths m_mark m_shownMark m_stack m_places m_kinds m_ats m_ends mk_8 sp t d z_fault z_size z_shown z_wasRun z_wrong_8 z_ended z_hints z_hasWidth z_width z_first z_moved z_deepest z_x_8 z_y_8 (by omega) ) cal_Mo_take_V ml_Mo_155 ⟨Nat.le_of_ble_eq_true rfl, Nat.le_of_ble_eq_true rfl⟩ hZ hP hD hC 0 (ci := 8) rfl rfl rfl rfl hl.1 rfl (Nat.le_of_ble_eq_true rfl) d_Mo_linesCurve_93 ⟨Nat.le_of_ble_eq_true rfl, Nat.le_of_ble_eq_true rfl⟩) hZ hP hD hS hC (fun w1 H locs hq hP hD hS => ?_)
                  obtain ⟨t_9, rfl, hv_9⟩ := hq
                  have hP : va_P D classes [(m_stack, .inl (cI, 48, .inl g_stack)), (m_mark, .inl (cI, 28000, .inl g_mark_8)), (mo, .inr (8, [.int z_fault, .int z_size, .ref m_row, .ref m_shelves, .ref m_many, .ref m_widths, .int (nI mk_8), .ref m_mark, .int z_shown, .ref m_shownMark, .int z_wasRun, .int z_wrong_8, .int z_ended, .int (nI sp), .int z_hints, .int z_hasWidth, .int z_width, .int z_first, .int z_moved, .int z_deepest, .int z_x_8, .int z_y_8, .int (nI t_9), .ref m_stack, .ref m_places, .int (nI d), .ref m_kinds, .ref m_ats, .ref m_ends]))] H := hP
                  have hD : va_D A_ [(m_stack, .inl (cI, 48, .inl g_stack)), (m_mark, .inl (cI, 28000, .inl g_mark_8)), (mo, .inr (8, [.int z_fault, .int z_size, .ref m_row, .ref m_shelves, .ref m_many, .ref m_widths, .int (nI mk_8), .ref m_mark, .int z_shown, .ref m_shownMark, .int z_wasRun, .int z_wrong_8, .int z_ended, .int (nI sp), .int z_hints, .int z_hasWidth, .int z_width, .int z_first, .int z_moved, .int z_deepest, .int z_x_8, .int z_y_8, .int (nI t_9), .ref m_stack, .ref m_places, .int (nI d), .ref m_kinds, .ref m_ats, .ref m_ends]))] := hD
                  exact t_vret hx hb hr hlk d_Mo_linesCurve_96 (hP.subm (ws' := [(mo, .inr (8, [.int z_fault, .int z_size, .ref m_row, .ref m_shelves, .ref m_many, .ref m_widths, .int (nI mk_8), .ref m_mark, .int z_shown, .ref m_shownMark, .int z_wasRun, .int z_wrong_8, .int z_ended, .int (nI sp), .int z_hints, .int z_hasWidth, .int z_width, .int z_first, .int z_moved, .int z_deepest, .int z_x_8, .int z_y_8, .int (nI t_9), .ref m_stack, .ref m_places, .int (nI d), .ref m_kinds, .ref m_ats, .ref m_ends])), (m_stack, .inl (cI, 48, .inl g_stack)), (m_mark, .inl (cI, 28000, .inl g_mark_8))]) [2, 0, 1] rfl) (hD.sub (ws' := [(mo, .inr (8, [.int z_fault, .int z_size, .ref m_row, .ref m_shelves, .ref m_many, .ref m_widths, .int (nI mk_8), .ref m_mark, .int z_shown, .ref m_shownMark, .int z_wasRun, .int z_wrong_8, .int z_ended, .int (nI sp), .int z_hints, .int z_hasWidth, .int z_width, .int z_first, .int z_moved, .int z_deepest, .int z_x_8, .int z_y_8, .int (nI t_9), .ref m_stack, .ref m_places, .int (nI d), .ref m_kinds, .ref m_ats, .ref m_ends])), (m_stack, .inl (cI, 48, .inl g_stack)), (m_mark, .inl (cI, 28000, .inl g_mark_8))]) [2, 0, 1] rfl rfl) hS ⟨rfl, rfl, rfl, _, _, _, mk_8, t_9, _, rfl, (by omega)⟩
              · refine lv_aload_n hx hb d_Mo_linesCurve_50 rfl (lv_at hl 0 rfl) ?_
                refine lv_aload_n hx hb d_Mo_linesCurve_51 rfl (lv_at hl 0 rfl) ?_
                refine va_get (D := D) (ci := 8) (v := .ref m_stack) (C := R_Mo) (T := F_Mo) (N := 29) hx hb hts i_Mo hown hZ.1 hP 0 rfl rfl 23 (by decide) (hts _ fl_Mo_29) (fun _ h9 => h9) rfl d_Mo_linesCurve_52 ?_
                refine lv_iload_n hx hb d_Mo_linesCurve_55 rfl (lv_at hl 1 rfl) ?_
                refine va_iald hx hb hZ.1 hP 1 1 rfl rfl (vp_in_nI (by omega) (by omega)) d_Mo_linesCurve_56 ?_
                refine lv_tv (y := g_stack i) (by rw [nI_clamp (by omega)]) ?_
                refine lv_aload_n hx hb d_Mo_linesCurve_57 rfl (lv_at hl 0 rfl) ?_
                refine va_get (D := D) (ci := 8) (v := .ref m_stack) (C := R_Mo) (T := F_Mo) (N := 29) hx hb hts i_Mo hown hZ.1 hP 0 rfl rfl 23 (by decide) (hts _ fl_Mo_29) (fun _ h9 => h9) rfl d_Mo_linesCurve_58 ?_
                refine lv_iload_n hx hb d_Mo_linesCurve_61 rfl (lv_at hl 1 rfl) ?_
                refine lv_iconst (v := 1) hx hb d_Mo_linesCurve_62 (by decide) ?_
                refine lv_iadd hx hb d_Mo_linesCurve_63 ?_
                refine lv_tv (y := nI (i + 1)) (nI_add i 1) ?_
                refine va_iald hx hb hZ.1 hP 1 1 rfl rfl (vp_in_nI (by omega) (by omega)) d_Mo_linesCurve_64 ?_
                refine lv_tv (y := g_stack (i + 1)) (by rw [nI_clamp (by omega)]) ?_
                have hC : Cut [(mo, .inr (8, [.int z_fault, .int z_size, .ref m_row, .ref m_shelves, .ref m_many, .ref m_widths, .int (nI mL), .ref m_mark, .int z_shown, .ref m_shownMark, .int z_wasRun, .int wL, .int z_ended, .int (nI sp), .int z_hints, .int z_hasWidth, .int z_width, .int z_first, .int z_moved, .int z_deepest, .int xL, .int yL, .int (nI t), .ref m_stack, .ref m_places, .int (nI d), .ref m_kinds, .ref m_ats, .ref m_ends])), (m_stack, .inl (cI, 48, .inl g_stack)), (m_mark, .inl (cI, 28000, .inl gm))] [(mo, .inr (8, [.int z_fault, .int z_size, .ref m_row, .ref m_shelves, .ref m_many, .ref m_widths, .int (nI mL), .ref m_mark, .int z_shown, .ref m_shownMark, .int z_wasRun, .int wL, .int z_ended, .int (nI sp), .int z_hints, .int z_hasWidth, .int z_width, .int z_first, .int z_moved, .int z_deepest, .int xL, .int yL, .int (nI t), .ref m_stack, .ref m_places, .int (nI d), .ref m_kinds, .ref m_ats, .ref m_ends])), (m_mark, .inl (cI, 28000, .inl gm))] [(m_stack, .inl (cI, 48, .inl g_stack))] [0, 2] [1] := ⟨rfl, rfl, rfl, rfl, by decide⟩
                refine goV0 (trV (As := [.int (g_stack i), .int (g_stack (i + 1))]) (rest := []) ⟨hx, hb, hml, hown, hts⟩ gd_good (c_Mo_line l D cB cI cJ mo m_row m_shelves m_many m_widths m_mark m_shownMark m_stack m_places m_kinds m_ats m_ends mL sp t d z_fault z_size z_shown z_wasRun wL z_ended z_hints z_hasWidth z_width z_first z_moved z_deepest xL yL gm (g_stack i) (g_stack (i + 1)) (by omega) ) cal_Mo_line ml_Mo_166 ⟨Nat.le_of_ble_eq_true rfl, Nat.le_of_ble_eq_true rfl⟩ hZ hP hD hC 0 (ci := 8) rfl rfl rfl rfl hl.1 rfl (Nat.le_of_ble_eq_true rfl) d_Mo_linesCurve_65 ⟨Nat.le_of_ble_eq_true rfl, Nat.le_of_ble_eq_true rfl⟩) hZ hP hD hS hC (fun w1 H locs hq hP hD hS => ?_)
                obtain ⟨z_x_10, z_y_10, z_wrong_10, mk_10, g_mark_10, rfl, hv_10⟩ := hq
                have hP : va_P D classes [(m_stack, .inl (cI, 48, .inl g_stack)), (mo, .inr (8, [.int z_fault, .int z_size, .ref m_row, .ref m_shelves, .ref m_many, .ref m_widths, .int (nI mk_10), .ref m_mark, .int z_shown, .ref m_shownMark, .int z_wasRun, .int z_wrong_10, .int z_ended, .int (nI sp), .int z_hints, .int z_hasWidth, .int z_width, .int z_first, .int z_moved, .int z_deepest, .int z_x_10, .int z_y_10, .int (nI t), .ref m_stack, .ref m_places, .int (nI d), .ref m_kinds, .ref m_ats, .ref m_ends])), (m_mark, .inl (cI, 28000, .inl g_mark_10))] H := hP
                have hD : va_D A_ [(m_stack, .inl (cI, 48, .inl g_stack)), (mo, .inr (8, [.int z_fault, .int z_size, .ref m_row, .ref m_shelves, .ref m_many, .ref m_widths, .int (nI mk_10), .ref m_mark, .int z_shown, .ref m_shownMark, .int z_wasRun, .int z_wrong_10, .int z_ended, .int (nI sp), .int z_hints, .int z_hasWidth, .int z_width, .int z_first, .int z_moved, .int z_deepest, .int z_x_10, .int z_y_10, .int (nI t), .ref m_stack, .ref m_places, .int (nI d), .ref m_kinds, .ref m_ats, .ref m_ends])), (m_mark, .inl (cI, 28000, .inl g_mark_10))] := hD
                refine lv_iinc (v := nI (i + 2)) (lv' := [(1, .int (nI (i + 2))), (0, .ref mo)]) hx hb d_Mo_linesCurve_68 hl (k := 1) rfl (nI_add i 2) (by decide) rfl (fun ls hl => ?_)
                refine lv_goto (tgt := 32) hx hb d_Mo_linesCurve_71 (by decide) ?_
                exact ih_32  (i + 2) z_x_10 z_y_10 z_wrong_10 mk_10 g_mark_10 _ _ _ ⟨by omega, by omega, by omega⟩ (by omega) (hP.subm [1, 0, 2] rfl) (hD.sub [1, 0, 2] rfl rfl) hS (lv_sub hl [1, 0] rfl)
        exact lp_32 _ 0 z_x z_y z_wrong_3 mk g_mark _ _ _ ⟨by omega, by omega, by omega⟩ (Nat.lt_succ_self _) (hP.subm [2, 0, 1] rfl) (hD.sub [2, 0, 1] rfl rfl) hS (lv_sub hl [1, 0] rfl)
set_option maxHeartbeats 1000000 in
set_option maxRecDepth 100000 in
theorem c_Mo_two (l : Launch) (D : va_G) (cB cI cJ : ClassId) (mo m_row m_shelves m_many m_widths m_mark m_shownMark m_stack m_places m_kinds m_ats m_ends : Nat) (mk sp t d : Nat) (z_fault z_size z_shown z_wasRun z_wrong z_ended z_hints z_hasWidth z_width z_first z_moved z_deepest z_x z_y : Int32) (g_mark : Nat → Int32) (t1 : Int32) (t2 : Int32) (t3 : Int32) (t4 : Int32) (t5 : Int32) (t6 : Int32) (hiv : t ≤ 48 ∧ d ≤ 10 ∧ mk ≤ 4000 ∧ sp ≤ 20000) : Tr l D classes (TY cB cI cJ) gd_tbl nx_tbl y_Mo_two b_Mo_two 7 none ({ frames := 3, cells := 0, slots := 0, locals := 77 }) [.ref mo, .int t1, .int t2, .int t3, .int t4, .int t5, .int t6] [(mo, .inr (8, [.int z_fault, .int z_size, .ref m_row, .ref m_shelves, .ref m_many, .ref m_widths, .int (nI mk), .ref m_mark, .int z_shown, .ref m_shownMark, .int z_wasRun, .int z_wrong, .int z_ended, .int (nI sp), .int z_hints, .int z_hasWidth, .int z_width, .int z_first, .int z_moved, .int z_deepest, .int z_x, .int z_y, .int (nI t), .ref m_stack, .ref m_places, .int (nI d), .ref m_kinds, .ref m_ats, .ref m_ends])), (m_mark, .inl (cI, 28000, .inl g_mark))] (pV0 (fun w => ∃ (z_x' : Int32) (z_y' : Int32) (z_wrong' : Int32) (mk' : Nat) (t' : Nat) (g_mark' : Nat → Int32), w = [(mo, .inr (8, [.int z_fault, .int z_size, .ref m_row, .ref m_shelves, .ref m_many, .ref m_widths, .int (nI mk'), .ref m_mark, .int z_shown, .ref m_shownMark, .int z_wasRun, .int z_wrong', .int z_ended, .int (nI sp), .int z_hints, .int z_hasWidth, .int z_width, .int z_first, .int z_moved, .int z_deepest, .int z_x', .int z_y', .int (nI t'), .ref m_stack, .ref m_places, .int (nI d), .ref m_kinds, .ref m_ats, .ref m_ends])), (m_mark, .inl (cI, 28000, .inl g_mark'))] ∧ (t' ≤ 48 ∧ d ≤ 10 ∧ mk' ≤ 4000 ∧ sp ≤ 20000))) := by
  refine Tr.intro (by decide +kernel) nx_ok (Nat.le_of_ble_eq_true rfl) ?_
  intro p_ e_ s_ m_ args_ below_ meth_ c_ A_ ls hx hb hml hown hts hr hlk hnm hZ hP hD hS hl
  have hl : lv_has ls 7 [(0, .ref mo), (1, .int t1), (2, .int t2), (3, .int t3), (4, .int t4), (5, .int t5), (6, .int t6)] := hl
  refine lv_aload_n hx hb d_Mo_two_0 rfl (lv_at hl 0 rfl) ?_
  refine va_get (D := D) (ci := 8) (v := .int z_wrong) (C := R_Mo) (T := F_Mo) (N := 29) hx hb hts i_Mo hown hZ.1 hP 0 rfl rfl 11 (by decide) (hts _ fl_Mo_75) (fun _ h9 => h9) rfl d_Mo_two_1 ?_
  refine lv_if_ne (tgt := 20) hx hb d_Mo_two_4 (by decide) (fun c_4 => ?_) (fun c_4 => ?_)
  · refine lv_aload_n hx hb d_Mo_two_20 rfl (lv_at hl 0 rfl) ?_
    have hC : Cut [(mo, .inr (8, [.int z_fault, .int z_size, .ref m_row, .ref m_shelves, .ref m_many, .ref m_widths, .int (nI mk), .ref m_mark, .int z_shown, .ref m_shownMark, .int z_wasRun, .int z_wrong, .int z_ended, .int (nI sp), .int z_hints, .int z_hasWidth, .int z_width, .int z_first, .int z_moved, .int z_deepest, .int z_x, .int z_y, .int (nI t), .ref m_stack, .ref m_places, .int (nI d), .ref m_kinds, .ref m_ats, .ref m_ends])), (m_mark, .inl (cI, 28000, .inl g_mark))] [(mo, .inr (8, [.int z_fault, .int z_size, .ref m_row, .ref m_shelves, .ref m_many, .ref m_widths, .int (nI mk), .ref m_mark, .int z_shown, .ref m_shownMark, .int z_wasRun, .int z_wrong, .int z_ended, .int (nI sp), .int z_hints, .int z_hasWidth, .int z_width, .int z_first, .int z_moved, .int z_deepest, .int z_x, .int z_y, .int (nI t), .ref m_stack, .ref m_places, .int (nI d), .ref m_kinds, .ref m_ats, .ref m_ends]))] [(m_mark, .inl (cI, 28000, .inl g_mark))] [0] [1] := ⟨rfl, rfl, rfl, rfl, by decide⟩
    refine goV0 (trV (As := []) (rest := []) ⟨hx, hb, hml, hown, hts⟩ gd_good (c_Mo_take_V l D cB cI cJ mo m_row m_shelves m_many m_widths m_mark m_shownMark m_stack m_places m_kinds m_ats m_ends mk sp t d z_fault z_size z_shown z_wasRun z_wrong z_ended z_hints z_hasWidth z_width z_first z_moved z_deepest z_x z_y (by omega) ) cal_Mo_take_V ml_Mo_155 ⟨Nat.le_of_ble_eq_true rfl, Nat.le_of_ble_eq_true rfl⟩ hZ hP hD hC 0 (ci := 8) rfl rfl rfl rfl hl.1 rfl (Nat.le_of_ble_eq_true rfl) d_Mo_two_21 ⟨Nat.le_of_ble_eq_true rfl, Nat.le_of_ble_eq_true rfl⟩) hZ hP hD hS hC (fun w1 H locs hq hP hD hS => ?_)
    obtain ⟨t_1, rfl, hv_1⟩ := hq
    have hP : va_P D classes [(m_mark, .inl (cI, 28000, .inl g_mark)), (mo, .inr (8, [.int z_fault, .int z_size, .ref m_row, .ref m_shelves, .ref m_many, .ref m_widths, .int (nI mk), .ref m_mark, .int z_shown, .ref m_shownMark, .int z_wasRun, .int z_wrong, .int z_ended, .int (nI sp), .int z_hints, .int z_hasWidth, .int z_width, .int z_first, .int z_moved, .int z_deepest, .int z_x, .int z_y, .int (nI t_1), .ref m_stack, .ref m_places, .int (nI d), .ref m_kinds, .ref m_ats, .ref m_ends]))] H := hP
    have hD : va_D A_ [(m_mark, .inl (cI, 28000, .inl g_mark)), (mo, .inr (8, [.int z_fault, .int z_size, .ref m_row, .ref m_shelves, .ref m_many, .ref m_widths, .int (nI mk), .ref m_mark, .int z_shown, .ref m_shownMark, .int z_wasRun, .int z_wrong, .int z_ended, .int (nI sp), .int z_hints, .int z_hasWidth, .int z_width, .int z_first, .int z_moved, .int z_deepest, .int z_x, .int z_y, .int (nI t_1), .ref m_stack, .ref m_places, .int (nI d), .ref m_kinds, .ref m_ats, .ref m_ends]))] := hD
    exact t_vret hx hb hr hlk d_Mo_two_24 (hP.subm (ws' := [(mo, .inr (8, [.int z_fault, .int z_size, .ref m_row, .ref m_shelves, .ref m_many, .ref m_widths, .int (nI mk), .ref m_mark, .int z_shown, .ref m_shownMark, .int z_wasRun, .int z_wrong, .int z_ended, .int (nI sp), .int z_hints, .int z_hasWidth, .int z_width, .int z_first, .int z_moved, .int z_deepest, .int z_x, .int z_y, .int (nI t_1), .ref m_stack, .ref m_places, .int (nI d), .ref m_kinds, .ref m_ats, .ref m_ends])), (m_mark, .inl (cI, 28000, .inl g_mark))]) [1, 0] rfl) (hD.sub (ws' := [(mo, .inr (8, [.int z_fault, .int z_size, .ref m_row, .ref m_shelves, .ref m_many, .ref m_widths, .int (nI mk), .ref m_mark, .int z_shown, .ref m_shownMark, .int z_wasRun, .int z_wrong, .int z_ended, .int (nI sp), .int z_hints, .int z_hasWidth, .int z_width, .int z_first, .int z_moved, .int z_deepest, .int z_x, .int z_y, .int (nI t_1), .ref m_stack, .ref m_places, .int (nI d), .ref m_kinds, .ref m_ats, .ref m_ends])), (m_mark, .inl (cI, 28000, .inl g_mark))]) [1, 0] rfl rfl) hS ⟨rfl, rfl, rfl, _, _, _, mk, t_1, _, rfl, (by omega)⟩
  · refine lv_aload_n hx hb d_Mo_two_7 rfl (lv_at hl 0 rfl) ?_
    refine lv_iload_n hx hb d_Mo_two_8 rfl (lv_at hl 1 rfl) ?_
    refine lv_iload_n hx hb d_Mo_two_9 rfl (lv_at hl 2 rfl) ?_
    refine lv_iload_n hx hb d_Mo_two_10 rfl (lv_at hl 3 rfl) ?_
    refine lv_iload hx hb d_Mo_two_11 (lv_at hl 4 rfl) ?_
    refine lv_iload hx hb d_Mo_two_13 (lv_at hl 5 rfl) ?_
    refine lv_iload hx hb d_Mo_two_15 (lv_at hl 6 rfl) ?_
    have hC : Cut [(mo, .inr (8, [.int z_fault, .int z_size, .ref m_row, .ref m_shelves, .ref m_many, .ref m_widths, .int (nI mk), .ref m_mark, .int z_shown, .ref m_shownMark, .int z_wasRun, .int z_wrong, .int z_ended, .int (nI sp), .int z_hints, .int z_hasWidth, .int z_width, .int z_first, .int z_moved, .int z_deepest, .int z_x, .int z_y, .int (nI t), .ref m_stack, .ref m_places, .int (nI d), .ref m_kinds, .ref m_ats, .ref m_ends])), (m_mark, .inl (cI, 28000, .inl g_mark))] [(mo, .inr (8, [.int z_fault, .int z_size, .ref m_row, .ref m_shelves, .ref m_many, .ref m_widths, .int (nI mk), .ref m_mark, .int z_shown, .ref m_shownMark, .int z_wasRun, .int z_wrong, .int z_ended, .int (nI sp), .int z_hints, .int z_hasWidth, .int z_width, .int z_first, .int z_moved, .int z_deepest, .int z_x, .int z_y, .int (nI t), .ref m_stack, .ref m_places, .int (nI d), .ref m_kinds, .ref m_ats, .ref m_ends])), (m_mark, .inl (cI, 28000, .inl g_mark))] [] [0, 1] [] := ⟨rfl, rfl, rfl, rfl, by decide⟩
    refine goV0 (trV (As := [.int t1, .int t2, .int t3, .int t4, .int t5, .int t6]) (rest := []) ⟨hx, hb, hml, hown, hts⟩ gd_good (c_Mo_curve l D cB cI cJ mo m_row m_shelves m_many m_widths m_mark m_shownMark m_stack m_places m_kinds m_ats m_ends mk sp t d z_fault z_size z_shown z_wasRun z_wrong z_ended z_hints z_hasWidth z_width z_first z_moved z_deepest z_x z_y g_mark t1 t2 t3 t4 t5 t6 (by omega) ) cal_Mo_curve ml_Mo_158 ⟨Nat.le_of_ble_eq_true rfl, Nat.le_of_ble_eq_true rfl⟩ hZ hP hD hC 0 (ci := 8) rfl rfl rfl rfl hl.1 rfl (Nat.le_of_ble_eq_true rfl) d_Mo_two_17 ⟨Nat.le_of_ble_eq_true rfl, Nat.le_of_ble_eq_true rfl⟩) hZ hP hD hS hC (fun w1 H locs hq hP hD hS => ?_)
    obtain ⟨z_x_2, z_y_2, z_wrong_2, mk_2, g_mark_2, rfl, hv_2⟩ := hq
    have hP : va_P D classes [(mo, .inr (8, [.int z_fault, .int z_size, .ref m_row, .ref m_shelves, .ref m_many, .ref m_widths, .int (nI mk_2), .ref m_mark, .int z_shown, .ref m_shownMark, .int z_wasRun, .int z_wrong_2, .int z_ended, .int (nI sp), .int z_hints, .int z_hasWidth, .int z_width, .int z_first, .int z_moved, .int z_deepest, .int z_x_2, .int z_y_2, .int (nI t), .ref m_stack, .ref m_places, .int (nI d), .ref m_kinds, .ref m_ats, .ref m_ends])), (m_mark, .inl (cI, 28000, .inl g_mark_2))] H := hP
    have hD : va_D A_ [(mo, .inr (8, [.int z_fault, .int z_size, .ref m_row, .ref m_shelves, .ref m_many, .ref m_widths, .int (nI mk_2), .ref m_mark, .int z_shown, .ref m_shownMark, .int z_wasRun, .int z_wrong_2, .int z_ended, .int (nI sp), .int z_hints, .int z_hasWidth, .int z_width, .int z_first, .int z_moved, .int z_deepest, .int z_x_2, .int z_y_2, .int (nI t), .ref m_stack, .ref m_places, .int (nI d), .ref m_kinds, .ref m_ats, .ref m_ends])), (m_mark, .inl (cI, 28000, .inl g_mark_2))] := hD
    refine lv_aload_n hx hb d_Mo_two_20 rfl (lv_at hl 0 rfl) ?_
    have hC : Cut [(mo, .inr (8, [.int z_fault, .int z_size, .ref m_row, .ref m_shelves, .ref m_many, .ref m_widths, .int (nI mk_2), .ref m_mark, .int z_shown, .ref m_shownMark, .int z_wasRun, .int z_wrong_2, .int z_ended, .int (nI sp), .int z_hints, .int z_hasWidth, .int z_width, .int z_first, .int z_moved, .int z_deepest, .int z_x_2, .int z_y_2, .int (nI t), .ref m_stack, .ref m_places, .int (nI d), .ref m_kinds, .ref m_ats, .ref m_ends])), (m_mark, .inl (cI, 28000, .inl g_mark_2))] [(mo, .inr (8, [.int z_fault, .int z_size, .ref m_row, .ref m_shelves, .ref m_many, .ref m_widths, .int (nI mk_2), .ref m_mark, .int z_shown, .ref m_shownMark, .int z_wasRun, .int z_wrong_2, .int z_ended, .int (nI sp), .int z_hints, .int z_hasWidth, .int z_width, .int z_first, .int z_moved, .int z_deepest, .int z_x_2, .int z_y_2, .int (nI t), .ref m_stack, .ref m_places, .int (nI d), .ref m_kinds, .ref m_ats, .ref m_ends]))] [(m_mark, .inl (cI, 28000, .inl g_mark_2))] [0] [1] := ⟨rfl, rfl, rfl, rfl, by decide⟩
    refine goV0 (trV (As := []) (rest := []) ⟨hx, hb, hml, hown, hts⟩ gd_good (c_Mo_take_V l D cB cI cJ mo m_row m_shelves m_many m_widths m_mark m_shownMark m_stack m_places m_kinds m_ats m_ends mk_2 sp t d z_fault z_size z_shown z_wasRun z_wrong_2 z_ended z_hints z_hasWidth z_width z_first z_moved z_deepest z_x_2 z_y_2 (by omega) ) cal_Mo_take_V ml_Mo_155 ⟨Nat.le_of_ble_eq_true rfl, Nat.le_of_ble_eq_true rfl⟩ hZ hP hD hC 0 (ci := 8) rfl rfl rfl rfl hl.1 rfl (Nat.le_of_ble_eq_true rfl) d_Mo_two_21 ⟨Nat.le_of_ble_eq_true rfl, Nat.le_of_ble_eq_true rfl⟩) hZ hP hD hS hC (fun w1 H locs hq hP hD hS => ?_)
    obtain ⟨t_3, rfl, hv_3⟩ := hq
    have hP : va_P D classes [(m_mark, .inl (cI, 28000, .inl g_mark_2)), (mo, .inr (8, [.int z_fault, .int z_size, .ref m_row, .ref m_shelves, .ref m_many, .ref m_widths, .int (nI mk_2), .ref m_mark, .int z_shown, .ref m_shownMark, .int z_wasRun, .int z_wrong_2, .int z_ended, .int (nI sp), .int z_hints, .int z_hasWidth, .int z_width, .int z_first, .int z_moved, .int z_deepest, .int z_x_2, .int z_y_2, .int (nI t_3), .ref m_stack, .ref m_places, .int (nI d), .ref m_kinds, .ref m_ats, .ref m_ends]))] H := hP
    have hD : va_D A_ [(m_mark, .inl (cI, 28000, .inl g_mark_2)), (mo, .inr (8, [.int z_fault, .int z_size, .ref m_row, .ref m_shelves, .ref m_many, .ref m_widths, .int (nI mk_2), .ref m_mark, .int z_shown, .ref m_shownMark, .int z_wasRun, .int z_wrong_2, .int z_ended, .int (nI sp), .int z_hints, .int z_hasWidth, .int z_width, .int z_first, .int z_moved, .int z_deepest, .int z_x_2, .int z_y_2, .int (nI t_3), .ref m_stack, .ref m_places, .int (nI d), .ref m_kinds, .ref m_ats, .ref m_ends]))] := hD
    exact t_vret hx hb hr hlk d_Mo_two_24 (hP.subm (ws' := [(mo, .inr (8, [.int z_fault, .int z_size, .ref m_row, .ref m_shelves, .ref m_many, .ref m_widths, .int (nI mk_2), .ref m_mark, .int z_shown, .ref m_shownMark, .int z_wasRun, .int z_wrong_2, .int z_ended, .int (nI sp), .int z_hints, .int z_hasWidth, .int z_width, .int z_first, .int z_moved, .int z_deepest, .int z_x_2, .int z_y_2, .int (nI t_3), .ref m_stack, .ref m_places, .int (nI d), .ref m_kinds, .ref m_ats, .ref m_ends])), (m_mark, .inl (cI, 28000, .inl g_mark_2))]) [1, 0] rfl) (hD.sub (ws' := [(mo, .inr (8, [.int z_fault, .int z_size, .ref m_row, .ref m_shelves, .ref m_many, .ref m_widths, .int (nI mk_2), .ref m_mark, .int z_shown, .ref m_shownMark, .int z_wasRun, .int z_wrong_2, .int z_ended, .int (nI sp), .int z_hints, .int z_hasWidth, .int z_width, .int z_first, .int z_moved, .int z_deepest, .int z_x_2, .int z_y_2, .int (nI t_3), .ref m_stack, .ref m_places, .int (nI d), .ref m_kinds, .ref m_ats, .ref m_ends])), (m_mark, .inl (cI, 28000, .inl g_mark_2))]) [1, 0] rfl rfl) hS ⟨rfl, rfl, rfl, _, _, _, mk_2, t_3, _, rfl, (by omega)⟩
set_option maxHeartbeats 1000000 in
set_option maxRecDepth 100000 in
theorem c_Mo_sizeOf (l : Launch) (D : va_G) (cB cI cJ : ClassId) (c : Int32) : Ro l D classes (TY cB cI cJ) gd_tbl nx_tbl y_Mo_sizeOf b_Mo_sizeOf 1 (some .long) ({ frames := 0, cells := 0, slots := 0, locals := 0 }) [.int c] [] (fun v => ∃ r : Int64, v = .long r) := by
  refine Ro.intro (by decide +kernel) nx_ok (Nat.le_of_ble_eq_true rfl) ?_
  intro p_ e_ s_ m_ args_ below_ meth_ c_ A_ ls hx hb hml hown hts hr hlk hnm hZ hP hD hl
  have hl : lv_has ls 1 [(0, .int c)] := hl
  refine lv_iload_n hx hb d_Mo_sizeOf_0 rfl (lv_at hl 0 rfl) ?_
  refine lv_if_ge (tgt := 10) hx hb d_Mo_sizeOf_1 (by decide) (fun c_1 => ?_) (fun c_1 => ?_)
  · refine lv_iload_n hx hb d_Mo_sizeOf_10 rfl (lv_at hl 0 rfl) ?_
    refine lv_i2l hx hb d_Mo_sizeOf_11 rfl ?_
    exact r_lret hx hb hr hlk d_Mo_sizeOf_12 ⟨_, rfl⟩
  · refine lv_iload_n hx hb d_Mo_sizeOf_4 rfl (lv_at hl 0 rfl) ?_
    refine lv_i2l hx hb d_Mo_sizeOf_5 rfl ?_
    refine lv_lneg hx hb d_Mo_sizeOf_6 ?_
    refine lv_goto (tgt := 12) hx hb d_Mo_sizeOf_7 (by decide) ?_
    exact r_lret hx hb hr hlk d_Mo_sizeOf_12 ⟨_, rfl⟩
set_option maxHeartbeats 1000000 in
set_option maxRecDepth 100000 in
theorem c_Mo_flex (l : Launch) (D : va_G) (cB cI cJ : ClassId) (mo m_row m_shelves m_many m_widths m_mark m_shownMark m_stack m_places m_kinds m_ats m_ends : Nat) (mk sp t d : Nat) (z_fault z_size z_shown z_wasRun z_wrong z_ended z_hints z_hasWidth z_width z_first z_moved z_deepest z_x z_y : Int32) (g_stack g_mark : Nat → Int32) (c : Int32) (hiv : t ≤ 48 ∧ d ≤ 10 ∧ mk ≤ 4000 ∧ sp ≤ 20000) : Tr l D classes (TY cB cI cJ) gd_tbl nx_tbl y_Mo_flex b_Mo_flex 6 none ({ frames := 4, cells := 0, slots := 0, locals := 103 }) [.ref mo, .int c] [(mo, .inr (8, [.int z_fault, .int z_size, .ref m_row, .ref m_shelves, .ref m_many, .ref m_widths, .int (nI mk), .ref m_mark, .int z_shown, .ref m_shownMark, .int z_wasRun, .int z_wrong, .int z_ended, .int (nI sp), .int z_hints, .int z_hasWidth, .int z_width, .int z_first, .int z_moved, .int z_deepest, .int z_x, .int z_y, .int (nI t), .ref m_stack, .ref m_places, .int (nI d), .ref m_kinds, .ref m_ats, .ref m_ends])), (m_stack, .inl (cI, 48, .inl g_stack)), (m_mark, .inl (cI, 28000, .inl g_mark))] (pV0 (fun w => ∃ (z_x' : Int32) (z_y' : Int32) (z_wrong' : Int32) (mk' : Nat) (t' : Nat) (g_mark' : Nat → Int32), w = [(mo, .inr (8, [.int z_fault, .int z_size, .ref m_row, .ref m_shelves, .ref m_many, .ref m_widths, .int (nI mk'), .ref m_mark, .int z_shown, .ref m_shownMark, .int z_wasRun, .int z_wrong', .int z_ended, .int (nI sp), .int z_hints, .int z_hasWidth, .int z_width, .int z_first, .int z_moved, .int z_deepest, .int z_x', .int z_y', .int (nI t'), .ref m_stack, .ref m_places, .int (nI d), .ref m_kinds, .ref m_ats, .ref m_ends])), (m_stack, .inl (cI, 48, .inl g_stack)), (m_mark, .inl (cI, 28000, .inl g_mark'))] ∧ (t' ≤ 48 ∧ d ≤ 10 ∧ mk' ≤ 4000 ∧ sp ≤ 20000))) := by
  refine Tr.intro (by decide +kernel) nx_ok (Nat.le_of_ble_eq_true rfl) ?_
  intro p_ e_ s_ m_ args_ below_ meth_ c_ A_ ls hx hb hml hown hts hr hlk hnm hZ hP hD hS hl
  have hl : lv_has ls 6 [(0, .ref mo), (1, .int c)] := hl
  refine lv_aload_n hx hb d_Mo_flex_0 rfl (lv_at hl 0 rfl) ?_
  refine va_get (D := D) (ci := 8) (v := .ref m_stack) (C := R_Mo) (T := F_Mo) (N := 29) hx hb hts i_Mo hown hZ.1 hP 0 rfl rfl 23 (by decide) (hts _ fl_Mo_29) (fun _ h9 => h9) rfl d_Mo_flex_1 ?_
  refine lv_astore_n (lv' := [(2, .ref m_stack), (0, .ref mo), (1, .int c)]) hx hb d_Mo_flex_4 rfl hl (by decide) rfl (fun ls hl => ?_)
  refine lv_iload_n hx hb d_Mo_flex_5 rfl (lv_at hl 2 rfl) ?_
  refine lv_bipush (v := 35) hx hb d_Mo_flex_6 (by decide) ?_
  refine lv_icmp_ne (tgt := 68) hx hb d_Mo_flex_8 (by decide) (fun c_8 => ?_) (fun c_8 => ?_)
  · refine lv_iload_n hx hb d_Mo_flex_68 rfl (lv_at hl 2 rfl) ?_
    refine lv_bipush (v := 34) hx hb d_Mo_flex_69 (by decide) ?_
    refine lv_icmp_ne (tgt := 136) hx hb d_Mo_flex_71 (by decide) (fun c_71 => ?_) (fun c_71 => ?_)
    · refine lv_iload_n hx hb d_Mo_flex_136 rfl (lv_at hl 2 rfl) ?_
      refine lv_bipush (v := 36) hx hb d_Mo_flex_137 (by decide) ?_
      refine lv_icmp_ne (tgt := 219) hx hb d_Mo_flex_139 (by decide) (fun c_139 => ?_) (fun c_139 => ?_)
      · refine lv_iload_n hx hb d_Mo_flex_219 rfl (lv_at hl 2 rfl) ?_
        refine lv_bipush (v := 37) hx hb d_Mo_flex_220 (by decide) ?_
        refine lv_icmp_ne (tgt := 365) hx hb d_Mo_flex_222 (by decide) (fun c_222 => ?_) (fun c_222 => ?_)
        · exact t_vret hx hb hr hlk d_Mo_flex_365 (hP.subm (ws' := [(mo, .inr (8, [.int z_fault, .int z_size, .ref m_row, .ref m_shelves, .ref m_many, .ref m_widths, .int (nI mk), .ref m_mark, .int z_shown, .ref m_shownMark, .int z_wasRun, .int z_wrong, .int z_ended, .int (nI sp), .int z_hints, .int z_hasWidth, .int z_width, .int z_first, .int z_moved, .int z_deepest, .int z_x, .int z_y, .int (nI t), .ref m_stack, .ref m_places, .int (nI d), .ref m_kinds, .ref m_ats, .ref m_ends])), (m_stack, .inl (cI, 48, .inl g_stack)), (m_mark, .inl (cI, 28000, .inl g_mark))]) [0, 1, 2] rfl) (hD.sub (ws' := [(mo, .inr (8, [.int z_fault, .int z_size, .ref m_row, .ref m_shelves, .ref m_many, .ref m_widths, .int (nI mk), .ref m_mark, .int z_shown, .ref m_shownMark, .int z_wasRun, .int z_wrong, .int z_ended, .int (nI sp), .int z_hints, .int z_hasWidth, .int z_width, .int z_first, .int z_moved, .int z_deepest, .int z_x, .int z_y, .int (nI t), .ref m_stack, .ref m_places, .int (nI d), .ref m_kinds, .ref m_ats, .ref m_ends])), (m_stack, .inl (cI, 48, .inl g_stack)), (m_mark, .inl (cI, 28000, .inl g_mark))]) [0, 1, 2] rfl rfl) hS ⟨rfl, rfl, rfl, _, _, _, mk, t, _, rfl, (by omega)⟩
        · refine lv_aload_n hx hb d_Mo_flex_225 rfl (lv_at hl 1 rfl) ?_
          refine lv_aload_n hx hb d_Mo_flex_226 rfl (lv_at hl 1 rfl) ?_
          refine va_get (D := D) (ci := 8) (v := .int (nI t)) (C := R_Mo) (T := F_Mo) (N := 29) hx hb hts i_Mo hown hZ.1 hP 0 rfl rfl 22 (by decide) (hts _ fl_Mo_82) (fun _ h9 => h9) rfl d_Mo_flex_227 ?_
          refine lv_bipush (v := 11) hx hb d_Mo_flex_230 (by decide) ?_
          refine lv_icmp_ne (tgt := 239) hx hb d_Mo_flex_232 (by decide) (fun c_232 => ?_) (fun c_232 => ?_)
          · have n_232 : ¬ (t) = (11) := fun z => c_232 ((nI_eq (a := t) (b := 11) (by omega) (by omega)).mpr z)
            refine lv_iconst (v := 0) hx hb d_Mo_flex_239 (by decide) ?_
            have hC : Cut [(mo, .inr (8, [.int z_fault, .int z_size, .ref m_row, .ref m_shelves, .ref m_many, .ref m_widths, .int (nI mk), .ref m_mark, .int z_shown, .ref m_shownMark, .int z_wasRun, .int z_wrong, .int z_ended, .int (nI sp), .int z_hints, .int z_hasWidth, .int z_width, .int z_first, .int z_moved, .int z_deepest, .int z_x, .int z_y, .int (nI t), .ref m_stack, .ref m_places, .int (nI d), .ref m_kinds, .ref m_ats, .ref m_ends])), (m_stack, .inl (cI, 48, .inl g_stack)), (m_mark, .inl (cI, 28000, .inl g_mark))] [(mo, .inr (8, [.int z_fault, .int z_size, .ref m_row, .ref m_shelves, .ref m_many, .ref m_widths, .int (nI mk), .ref m_mark, .int z_shown, .ref m_shownMark, .int z_wasRun, .int z_wrong, .int z_ended, .int (nI sp), .int z_hints, .int z_hasWidth, .int z_width, .int z_first, .int z_moved, .int z_deepest, .int z_x, .int z_y, .int (nI t), .ref m_stack, .ref m_places, .int (nI d), .ref m_kinds, .ref m_ats, .ref m_ends]))] [(m_stack, .inl (cI, 48, .inl g_stack)), (m_mark, .inl (cI, 28000, .inl g_mark))] [0] [1, 2] := ⟨rfl, rfl, rfl, rfl, by decide⟩
            refine goI0 (trV (As := [.int 0]) (rest := []) ⟨hx, hb, hml, hown, hts⟩ gd_good (c_Mo_may l D cB cI cJ mo m_row m_shelves m_many m_widths m_mark m_shownMark m_stack m_places m_kinds m_ats m_ends mk sp t d z_fault z_size z_shown z_wasRun z_wrong z_ended z_hints z_hasWidth z_width z_first z_moved z_deepest z_x z_y 0 (by omega) ) cal_Mo_may ml_Mo_162 ⟨Nat.le_of_ble_eq_true rfl, Nat.le_of_ble_eq_true rfl⟩ hZ hP hD hC 0 (ci := 8) rfl rfl rfl rfl hl.1 rfl (Nat.le_of_ble_eq_true rfl) d_Mo_flex_240 ⟨Nat.le_of_ble_eq_true rfl, Nat.le_of_ble_eq_true rfl⟩) hZ hP hD hS hC (fun r_240 w1 H locs hq hP hD hS => ?_)
            obtain ⟨z_wrong_1, rfl, hv_1, hx_1, hz_1⟩ := hq
            have hP : va_P D classes [(m_stack, .inl (cI, 48, .inl g_stack)), (m_mark, .inl (cI, 28000, .inl g_mark)), (mo, .inr (8, [.int z_fault, .int z_size, .ref m_row, .ref m_shelves, .ref m_many, .ref m_widths, .int (nI mk), .ref m_mark, .int z_shown, .ref m_shownMark, .int z_wasRun, .int z_wrong_1, .int z_ended, .int (nI sp), .int z_hints, .int z_hasWidth, .int z_width, .int z_first, .int z_moved, .int z_deepest, .int z_x, .int z_y, .int (nI t), .ref m_stack, .ref m_places, .int (nI d), .ref m_kinds, .ref m_ats, .ref m_ends]))] H := hP
            have hD : va_D A_ [(m_stack, .inl (cI, 48, .inl g_stack)), (m_mark, .inl (cI, 28000, .inl g_mark)), (mo, .inr (8, [.int z_fault, .int z_size, .ref m_row, .ref m_shelves, .ref m_many, .ref m_widths, .int (nI mk), .ref m_mark, .int z_shown, .ref m_shownMark, .int z_wasRun, .int z_wrong_1, .int z_ended, .int (nI sp), .int z_hints, .int z_hasWidth, .int z_width, .int z_first, .int z_moved, .int z_deepest, .int z_x, .int z_y, .int (nI t), .ref m_stack, .ref m_places, .int (nI d), .ref m_kinds, .ref m_ats, .ref m_ends]))] := hD
            refine lv_if_eq (tgt := 365) hx hb d_Mo_flex_243 (by decide) (fun c_243 => ?_) (fun c_243 => ?_)
            · exact t_vret hx hb hr hlk d_Mo_flex_365 (hP.subm (ws' := [(mo, .inr (8, [.int z_fault, .int z_size, .ref m_row, .ref m_shelves, .ref m_many, .ref m_widths, .int (nI mk), .ref m_mark, .int z_shown, .ref m_shownMark, .int z_wasRun, .int z_wrong_1, .int z_ended, .int (nI sp), .int z_hints, .int z_hasWidth, .int z_width, .int z_first, .int z_moved, .int z_deepest, .int z_x, .int z_y, .int (nI t), .ref m_stack, .ref m_places, .int (nI d), .ref m_kinds, .ref m_ats, .ref m_ends])), (m_stack, .inl (cI, 48, .inl g_stack)), (m_mark, .inl (cI, 28000, .inl g_mark))]) [2, 0, 1] rfl) (hD.sub (ws' := [(mo, .inr (8, [.int z_fault, .int z_size, .ref m_row, .ref m_shelves, .ref m_many, .ref m_widths, .int (nI mk), .ref m_mark, .int z_shown, .ref m_shownMark, .int z_wasRun, .int z_wrong_1, .int z_ended, .int (nI sp), .int z_hints, .int z_hasWidth, .int z_width, .int z_first, .int z_moved, .int z_deepest, .int z_x, .int z_y, .int (nI t), .ref m_stack, .ref m_places, .int (nI d), .ref m_kinds, .ref m_ats, .ref m_ends])), (m_stack, .inl (cI, 48, .inl g_stack)), (m_mark, .inl (cI, 28000, .inl g_mark))]) [2, 0, 1] rfl rfl) hS ⟨rfl, rfl, rfl, _, _, _, mk, t, _, rfl, (by omega)⟩
            · refine lv_aload_n hx hb d_Mo_flex_246 rfl (lv_at hl 0 rfl) ?_
              refine lv_iconst (v := 0) hx hb d_Mo_flex_247 (by decide) ?_
              refine va_iald hx hb hZ.1 hP 0 1 rfl rfl (show vp_in (nI 0) 48 from vp_in_nI (by decide) (by decide)) d_Mo_flex_248 ?_
              refine lv_tv (y := g_stack 0) rfl ?_
              refine lv_aload_n hx hb d_Mo_flex_249 rfl (lv_at hl 0 rfl) ?_
              refine lv_iconst (v := 2) hx hb d_Mo_flex_250 (by decide) ?_
              refine va_iald hx hb hZ.1 hP 0 1 rfl rfl (show vp_in (nI 2) 48 from vp_in_nI (by decide) (by decide)) d_Mo_flex_251 ?_
              refine lv_tv (y := g_stack 2) rfl ?_
              refine lv_iadd hx hb d_Mo_flex_252 ?_
              refine lv_aload_n hx hb d_Mo_flex_253 rfl (lv_at hl 0 rfl) ?_
              refine lv_iconst (v := 4) hx hb d_Mo_flex_254 (by decide) ?_
              refine va_iald hx hb hZ.1 hP 0 1 rfl rfl (show vp_in (nI 4) 48 from vp_in_nI (by decide) (by decide)) d_Mo_flex_255 ?_
              refine lv_tv (y := g_stack 4) rfl ?_
              refine lv_iadd hx hb d_Mo_flex_256 ?_
              refine lv_aload_n hx hb d_Mo_flex_257 rfl (lv_at hl 0 rfl) ?_
              refine lv_bipush (v := 6) hx hb d_Mo_flex_258 (by decide) ?_
              refine va_iald hx hb hZ.1 hP 0 1 rfl rfl (show vp_in (nI 6) 48 from vp_in_nI (by decide) (by decide)) d_Mo_flex_260 ?_
              refine lv_tv (y := g_stack 6) rfl ?_
              refine lv_iadd hx hb d_Mo_flex_261 ?_
              refine lv_aload_n hx hb d_Mo_flex_262 rfl (lv_at hl 0 rfl) ?_
              refine lv_bipush (v := 8) hx hb d_Mo_flex_263 (by decide) ?_
              refine va_iald hx hb hZ.1 hP 0 1 rfl rfl (show vp_in (nI 8) 48 from vp_in_nI (by decide) (by decide)) d_Mo_flex_265 ?_
              refine lv_tv (y := g_stack 8) rfl ?_
              refine lv_iadd hx hb d_Mo_flex_266 ?_
              refine lv_istore_n (lv' := [(3, .int (((((g_stack 0) + (g_stack 2)) + (g_stack 4)) + (g_stack 6)) + (g_stack 8))), (2, .ref m_stack), (0, .ref mo), (1, .int c)]) hx hb d_Mo_flex_267 rfl hl (by decide) rfl (fun ls hl => ?_)
              refine lv_aload_n hx hb d_Mo_flex_268 rfl (lv_at hl 1 rfl) ?_
              refine lv_iconst (v := 1) hx hb d_Mo_flex_269 (by decide) ?_
              refine va_iald hx hb hZ.1 hP 0 1 rfl rfl (show vp_in (nI 1) 48 from vp_in_nI (by decide) (by decide)) d_Mo_flex_270 ?_
              refine lv_tv (y := g_stack 1) rfl ?_
              refine lv_aload_n hx hb d_Mo_flex_271 rfl (lv_at hl 1 rfl) ?_
              refine lv_iconst (v := 3) hx hb d_Mo_flex_272 (by decide) ?_
              refine va_iald hx hb hZ.1 hP 0 1 rfl rfl (show vp_in (nI 3) 48 from vp_in_nI (by decide) (by decide)) d_Mo_flex_273 ?_
              refine lv_tv (y := g_stack 3) rfl ?_
              refine lv_iadd hx hb d_Mo_flex_274 ?_
              refine lv_aload_n hx hb d_Mo_flex_275 rfl (lv_at hl 1 rfl) ?_
              refine lv_iconst (v := 5) hx hb d_Mo_flex_276 (by decide) ?_
              refine va_iald hx hb hZ.1 hP 0 1 rfl rfl (show vp_in (nI 5) 48 from vp_in_nI (by decide) (by decide)) d_Mo_flex_277 ?_
              refine lv_tv (y := g_stack 5) rfl ?_
              refine lv_iadd hx hb d_Mo_flex_278 ?_
              refine lv_aload_n hx hb d_Mo_flex_279 rfl (lv_at hl 1 rfl) ?_
              refine lv_bipush (v := 7) hx hb d_Mo_flex_280 (by decide) ?_
              refine va_iald hx hb hZ.1 hP 0 1 rfl rfl (show vp_in (nI 7) 48 from vp_in_nI (by decide) (by decide)) d_Mo_flex_282 ?_
              refine lv_tv (y := g_stack 7) rfl ?_
              refine lv_iadd hx hb d_Mo_flex_283 ?_
              refine lv_aload_n hx hb d_Mo_flex_284 rfl (lv_at hl 1 rfl) ?_
              refine lv_bipush (v := 9) hx hb d_Mo_flex_285 (by decide) ?_
              refine va_iald hx hb hZ.1 hP 0 1 rfl rfl (show vp_in (nI 9) 48 from vp_in_nI (by decide) (by decide)) d_Mo_flex_287 ?_
              refine lv_tv (y := g_stack 9) rfl ?_
              refine lv_iadd hx hb d_Mo_flex_288 ?_
              refine lv_istore (lv' := [(4, .int (((((g_stack 1) + (g_stack 3)) + (g_stack 5)) + (g_stack 7)) + (g_stack 9))), (3, .int (((((g_stack 0) + (g_stack 2)) + (g_stack 4)) + (g_stack 6)) + (g_stack 8))), (2, .ref m_stack), (0, .ref mo), (1, .int c)]) hx hb d_Mo_flex_289 hl (by decide) rfl (fun ls hl => ?_)
              refine lv_iload_n hx hb d_Mo_flex_291 rfl (lv_at hl 1 rfl) ?_
              refine roS (As := [.int (((((g_stack 0) + (g_stack 2)) + (g_stack 4)) + (g_stack 6)) + (g_stack 8))]) (rest := []) ⟨hx, hb, hml, hown, hts⟩ gd_good (c_Mo_sizeOf l D cB cI cJ (((((g_stack 0) + (g_stack 2)) + (g_stack 4)) + (g_stack 6)) + (g_stack 8)) ) cal_Mo_sizeOf ml_Mo_175 ⟨Nat.le_of_ble_eq_true rfl, Nat.le_of_ble_eq_true rfl⟩ hZ hP hD (isC := []) ⟨rfl, rfl⟩ rfl hl.1 rfl (Nat.le_of_ble_eq_true rfl) d_Mo_flex_292 ⟨Nat.le_of_ble_eq_true rfl, Nat.le_of_ble_eq_true rfl⟩ (fun v hv => ?_)
              obtain ⟨o_292, rfl⟩ := hv
              refine lv_iload hx hb d_Mo_flex_295 (lv_at hl 0 rfl) ?_
              refine roS (As := [.int (((((g_stack 1) + (g_stack 3)) + (g_stack 5)) + (g_stack 7)) + (g_stack 9))]) (rest := [.long o_292]) ⟨hx, hb, hml, hown, hts⟩ gd_good (c_Mo_sizeOf l D cB cI cJ (((((g_stack 1) + (g_stack 3)) + (g_stack 5)) + (g_stack 7)) + (g_stack 9)) ) cal_Mo_sizeOf ml_Mo_175 ⟨Nat.le_of_ble_eq_true rfl, Nat.le_of_ble_eq_true rfl⟩ hZ hP hD (isC := []) ⟨rfl, rfl⟩ rfl hl.1 rfl (Nat.le_of_ble_eq_true rfl) d_Mo_flex_297 ⟨Nat.le_of_ble_eq_true rfl, Nat.le_of_ble_eq_true rfl⟩ (fun v hv => ?_)
              obtain ⟨o_297, rfl⟩ := hv
              refine W.lcmp hx hb d_Mo_flex_300 ?_
              refine lv_if_le (tgt := 308) hx hb d_Mo_flex_301 (by decide) (fun c_301 => ?_) (fun c_301 => ?_)
              · refine lv_iconst (v := 0) hx hb d_Mo_flex_308 (by decide) ?_
                refine lv_istore (lv' := [(5, .int 0), (4, .int (((((g_stack 1) + (g_stack 3)) + (g_stack 5)) + (g_stack 7)) + (g_stack 9))), (3, .int (((((g_stack 0) + (g_stack 2)) + (g_stack 4)) + (g_stack 6)) + (g_stack 8))), (2, .ref m_stack), (0, .ref mo), (1, .int c)]) hx hb d_Mo_flex_309 hl (by decide) rfl (fun ls hl => ?_)
                refine lv_aload_n hx hb d_Mo_flex_311 rfl (lv_at hl 4 rfl) ?_
                refine lv_iconst (v := 0) hx hb d_Mo_flex_312 (by decide) ?_
                have hC : Cut [(m_stack, .inl (cI, 48, .inl g_stack)), (m_mark, .inl (cI, 28000, .inl g_mark)), (mo, .inr (8, [.int z_fault, .int z_size, .ref m_row, .ref m_shelves, .ref m_many, .ref m_widths, .int (nI mk), .ref m_mark, .int z_shown, .ref m_shownMark, .int z_wasRun, .int z_wrong_1, .int z_ended, .int (nI sp), .int z_hints, .int z_hasWidth, .int z_width, .int z_first, .int z_moved, .int z_deepest, .int z_x, .int z_y, .int (nI t), .ref m_stack, .ref m_places, .int (nI d), .ref m_kinds, .ref m_ats, .ref m_ends]))] [(mo, .inr (8, [.int z_fault, .int z_size, .ref m_row, .ref m_shelves, .ref m_many, .ref m_widths, .int (nI mk), .ref m_mark, .int z_shown, .ref m_shownMark, .int z_wasRun, .int z_wrong_1, .int z_ended, .int (nI sp), .int z_hints, .int z_hasWidth, .int z_width, .int z_first, .int z_moved, .int z_deepest, .int z_x, .int z_y, .int (nI t), .ref m_stack, .ref m_places, .int (nI d), .ref m_kinds, .ref m_ats, .ref m_ends])), (m_stack, .inl (cI, 48, .inl g_stack)), (m_mark, .inl (cI, 28000, .inl g_mark))] [] [2, 0, 1] [] := ⟨rfl, rfl, rfl, rfl, by decide⟩
                refine goV0 (trV (As := [.int 0]) (rest := []) ⟨hx, hb, hml, hown, hts⟩ gd_good (c_Mo_six l D cB cI cJ mo m_row m_shelves m_many m_widths m_mark m_shownMark m_stack m_places m_kinds m_ats m_ends mk sp t d z_fault z_size z_shown z_wasRun z_wrong_1 z_ended z_hints z_hasWidth z_width z_first z_moved z_deepest z_x z_y g_stack g_mark 0 (by omega) (by omega)) cal_Mo_six ml_Mo_169 ⟨Nat.le_of_ble_eq_true rfl, Nat.le_of_ble_eq_true rfl⟩ hZ hP hD hC 2 (ci := 8) rfl rfl rfl rfl hl.1 rfl (Nat.le_of_ble_eq_true rfl) d_Mo_flex_313 ⟨Nat.le_of_ble_eq_true rfl, Nat.le_of_ble_eq_true rfl⟩) hZ hP hD hS hC (fun w1 H locs hq hP hD hS => ?_)
                obtain ⟨z_x_2, z_y_2, z_wrong_2, mk_2, g_mark_2, rfl, hv_2⟩ := hq
                have hP : va_P D classes [(mo, .inr (8, [.int z_fault, .int z_size, .ref m_row, .ref m_shelves, .ref m_many, .ref m_widths, .int (nI mk_2), .ref m_mark, .int z_shown, .ref m_shownMark, .int z_wasRun, .int z_wrong_2, .int z_ended, .int (nI sp), .int z_hints, .int z_hasWidth, .int z_width, .int z_first, .int z_moved, .int z_deepest, .int z_x_2, .int z_y_2, .int (nI t), .ref m_stack, .ref m_places, .int (nI d), .ref m_kinds, .ref m_ats, .ref m_ends])), (m_stack, .inl (cI, 48, .inl g_stack)), (m_mark, .inl (cI, 28000, .inl g_mark_2))] H := hP
                have hD : va_D A_ [(mo, .inr (8, [.int z_fault, .int z_size, .ref m_row, .ref m_shelves, .ref m_many, .ref m_widths, .int (nI mk_2), .ref m_mark, .int z_shown, .ref m_shownMark, .int z_wasRun, .int z_wrong_2, .int z_ended, .int (nI sp), .int z_hints, .int z_hasWidth, .int z_width, .int z_first, .int z_moved, .int z_deepest, .int z_x_2, .int z_y_2, .int (nI t), .ref m_stack, .ref m_places, .int (nI d), .ref m_kinds, .ref m_ats, .ref m_ends])), (m_stack, .inl (cI, 48, .inl g_stack)), (m_mark, .inl (cI, 28000, .inl g_mark_2))] := hD
                refine lv_aload_n hx hb d_Mo_flex_316 rfl (lv_at hl 4 rfl) ?_
                refine lv_aload_n hx hb d_Mo_flex_317 rfl (lv_at hl 3 rfl) ?_
                refine lv_bipush (v := 6) hx hb d_Mo_flex_318 (by decide) ?_
                refine va_iald hx hb hZ.1 hP 1 1 rfl rfl (show vp_in (nI 6) 48 from vp_in_nI (by decide) (by decide)) d_Mo_flex_320 ?_
                refine lv_tv (y := g_stack 6) rfl ?_
                refine lv_aload_n hx hb d_Mo_flex_321 rfl (lv_at hl 3 rfl) ?_
                refine lv_bipush (v := 7) hx hb d_Mo_flex_322 (by decide) ?_
                refine va_iald hx hb hZ.1 hP 1 1 rfl rfl (show vp_in (nI 7) 48 from vp_in_nI (by decide) (by decide)) d_Mo_flex_324 ?_
                refine lv_tv (y := g_stack 7) rfl ?_
                refine lv_aload_n hx hb d_Mo_flex_325 rfl (lv_at hl 3 rfl) ?_
                refine lv_bipush (v := 8) hx hb d_Mo_flex_326 (by decide) ?_
                refine va_iald hx hb hZ.1 hP 1 1 rfl rfl (show vp_in (nI 8) 48 from vp_in_nI (by decide) (by decide)) d_Mo_flex_328 ?_
                refine lv_tv (y := g_stack 8) rfl ?_
                refine lv_aload_n hx hb d_Mo_flex_329 rfl (lv_at hl 3 rfl) ?_
                refine lv_bipush (v := 9) hx hb d_Mo_flex_330 (by decide) ?_
                refine va_iald hx hb hZ.1 hP 1 1 rfl rfl (show vp_in (nI 9) 48 from vp_in_nI (by decide) (by decide)) d_Mo_flex_332 ?_
                refine lv_tv (y := g_stack 9) rfl ?_
                refine lv_iload hx hb d_Mo_flex_333 (lv_at hl 0 rfl) ?_
                refine lv_if_eq (tgt := 345) hx hb d_Mo_flex_335 (by decide) (fun c_335 => ?_) (fun c_335 => absurd (by decide) c_335)
                clear c_335
                refine lv_iload_n hx hb d_Mo_flex_345 rfl (lv_at hl 2 rfl) ?_
                refine lv_ineg hx hb d_Mo_flex_346 ?_
                refine lv_iload hx hb d_Mo_flex_347 (lv_at hl 0 rfl) ?_
                refine lv_if_eq (tgt := 358) hx hb d_Mo_flex_349 (by decide) (fun c_349 => ?_) (fun c_349 => absurd (by decide) c_349)
                clear c_349
                refine lv_aload_n hx hb d_Mo_flex_358 rfl (lv_at hl 3 rfl) ?_
                refine lv_bipush (v := 10) hx hb d_Mo_flex_359 (by decide) ?_
                refine va_iald hx hb hZ.1 hP 1 1 rfl rfl (show vp_in (nI 10) 48 from vp_in_nI (by decide) (by decide)) d_Mo_flex_361 ?_
                refine lv_tv (y := g_stack 10) rfl ?_
                have hC : Cut [(mo, .inr (8, [.int z_fault, .int z_size, .ref m_row, .ref m_shelves, .ref m_many, .ref m_widths, .int (nI mk_2), .ref m_mark, .int z_shown, .ref m_shownMark, .int z_wasRun, .int z_wrong_2, .int z_ended, .int (nI sp), .int z_hints, .int z_hasWidth, .int z_width, .int z_first, .int z_moved, .int z_deepest, .int z_x_2, .int z_y_2, .int (nI t), .ref m_stack, .ref m_places, .int (nI d), .ref m_kinds, .ref m_ats, .ref m_ends])), (m_stack, .inl (cI, 48, .inl g_stack)), (m_mark, .inl (cI, 28000, .inl g_mark_2))] [(mo, .inr (8, [.int z_fault, .int z_size, .ref m_row, .ref m_shelves, .ref m_many, .ref m_widths, .int (nI mk_2), .ref m_mark, .int z_shown, .ref m_shownMark, .int z_wasRun, .int z_wrong_2, .int z_ended, .int (nI sp), .int z_hints, .int z_hasWidth, .int z_width, .int z_first, .int z_moved, .int z_deepest, .int z_x_2, .int z_y_2, .int (nI t), .ref m_stack, .ref m_places, .int (nI d), .ref m_kinds, .ref m_ats, .ref m_ends])), (m_mark, .inl (cI, 28000, .inl g_mark_2))] [(m_stack, .inl (cI, 48, .inl g_stack))] [0, 2] [1] := ⟨rfl, rfl, rfl, rfl, by decide⟩
                refine goV0 (trV (As := [.int (g_stack 6), .int (g_stack 7), .int (g_stack 8), .int (g_stack 9), .int (-(((((g_stack 0) + (g_stack 2)) + (g_stack 4)) + (g_stack 6)) + (g_stack 8))), .int (g_stack 10)]) (rest := []) ⟨hx, hb, hml, hown, hts⟩ gd_good (c_Mo_two l D cB cI cJ mo m_row m_shelves m_many m_widths m_mark m_shownMark m_stack m_places m_kinds m_ats m_ends mk_2 sp t d z_fault z_size z_shown z_wasRun z_wrong_2 z_ended z_hints z_hasWidth z_width z_first z_moved z_deepest z_x_2 z_y_2 g_mark_2 (g_stack 6) (g_stack 7) (g_stack 8) (g_stack 9) (-(((((g_stack 0) + (g_stack 2)) + (g_stack 4)) + (g_stack 6)) + (g_stack 8))) (g_stack 10) (by omega) ) cal_Mo_two ml_Mo_172 ⟨Nat.le_of_ble_eq_true rfl, Nat.le_of_ble_eq_true rfl⟩ hZ hP hD hC 0 (ci := 8) rfl rfl rfl rfl hl.1 rfl (Nat.le_of_ble_eq_true rfl) d_Mo_flex_362 ⟨Nat.le_of_ble_eq_true rfl, Nat.le_of_ble_eq_true rfl⟩) hZ hP hD hS hC (fun w1 H locs hq hP hD hS => ?_)
                obtain ⟨z_x_3, z_y_3, z_wrong_3, mk_3, t_3, g_mark_3, rfl, hv_3⟩ := hq
                have hP : va_P D classes [(m_stack, .inl (cI, 48, .inl g_stack)), (mo, .inr (8, [.int z_fault, .int z_size, .ref m_row, .ref m_shelves, .ref m_many, .ref m_widths, .int (nI mk_3), .ref m_mark, .int z_shown, .ref m_shownMark, .int z_wasRun, .int z_wrong_3, .int z_ended, .int (nI sp), .int z_hints, .int z_hasWidth, .int z_width, .int z_first, .int z_moved, .int z_deepest, .int z_x_3, .int z_y_3, .int (nI t_3), .ref m_stack, .ref m_places, .int (nI d), .ref m_kinds, .ref m_ats, .ref m_ends])), (m_mark, .inl (cI, 28000, .inl g_mark_3))] H := hP
                have hD : va_D A_ [(m_stack, .inl (cI, 48, .inl g_stack)), (mo, .inr (8, [.int z_fault, .int z_size, .ref m_row, .ref m_shelves, .ref m_many, .ref m_widths, .int (nI mk_3), .ref m_mark, .int z_shown, .ref m_shownMark, .int z_wasRun, .int z_wrong_3, .int z_ended, .int (nI sp), .int z_hints, .int z_hasWidth, .int z_width, .int z_first, .int z_moved, .int z_deepest, .int z_x_3, .int z_y_3, .int (nI t_3), .ref m_stack, .ref m_places, .int (nI d), .ref m_kinds, .ref m_ats, .ref m_ends])), (m_mark, .inl (cI, 28000, .inl g_mark_3))] := hD
                exact t_vret hx hb hr hlk d_Mo_flex_365 (hP.subm (ws' := [(mo, .inr (8, [.int z_fault, .int z_size, .ref m_row, .ref m_shelves, .ref m_many, .ref m_widths, .int (nI mk_3), .ref m_mark, .int z_shown, .ref m_shownMark, .int z_wasRun, .int z_wrong_3, .int z_ended, .int (nI sp), .int z_hints, .int z_hasWidth, .int z_width, .int z_first, .int z_moved, .int z_deepest, .int z_x_3, .int z_y_3, .int (nI t_3), .ref m_stack, .ref m_places, .int (nI d), .ref m_kinds, .ref m_ats, .ref m_ends])), (m_stack, .inl (cI, 48, .inl g_stack)), (m_mark, .inl (cI, 28000, .inl g_mark_3))]) [1, 0, 2] rfl) (hD.sub (ws' := [(mo, .inr (8, [.int z_fault, .int z_size, .ref m_row, .ref m_shelves, .ref m_many, .ref m_widths, .int (nI mk_3), .ref m_mark, .int z_shown, .ref m_shownMark, .int z_wasRun, .int z_wrong_3, .int z_ended, .int (nI sp), .int z_hints, .int z_hasWidth, .int z_width, .int z_first, .int z_moved, .int z_deepest, .int z_x_3, .int z_y_3, .int (nI t_3), .ref m_stack, .ref m_places, .int (nI d), .ref m_kinds, .ref m_ats, .ref m_ends])), (m_stack, .inl (cI, 48, .inl g_stack)), (m_mark, .inl (cI, 28000, .inl g_mark_3))]) [1, 0, 2] rfl rfl) hS ⟨rfl, rfl, rfl, _, _, _, mk_3, t_3, _, rfl, (by omega)⟩
              · refine lv_iconst (v := 1) hx hb d_Mo_flex_304 (by decide) ?_
                refine lv_goto (tgt := 309) hx hb d_Mo_flex_305 (by decide) ?_
                refine lv_istore (lv' := [(5, .int 1), (4, .int (((((g_stack 1) + (g_stack 3)) + (g_stack 5)) + (g_stack 7)) + (g_stack 9))), (3, .int (((((g_stack 0) + (g_stack 2)) + (g_stack 4)) + (g_stack 6)) + (g_stack 8))), (2, .ref m_stack), (0, .ref mo), (1, .int c)]) hx hb d_Mo_flex_309 hl (by decide) rfl (fun ls hl => ?_)
                refine lv_aload_n hx hb d_Mo_flex_311 rfl (lv_at hl 4 rfl) ?_
                refine lv_iconst (v := 0) hx hb d_Mo_flex_312 (by decide) ?_
                have hC : Cut [(m_stack, .inl (cI, 48, .inl g_stack)), (m_mark, .inl (cI, 28000, .inl g_mark)), (mo, .inr (8, [.int z_fault, .int z_size, .ref m_row, .ref m_shelves, .ref m_many, .ref m_widths, .int (nI mk), .ref m_mark, .int z_shown, .ref m_shownMark, .int z_wasRun, .int z_wrong_1, .int z_ended, .int (nI sp), .int z_hints, .int z_hasWidth, .int z_width, .int z_first, .int z_moved, .int z_deepest, .int z_x, .int z_y, .int (nI t), .ref m_stack, .ref m_places, .int (nI d), .ref m_kinds, .ref m_ats, .ref m_ends]))] [(mo, .inr (8, [.int z_fault, .int z_size, .ref m_row, .ref m_shelves, .ref m_many, .ref m_widths, .int (nI mk), .ref m_mark, .int z_shown, .ref m_shownMark, .int z_wasRun, .int z_wrong_1, .int z_ended, .int (nI sp), .int z_hints, .int z_hasWidth, .int z_width, .int z_first, .int z_moved, .int z_deepest, .int z_x, .int z_y, .int (nI t), .ref m_stack, .ref m_places, .int (nI d), .ref m_kinds, .ref m_ats, .ref m_ends])), (m_stack, .inl (cI, 48, .inl g_stack)), (m_mark, .inl (cI, 28000, .inl g_mark))] [] [2, 0, 1] [] := ⟨rfl, rfl, rfl, rfl, by decide⟩
                refine goV0 (trV (As := [.int 0]) (rest := []) ⟨hx, hb, hml, hown, hts⟩ gd_good (c_Mo_six l D cB cI cJ mo m_row m_shelves m_many m_widths m_mark m_shownMark m_stack m_places m_kinds m_ats m_ends mk sp t d z_fault z_size z_shown z_wasRun z_wrong_1 z_ended z_hints z_hasWidth z_width z_first z_moved z_deepest z_x z_y g_stack g_mark 0 (by omega) (by omega)) cal_Mo_six ml_Mo_169 ⟨Nat.le_of_ble_eq_true rfl, Nat.le_of_ble_eq_true rfl⟩ hZ hP hD hC 2 (ci := 8) rfl rfl rfl rfl hl.1 rfl (Nat.le_of_ble_eq_true rfl) d_Mo_flex_313 ⟨Nat.le_of_ble_eq_true rfl, Nat.le_of_ble_eq_true rfl⟩) hZ hP hD hS hC (fun w1 H locs hq hP hD hS => ?_)
                obtain ⟨z_x_4, z_y_4, z_wrong_4, mk_4, g_mark_4, rfl, hv_4⟩ := hq
                have hP : va_P D classes [(mo, .inr (8, [.int z_fault, .int z_size, .ref m_row, .ref m_shelves, .ref m_many, .ref m_widths, .int (nI mk_4), .ref m_mark, .int z_shown, .ref m_shownMark, .int z_wasRun, .int z_wrong_4, .int z_ended, .int (nI sp), .int z_hints, .int z_hasWidth, .int z_width, .int z_first, .int z_moved, .int z_deepest, .int z_x_4, .int z_y_4, .int (nI t), .ref m_stack, .ref m_places, .int (nI d), .ref m_kinds, .ref m_ats, .ref m_ends])), (m_stack, .inl (cI, 48, .inl g_stack)), (m_mark, .inl (cI, 28000, .inl g_mark_4))] H := hP
                have hD : va_D A_ [(mo, .inr (8, [.int z_fault, .int z_size, .ref m_row, .ref m_shelves, .ref m_many, .ref m_widths, .int (nI mk_4), .ref m_mark, .int z_shown, .ref m_shownMark, .int z_wasRun, .int z_wrong_4, .int z_ended, .int (nI sp), .int z_hints, .int z_hasWidth, .int z_width, .int z_first, .int z_moved, .int z_deepest, .int z_x_4, .int z_y_4, .int (nI t), .ref m_stack, .ref m_places, .int (nI d), .ref m_kinds, .ref m_ats, .ref m_ends])), (m_stack, .inl (cI, 48, .inl g_stack)), (m_mark, .inl (cI, 28000, .inl g_mark_4))] := hD
                refine lv_aload_n hx hb d_Mo_flex_316 rfl (lv_at hl 4 rfl) ?_
                refine lv_aload_n hx hb d_Mo_flex_317 rfl (lv_at hl 3 rfl) ?_
                refine lv_bipush (v := 6) hx hb d_Mo_flex_318 (by decide) ?_
                refine va_iald hx hb hZ.1 hP 1 1 rfl rfl (show vp_in (nI 6) 48 from vp_in_nI (by decide) (by decide)) d_Mo_flex_320 ?_
                refine lv_tv (y := g_stack 6) rfl ?_
                refine lv_aload_n hx hb d_Mo_flex_321 rfl (lv_at hl 3 rfl) ?_
                refine lv_bipush (v := 7) hx hb d_Mo_flex_322 (by decide) ?_
                refine va_iald hx hb hZ.1 hP 1 1 rfl rfl (show vp_in (nI 7) 48 from vp_in_nI (by decide) (by decide)) d_Mo_flex_324 ?_
                refine lv_tv (y := g_stack 7) rfl ?_
                refine lv_aload_n hx hb d_Mo_flex_325 rfl (lv_at hl 3 rfl) ?_
                refine lv_bipush (v := 8) hx hb d_Mo_flex_326 (by decide) ?_
                refine va_iald hx hb hZ.1 hP 1 1 rfl rfl (show vp_in (nI 8) 48 from vp_in_nI (by decide) (by decide)) d_Mo_flex_328 ?_
                refine lv_tv (y := g_stack 8) rfl ?_
                refine lv_aload_n hx hb d_Mo_flex_329 rfl (lv_at hl 3 rfl) ?_
                refine lv_bipush (v := 9) hx hb d_Mo_flex_330 (by decide) ?_
                refine va_iald hx hb hZ.1 hP 1 1 rfl rfl (show vp_in (nI 9) 48 from vp_in_nI (by decide) (by decide)) d_Mo_flex_332 ?_
                refine lv_tv (y := g_stack 9) rfl ?_
                refine lv_iload hx hb d_Mo_flex_333 (lv_at hl 0 rfl) ?_
                refine lv_if_eq (tgt := 345) hx hb d_Mo_flex_335 (by decide) (fun c_335 => absurd c_335 (by decide)) (fun c_335 => ?_)
                clear c_335
                refine lv_aload_n hx hb d_Mo_flex_338 rfl (lv_at hl 3 rfl) ?_
                refine lv_bipush (v := 10) hx hb d_Mo_flex_339 (by decide) ?_
                refine va_iald hx hb hZ.1 hP 1 1 rfl rfl (show vp_in (nI 10) 48 from vp_in_nI (by decide) (by decide)) d_Mo_flex_341 ?_
                refine lv_tv (y := g_stack 10) rfl ?_
                refine lv_goto (tgt := 347) hx hb d_Mo_flex_342 (by decide) ?_
                refine lv_iload hx hb d_Mo_flex_347 (lv_at hl 0 rfl) ?_
                refine lv_if_eq (tgt := 358) hx hb d_Mo_flex_349 (by decide) (fun c_349 => absurd c_349 (by decide)) (fun c_349 => ?_)
                clear c_349
                refine lv_iload hx hb d_Mo_flex_352 (lv_at hl 1 rfl) ?_
                refine lv_ineg hx hb d_Mo_flex_354 ?_
                refine lv_goto (tgt := 362) hx hb d_Mo_flex_355 (by decide) ?_
                have hC : Cut [(mo, .inr (8, [.int z_fault, .int z_size, .ref m_row, .ref m_shelves, .ref m_many, .ref m_widths, .int (nI mk_4), .ref m_mark, .int z_shown, .ref m_shownMark, .int z_wasRun, .int z_wrong_4, .int z_ended, .int (nI sp), .int z_hints, .int z_hasWidth, .int z_width, .int z_first, .int z_moved, .int z_deepest, .int z_x_4, .int z_y_4, .int (nI t), .ref m_stack, .ref m_places, .int (nI d), .ref m_kinds, .ref m_ats, .ref m_ends])), (m_stack, .inl (cI, 48, .inl g_stack)), (m_mark, .inl (cI, 28000, .inl g_mark_4))] [(mo, .inr (8, [.int z_fault, .int z_size, .ref m_row, .ref m_shelves, .ref m_many, .ref m_widths, .int (nI mk_4), .ref m_mark, .int z_shown, .ref m_shownMark, .int z_wasRun, .int z_wrong_4, .int z_ended, .int (nI sp), .int z_hints, .int z_hasWidth, .int z_width, .int z_first, .int z_moved, .int z_deepest, .int z_x_4, .int z_y_4, .int (nI t), .ref m_stack, .ref m_places, .int (nI d), .ref m_kinds, .ref m_ats, .ref m_ends])), (m_mark, .inl (cI, 28000, .inl g_mark_4))] [(m_stack, .inl (cI, 48, .inl g_stack))] [0, 2] [1] := ⟨rfl, rfl, rfl, rfl, by decide⟩
                refine goV0 (trV (As := [.int (g_stack 6), .int (g_stack 7), .int (g_stack 8), .int (g_stack 9), .int (g_stack 10), .int (-(((((g_stack 1) + (g_stack 3)) + (g_stack 5)) + (g_stack 7)) + (g_stack 9)))]) (rest := []) ⟨hx, hb, hml, hown, hts⟩ gd_good (c_Mo_two l D cB cI cJ mo m_row m_shelves m_many m_widths m_mark m_shownMark m_stack m_places m_kinds m_ats m_ends mk_4 sp t d z_fault z_size z_shown z_wasRun z_wrong_4 z_ended z_hints z_hasWidth z_width z_first z_moved z_deepest z_x_4 z_y_4 g_mark_4 (g_stack 6) (g_stack 7) (g_stack 8) (g_stack 9) (g_stack 10) (-(((((g_stack 1) + (g_stack 3)) + (g_stack 5)) + (g_stack 7)) + (g_stack 9))) (by omega) ) cal_Mo_two ml_Mo_172 ⟨Nat.le_of_ble_eq_true rfl, Nat.le_of_ble_eq_true rfl⟩ hZ hP hD hC 0 (ci := 8) rfl rfl rfl rfl hl.1 rfl (Nat.le_of_ble_eq_true rfl) d_Mo_flex_362 ⟨Nat.le_of_ble_eq_true rfl, Nat.le_of_ble_eq_true rfl⟩) hZ hP hD hS hC (fun w1 H locs hq hP hD hS => ?_)
                obtain ⟨z_x_5, z_y_5, z_wrong_5, mk_5, t_5, g_mark_5, rfl, hv_5⟩ := hq
                have hP : va_P D classes [(m_stack, .inl (cI, 48, .inl g_stack)), (mo, .inr (8, [.int z_fault, .int z_size, .ref m_row, .ref m_shelves, .ref m_many, .ref m_widths, .int (nI mk_5), .ref m_mark, .int z_shown, .ref m_shownMark, .int z_wasRun, .int z_wrong_5, .int z_ended, .int (nI sp), .int z_hints, .int z_hasWidth, .int z_width, .int z_first, .int z_moved, .int z_deepest, .int z_x_5, .int z_y_5, .int (nI t_5), .ref m_stack, .ref m_places, .int (nI d), .ref m_kinds, .ref m_ats, .ref m_ends])), (m_mark, .inl (cI, 28000, .inl g_mark_5))] H := hP
                have hD : va_D A_ [(m_stack, .inl (cI, 48, .inl g_stack)), (mo, .inr (8, [.int z_fault, .int z_size, .ref m_row, .ref m_shelves, .ref m_many, .ref m_widths, .int (nI mk_5), .ref m_mark, .int z_shown, .ref m_shownMark, .int z_wasRun, .int z_wrong_5, .int z_ended, .int (nI sp), .int z_hints, .int z_hasWidth, .int z_width, .int z_first, .int z_moved, .int z_deepest, .int z_x_5, .int z_y_5, .int (nI t_5), .ref m_stack, .ref m_places, .int (nI d), .ref m_kinds, .ref m_ats, .ref m_ends])), (m_mark, .inl (cI, 28000, .inl g_mark_5))] := hD
                exact t_vret hx hb hr hlk d_Mo_flex_365 (hP.subm (ws' := [(mo, .inr (8, [.int z_fault, .int z_size, .ref m_row, .ref m_shelves, .ref m_many, .ref m_widths, .int (nI mk_5), .ref m_mark, .int z_shown, .ref m_shownMark, .int z_wasRun, .int z_wrong_5, .int z_ended, .int (nI sp), .int z_hints, .int z_hasWidth, .int z_width, .int z_first, .int z_moved, .int z_deepest, .int z_x_5, .int z_y_5, .int (nI t_5), .ref m_stack, .ref m_places, .int (nI d), .ref m_kinds, .ref m_ats, .ref m_ends])), (m_stack, .inl (cI, 48, .inl g_stack)), (m_mark, .inl (cI, 28000, .inl g_mark_5))]) [1, 0, 2] rfl) (hD.sub (ws' := [(mo, .inr (8, [.int z_fault, .int z_size, .ref m_row, .ref m_shelves, .ref m_many, .ref m_widths, .int (nI mk_5), .ref m_mark, .int z_shown, .ref m_shownMark, .int z_wasRun, .int z_wrong_5, .int z_ended, .int (nI sp), .int z_hints, .int z_hasWidth, .int z_width, .int z_first, .int z_moved, .int z_deepest, .int z_x_5, .int z_y_5, .int (nI t_5), .ref m_stack, .ref m_places, .int (nI d), .ref m_kinds, .ref m_ats, .ref m_ends])), (m_stack, .inl (cI, 48, .inl g_stack)), (m_mark, .inl (cI, 28000, .inl g_mark_5))]) [1, 0, 2] rfl rfl) hS ⟨rfl, rfl, rfl, _, _, _, mk_5, t_5, _, rfl, (by omega)⟩
          · have n_232 : (t) = (11) := (nI_eq (a := t) (b := 11) (by omega) (by omega)).mp c_232
            refine lv_iconst (v := 1) hx hb d_Mo_flex_235 (by decide) ?_
            refine lv_goto (tgt := 240) hx hb d_Mo_flex_236 (by decide) ?_
            have hC : Cut [(mo, .inr (8, [.int z_fault, .int z_size, .ref m_row, .ref m_shelves, .ref m_many, .ref m_widths, .int (nI mk), .ref m_mark, .int z_shown, .ref m_shownMark, .int z_wasRun, .int z_wrong, .int z_ended, .int (nI sp), .int z_hints, .int z_hasWidth, .int z_width, .int z_first, .int z_moved, .int z_deepest, .int z_x, .int z_y, .int (nI t), .ref m_stack, .ref m_places, .int (nI d), .ref m_kinds, .ref m_ats, .ref m_ends])), (m_stack, .inl (cI, 48, .inl g_stack)), (m_mark, .inl (cI, 28000, .inl g_mark))] [(mo, .inr (8, [.int z_fault, .int z_size, .ref m_row, .ref m_shelves, .ref m_many, .ref m_widths, .int (nI mk), .ref m_mark, .int z_shown, .ref m_shownMark, .int z_wasRun, .int z_wrong, .int z_ended, .int (nI sp), .int z_hints, .int z_hasWidth, .int z_width, .int z_first, .int z_moved, .int z_deepest, .int z_x, .int z_y, .int (nI t), .ref m_stack, .ref m_places, .int (nI d), .ref m_kinds, .ref m_ats, .ref m_ends]))] [(m_stack, .inl (cI, 48, .inl g_stack)), (m_mark, .inl (cI, 28000, .inl g_mark))] [0] [1, 2] := ⟨rfl, rfl, rfl, rfl, by decide⟩
            refine goI0 (trV (As := [.int 1]) (rest := []) ⟨hx, hb, hml, hown, hts⟩ gd_good (c_Mo_may l D cB cI cJ mo m_row m_shelves m_many m_widths m_mark m_shownMark m_stack m_places m_kinds m_ats m_ends mk sp t d z_fault z_size z_shown z_wasRun z_wrong z_ended z_hints z_hasWidth z_width z_first z_moved z_deepest z_x z_y 1 (by omega) ) cal_Mo_may ml_Mo_162 ⟨Nat.le_of_ble_eq_true rfl, Nat.le_of_ble_eq_true rfl⟩ hZ hP hD hC 0 (ci := 8) rfl rfl rfl rfl hl.1 rfl (Nat.le_of_ble_eq_true rfl) d_Mo_flex_240 ⟨Nat.le_of_ble_eq_true rfl, Nat.le_of_ble_eq_true rfl⟩) hZ hP hD hS hC (fun r_240 w1 H locs hq hP hD hS => ?_)
            obtain ⟨z_wrong_6, rfl, hv_6, hx_6, hz_6⟩ := hq
            have hP : va_P D classes [(m_stack, .inl (cI, 48, .inl g_stack)), (m_mark, .inl (cI, 28000, .inl g_mark)), (mo, .inr (8, [.int z_fault, .int z_size, .ref m_row, .ref m_shelves, .ref m_many, .ref m_widths, .int (nI mk), .ref m_mark, .int z_shown, .ref m_shownMark, .int z_wasRun, .int z_wrong_6, .int z_ended, .int (nI sp), .int z_hints, .int z_hasWidth, .int z_width, .int z_first, .int z_moved, .int z_deepest, .int z_x, .int z_y, .int (nI t), .ref m_stack, .ref m_places, .int (nI d), .ref m_kinds, .ref m_ats, .ref m_ends]))] H := hP
            have hD : va_D A_ [(m_stack, .inl (cI, 48, .inl g_stack)), (m_mark, .inl (cI, 28000, .inl g_mark)), (mo, .inr (8, [.int z_fault, .int z_size, .ref m_row, .ref m_shelves, .ref m_many, .ref m_widths, .int (nI mk), .ref m_mark, .int z_shown, .ref m_shownMark, .int z_wasRun, .int z_wrong_6, .int z_ended, .int (nI sp), .int z_hints, .int z_hasWidth, .int z_width, .int z_first, .int z_moved, .int z_deepest, .int z_x, .int z_y, .int (nI t), .ref m_stack, .ref m_places, .int (nI d), .ref m_kinds, .ref m_ats, .ref m_ends]))] := hD
            refine lv_if_eq (tgt := 365) hx hb d_Mo_flex_243 (by decide) (fun c_243 => ?_) (fun c_243 => ?_)
            · exact t_vret hx hb hr hlk d_Mo_flex_365 (hP.subm (ws' := [(mo, .inr (8, [.int z_fault, .int z_size, .ref m_row, .ref m_shelves, .ref m_many, .ref m_widths, .int (nI mk), .ref m_mark, .int z_shown, .ref m_shownMark, .int z_wasRun, .int z_wrong_6, .int z_ended, .int (nI sp), .int z_hints, .int z_hasWidth, .int z_width, .int z_first, .int z_moved, .int z_deepest, .int z_x, .int z_y, .int (nI t), .ref m_stack, .ref m_places, .int (nI d), .ref m_kinds, .ref m_ats, .ref m_ends])), (m_stack, .inl (cI, 48, .inl g_stack)), (m_mark, .inl (cI, 28000, .inl g_mark))]) [2, 0, 1] rfl) (hD.sub (ws' := [(mo, .inr (8, [.int z_fault, .int z_size, .ref m_row, .ref m_shelves, .ref m_many, .ref m_widths, .int (nI mk), .ref m_mark, .int z_shown, .ref m_shownMark, .int z_wasRun, .int z_wrong_6, .int z_ended, .int (nI sp), .int z_hints, .int z_hasWidth, .int z_width, .int z_first, .int z_moved, .int z_deepest, .int z_x, .int z_y, .int (nI t), .ref m_stack, .ref m_places, .int (nI d), .ref m_kinds, .ref m_ats, .ref m_ends])), (m_stack, .inl (cI, 48, .inl g_stack)), (m_mark, .inl (cI, 28000, .inl g_mark))]) [2, 0, 1] rfl rfl) hS ⟨rfl, rfl, rfl, _, _, _, mk, t, _, rfl, (by omega)⟩
            · refine lv_aload_n hx hb d_Mo_flex_246 rfl (lv_at hl 0 rfl) ?_
              refine lv_iconst (v := 0) hx hb d_Mo_flex_247 (by decide) ?_
              refine va_iald hx hb hZ.1 hP 0 1 rfl rfl (show vp_in (nI 0) 48 from vp_in_nI (by decide) (by decide)) d_Mo_flex_248 ?_
              refine lv_tv (y := g_stack 0) rfl ?_
              refine lv_aload_n hx hb d_Mo_flex_249 rfl (lv_at hl 0 rfl) ?_
              refine lv_iconst (v := 2) hx hb d_Mo_flex_250 (by decide) ?_
              refine va_iald hx hb hZ.1 hP 0 1 rfl rfl (show vp_in (nI 2) 48 from vp_in_nI (by decide) (by decide)) d_Mo_flex_251 ?_
              refine lv_tv (y := g_stack 2) rfl ?_
              refine lv_iadd hx hb d_Mo_flex_252 ?_
              refine lv_aload_n hx hb d_Mo_flex_253 rfl (lv_at hl 0 rfl) ?_
              refine lv_iconst (v := 4) hx hb d_Mo_flex_254 (by decide) ?_
              refine va_iald hx hb hZ.1 hP 0 1 rfl rfl (show vp_in (nI 4) 48 from vp_in_nI (by decide) (by decide)) d_Mo_flex_255 ?_
              refine lv_tv (y := g_stack 4) rfl ?_
              refine lv_iadd hx hb d_Mo_flex_256 ?_
              refine lv_aload_n hx hb d_Mo_flex_257 rfl (lv_at hl 0 rfl) ?_
              refine lv_bipush (v := 6) hx hb d_Mo_flex_258 (by decide) ?_
              refine va_iald hx hb hZ.1 hP 0 1 rfl rfl (show vp_in (nI 6) 48 from vp_in_nI (by decide) (by decide)) d_Mo_flex_260 ?_
              refine lv_tv (y := g_stack 6) rfl ?_
              refine lv_iadd hx hb d_Mo_flex_261 ?_
              refine lv_aload_n hx hb d_Mo_flex_262 rfl (lv_at hl 0 rfl) ?_
              refine lv_bipush (v := 8) hx hb d_Mo_flex_263 (by decide) ?_
              refine va_iald hx hb hZ.1 hP 0 1 rfl rfl (show vp_in (nI 8) 48 from vp_in_nI (by decide) (by decide)) d_Mo_flex_265 ?_
              refine lv_tv (y := g_stack 8) rfl ?_
              refine lv_iadd hx hb d_Mo_flex_266 ?_
              refine lv_istore_n (lv' := [(3, .int (((((g_stack 0) + (g_stack 2)) + (g_stack 4)) + (g_stack 6)) + (g_stack 8))), (2, .ref m_stack), (0, .ref mo), (1, .int c)]) hx hb d_Mo_flex_267 rfl hl (by decide) rfl (fun ls hl => ?_)
              refine lv_aload_n hx hb d_Mo_flex_268 rfl (lv_at hl 1 rfl) ?_
              refine lv_iconst (v := 1) hx hb d_Mo_flex_269 (by decide) ?_
              refine va_iald hx hb hZ.1 hP 0 1 rfl rfl (show vp_in (nI 1) 48 from vp_in_nI (by decide) (by decide)) d_Mo_flex_270 ?_
              refine lv_tv (y := g_stack 1) rfl ?_
              refine lv_aload_n hx hb d_Mo_flex_271 rfl (lv_at hl 1 rfl) ?_
              refine lv_iconst (v := 3) hx hb d_Mo_flex_272 (by decide) ?_
              refine va_iald hx hb hZ.1 hP 0 1 rfl rfl (show vp_in (nI 3) 48 from vp_in_nI (by decide) (by decide)) d_Mo_flex_273 ?_
              refine lv_tv (y := g_stack 3) rfl ?_
              refine lv_iadd hx hb d_Mo_flex_274 ?_
              refine lv_aload_n hx hb d_Mo_flex_275 rfl (lv_at hl 1 rfl) ?_
              refine lv_iconst (v := 5) hx hb d_Mo_flex_276 (by decide) ?_
              refine va_iald hx hb hZ.1 hP 0 1 rfl rfl (show vp_in (nI 5) 48 from vp_in_nI (by decide) (by decide)) d_Mo_flex_277 ?_
              refine lv_tv (y := g_stack 5) rfl ?_
              refine lv_iadd hx hb d_Mo_flex_278 ?_
              refine lv_aload_n hx hb d_Mo_flex_279 rfl (lv_at hl 1 rfl) ?_
              refine lv_bipush (v := 7) hx hb d_Mo_flex_280 (by decide) ?_
              refine va_iald hx hb hZ.1 hP 0 1 rfl rfl (show vp_in (nI 7) 48 from vp_in_nI (by decide) (by decide)) d_Mo_flex_282 ?_
              refine lv_tv (y := g_stack 7) rfl ?_
              refine lv_iadd hx hb d_Mo_flex_283 ?_
              refine lv_aload_n hx hb d_Mo_flex_284 rfl (lv_at hl 1 rfl) ?_
              refine lv_bipush (v := 9) hx hb d_Mo_flex_285 (by decide) ?_
              refine va_iald hx hb hZ.1 hP 0 1 rfl rfl (show vp_in (nI 9) 48 from vp_in_nI (by decide) (by decide)) d_Mo_flex_287 ?_
              refine lv_tv (y := g_stack 9) rfl ?_
              refine lv_iadd hx hb d_Mo_flex_288 ?_
              refine lv_istore (lv' := [(4, .int (((((g_stack 1) + (g_stack 3)) + (g_stack 5)) + (g_stack 7)) + (g_stack 9))), (3, .int (((((g_stack 0) + (g_stack 2)) + (g_stack 4)) + (g_stack 6)) + (g_stack 8))), (2, .ref m_stack), (0, .ref mo), (1, .int c)]) hx hb d_Mo_flex_289 hl (by decide) rfl (fun ls hl => ?_)
              refine lv_iload_n hx hb d_Mo_flex_291 rfl (lv_at hl 1 rfl) ?_
              refine roS (As := [.int (((((g_stack 0) + (g_stack 2)) + (g_stack 4)) + (g_stack 6)) + (g_stack 8))]) (rest := []) ⟨hx, hb, hml, hown, hts⟩ gd_good (c_Mo_sizeOf l D cB cI cJ (((((g_stack 0) + (g_stack 2)) + (g_stack 4)) + (g_stack 6)) + (g_stack 8)) ) cal_Mo_sizeOf ml_Mo_175 ⟨Nat.le_of_ble_eq_true rfl, Nat.le_of_ble_eq_true rfl⟩ hZ hP hD (isC := []) ⟨rfl, rfl⟩ rfl hl.1 rfl (Nat.le_of_ble_eq_true rfl) d_Mo_flex_292 ⟨Nat.le_of_ble_eq_true rfl, Nat.le_of_ble_eq_true rfl⟩ (fun v hv => ?_)
              obtain ⟨o_292, rfl⟩ := hv
              refine lv_iload hx hb d_Mo_flex_295 (lv_at hl 0 rfl) ?_
              refine roS (As := [.int (((((g_stack 1) + (g_stack 3)) + (g_stack 5)) + (g_stack 7)) + (g_stack 9))]) (rest := [.long o_292]) ⟨hx, hb, hml, hown, hts⟩ gd_good (c_Mo_sizeOf l D cB cI cJ (((((g_stack 1) + (g_stack 3)) + (g_stack 5)) + (g_stack 7)) + (g_stack 9)) ) cal_Mo_sizeOf ml_Mo_175 ⟨Nat.le_of_ble_eq_true rfl, Nat.le_of_ble_eq_true rfl⟩ hZ hP hD (isC := []) ⟨rfl, rfl⟩ rfl hl.1 rfl (Nat.le_of_ble_eq_true rfl) d_Mo_flex_297 ⟨Nat.le_of_ble_eq_true rfl, Nat.le_of_ble_eq_true rfl⟩ (fun v hv => ?_)
              obtain ⟨o_297, rfl⟩ := hv
              refine W.lcmp hx hb d_Mo_flex_300 ?_
              refine lv_if_le (tgt := 308) hx hb d_Mo_flex_301 (by decide) (fun c_301 => ?_) (fun c_301 => ?_)
              · refine lv_iconst (v := 0) hx hb d_Mo_flex_308 (by decide) ?_
                refine lv_istore (lv' := [(5, .int 0), (4, .int (((((g_stack 1) + (g_stack 3)) + (g_stack 5)) + (g_stack 7)) + (g_stack 9))), (3, .int (((((g_stack 0) + (g_stack 2)) + (g_stack 4)) + (g_stack 6)) + (g_stack 8))), (2, .ref m_stack), (0, .ref mo), (1, .int c)]) hx hb d_Mo_flex_309 hl (by decide) rfl (fun ls hl => ?_)
                refine lv_aload_n hx hb d_Mo_flex_311 rfl (lv_at hl 4 rfl) ?_
                refine lv_iconst (v := 0) hx hb d_Mo_flex_312 (by decide) ?_
                have hC : Cut [(m_stack, .inl (cI, 48, .inl g_stack)), (m_mark, .inl (cI, 28000, .inl g_mark)), (mo, .inr (8, [.int z_fault, .int z_size, .ref m_row, .ref m_shelves, .ref m_many, .ref m_widths, .int (nI mk), .ref m_mark, .int z_shown, .ref m_shownMark, .int z_wasRun, .int z_wrong_6, .int z_ended, .int (nI sp), .int z_hints, .int z_hasWidth, .int z_width, .int z_first, .int z_moved, .int z_deepest, .int z_x, .int z_y, .int (nI t), .ref m_stack, .ref m_places, .int (nI d), .ref m_kinds, .ref m_ats, .ref m_ends]))] [(mo, .inr (8, [.int z_fault, .int z_size, .ref m_row, .ref m_shelves, .ref m_many, .ref m_widths, .int (nI mk), .ref m_mark, .int z_shown, .ref m_shownMark, .int z_wasRun, .int z_wrong_6, .int z_ended, .int (nI sp), .int z_hints, .int z_hasWidth, .int z_width, .int z_first, .int z_moved, .int z_deepest, .int z_x, .int z_y, .int (nI t), .ref m_stack, .ref m_places, .int (nI d), .ref m_kinds, .ref m_ats, .ref m_ends])), (m_stack, .inl (cI, 48, .inl g_stack)), (m_mark, .inl (cI, 28000, .inl g_mark))] [] [2, 0, 1] [] := ⟨rfl, rfl, rfl, rfl, by decide⟩
                refine goV0 (trV (As := [.int 0]) (rest := []) ⟨hx, hb, hml, hown, hts⟩ gd_good (c_Mo_six l D cB cI cJ mo m_row m_shelves m_many m_widths m_mark m_shownMark m_stack m_places m_kinds m_ats m_ends mk sp t d z_fault z_size z_shown z_wasRun z_wrong_6 z_ended z_hints z_hasWidth z_width z_first z_moved z_deepest z_x z_y g_stack g_mark 0 (by omega) (by omega)) cal_Mo_six ml_Mo_169 ⟨Nat.le_of_ble_eq_true rfl, Nat.le_of_ble_eq_true rfl⟩ hZ hP hD hC 2 (ci := 8) rfl rfl rfl rfl hl.1 rfl (Nat.le_of_ble_eq_true rfl) d_Mo_flex_313 ⟨Nat.le_of_ble_eq_true rfl, Nat.le_of_ble_eq_true rfl⟩) hZ hP hD hS hC (fun w1 H locs hq hP hD hS => ?_)
                obtain ⟨z_x_7, z_y_7, z_wrong_7, mk_7, g_mark_7, rfl, hv_7⟩ := hq
                have hP : va_P D classes [(mo, .inr (8, [.int z_fault, .int z_size, .ref m_row, .ref m_shelves, .ref m_many, .ref m_widths, .int (nI mk_7), .ref m_mark, .int z_shown, .ref m_shownMark, .int z_wasRun, .int z_wrong_7, .int z_ended, .int (nI sp), .int z_hints, .int z_hasWidth, .int z_width, .int z_first, .int z_moved, .int z_deepest, .int z_x_7, .int z_y_7, .int (nI t), .ref m_stack, .ref m_places, .int (nI d), .ref m_kinds, .ref m_ats, .ref m_ends])), (m_stack, .inl (cI, 48, .inl g_stack)), (m_mark, .inl (cI, 28000, .inl g_mark_7))] H := hP
                have hD : va_D A_ [(mo, .inr (8, [.int z_fault, .int z_size, .ref m_row, .ref m_shelves, .ref m_many, .ref m_widths, .int (nI mk_7), .ref m_mark, .int z_shown, .ref m_shownMark, .int z_wasRun, .int z_wrong_7, .int z_ended, .int (nI sp), .int z_hints, .int z_hasWidth, .int z_width, .int z_first, .int z_moved, .int z_deepest, .int z_x_7, .int z_y_7, .int (nI t), .ref m_stack, .ref m_places, .int (nI d), .ref m_kinds, .ref m_ats, .ref m_ends])), (m_stack, .inl (cI, 48, .inl g_stack)), (m_mark, .inl (cI, 28000, .inl g_mark_7))] := hD
                refine lv_aload_n hx hb d_Mo_flex_316 rfl (lv_at hl 4 rfl) ?_
                refine lv_aload_n hx hb d_Mo_flex_317 rfl (lv_at hl 3 rfl) ?_
                refine lv_bipush (v := 6) hx hb d_Mo_flex_318 (by decide) ?_
                refine va_iald hx hb hZ.1 hP 1 1 rfl rfl (show vp_in (nI 6) 48 from vp_in_nI (by decide) (by decide)) d_Mo_flex_320 ?_
                refine lv_tv (y := g_stack 6) rfl ?_
                refine lv_aload_n hx hb d_Mo_flex_321 rfl (lv_at hl 3 rfl) ?_
                refine lv_bipush (v := 7) hx hb d_Mo_flex_322 (by decide) ?_
                refine va_iald hx hb hZ.1 hP 1 1 rfl rfl (show vp_in (nI 7) 48 from vp_in_nI (by decide) (by decide)) d_Mo_flex_324 ?_
                refine lv_tv (y := g_stack 7) rfl ?_
                refine lv_aload_n hx hb d_Mo_flex_325 rfl (lv_at hl 3 rfl) ?_
                refine lv_bipush (v := 8) hx hb d_Mo_flex_326 (by decide) ?_
                refine va_iald hx hb hZ.1 hP 1 1 rfl rfl (show vp_in (nI 8) 48 from vp_in_nI (by decide) (by decide)) d_Mo_flex_328 ?_
                refine lv_tv (y := g_stack 8) rfl ?_
                refine lv_aload_n hx hb d_Mo_flex_329 rfl (lv_at hl 3 rfl) ?_
                refine lv_bipush (v := 9) hx hb d_Mo_flex_330 (by decide) ?_
                refine va_iald hx hb hZ.1 hP 1 1 rfl rfl (show vp_in (nI 9) 48 from vp_in_nI (by decide) (by decide)) d_Mo_flex_332 ?_
                refine lv_tv (y := g_stack 9) rfl ?_
                refine lv_iload hx hb d_Mo_flex_333 (lv_at hl 0 rfl) ?_
                refine lv_if_eq (tgt := 345) hx hb d_Mo_flex_335 (by decide) (fun c_335 => ?_) (fun c_335 => absurd (by decide) c_335)
                clear c_335
                refine lv_iload_n hx hb d_Mo_flex_345 rfl (lv_at hl 2 rfl) ?_
                refine lv_ineg hx hb d_Mo_flex_346 ?_
                refine lv_iload hx hb d_Mo_flex_347 (lv_at hl 0 rfl) ?_
                refine lv_if_eq (tgt := 358) hx hb d_Mo_flex_349 (by decide) (fun c_349 => ?_) (fun c_349 => absurd (by decide) c_349)
                clear c_349
                refine lv_aload_n hx hb d_Mo_flex_358 rfl (lv_at hl 3 rfl) ?_
                refine lv_bipush (v := 10) hx hb d_Mo_flex_359 (by decide) ?_
                refine va_iald hx hb hZ.1 hP 1 1 rfl rfl (show vp_in (nI 10) 48 from vp_in_nI (by decide) (by decide)) d_Mo_flex_361 ?_
                refine lv_tv (y := g_stack 10) rfl ?_
                have hC : Cut [(mo, .inr (8, [.int z_fault, .int z_size, .ref m_row, .ref m_shelves, .ref m_many, .ref m_widths, .int (nI mk_7), .ref m_mark, .int z_shown, .ref m_shownMark, .int z_wasRun, .int z_wrong_7, .int z_ended, .int (nI sp), .int z_hints, .int z_hasWidth, .int z_width, .int z_first, .int z_moved, .int z_deepest, .int z_x_7, .int z_y_7, .int (nI t), .ref m_stack, .ref m_places, .int (nI d), .ref m_kinds, .ref m_ats, .ref m_ends])), (m_stack, .inl (cI, 48, .inl g_stack)), (m_mark, .inl (cI, 28000, .inl g_mark_7))] [(mo, .inr (8, [.int z_fault, .int z_size, .ref m_row, .ref m_shelves, .ref m_many, .ref m_widths, .int (nI mk_7), .ref m_mark, .int z_shown, .ref m_shownMark, .int z_wasRun, .int z_wrong_7, .int z_ended, .int (nI sp), .int z_hints, .int z_hasWidth, .int z_width, .int z_first, .int z_moved, .int z_deepest, .int z_x_7, .int z_y_7, .int (nI t), .ref m_stack, .ref m_places, .int (nI d), .ref m_kinds, .ref m_ats, .ref m_ends])), (m_mark, .inl (cI, 28000, .inl g_mark_7))] [(m_stack, .inl (cI, 48, .inl g_stack))] [0, 2] [1] := ⟨rfl, rfl, rfl, rfl, by decide⟩
                refine goV0 (trV (As := [.int (g_stack 6), .int (g_stack 7), .int (g_stack 8), .int (g_stack 9), .int (-(((((g_stack 0) + (g_stack 2)) + (g_stack 4)) + (g_stack 6)) + (g_stack 8))), .int (g_stack 10)]) (rest := []) ⟨hx, hb, hml, hown, hts⟩ gd_good (c_Mo_two l D cB cI cJ mo m_row m_shelves m_many m_widths m_mark m_shownMark m_stack m_places m_kinds m_ats m_ends mk_7 sp t d z_fault z_size z_shown z_wasRun z_wrong_7 z_ended z_hints z_hasWidth z_width z_first z_moved z_deepest z_x_7 z_y_7 g_mark_7 (g_stack 6) (g_stack 7) (g_stack 8) (g_stack 9) (-(((((g_stack 0) + (g_stack 2)) + (g_stack 4)) + (g_stack 6)) + (g_stack 8))) (g_stack 10) (by omega) ) cal_Mo_two ml_Mo_172 ⟨Nat.le_of_ble_eq_true rfl, Nat.le_of_ble_eq_true rfl⟩ hZ hP hD hC 0 (ci := 8) rfl rfl rfl rfl hl.1 rfl (Nat.le_of_ble_eq_true rfl) d_Mo_flex_362 ⟨Nat.le_of_ble_eq_true rfl, Nat.le_of_ble_eq_true rfl⟩) hZ hP hD hS hC (fun w1 H locs hq hP hD hS => ?_)
                obtain ⟨z_x_8, z_y_8, z_wrong_8, mk_8, t_8, g_mark_8, rfl, hv_8⟩ := hq
                have hP : va_P D classes [(m_stack, .inl (cI, 48, .inl g_stack)), (mo, .inr (8, [.int z_fault, .int z_size, .ref m_row, .ref m_shelves, .ref m_many, .ref m_widths, .int (nI mk_8), .ref m_mark, .int z_shown, .ref m_shownMark, .int z_wasRun, .int z_wrong_8, .int z_ended, .int (nI sp), .int z_hints, .int z_hasWidth, .int z_width, .int z_first, .int z_moved, .int z_deepest, .int z_x_8, .int z_y_8, .int (nI t_8), .ref m_stack, .ref m_places, .int (nI d), .ref m_kinds, .ref m_ats, .ref m_ends])), (m_mark, .inl (cI, 28000, .inl g_mark_8))] H := hP
                have hD : va_D A_ [(m_stack, .inl (cI, 48, .inl g_stack)), (mo, .inr (8, [.int z_fault, .int z_size, .ref m_row, .ref m_shelves, .ref m_many, .ref m_widths, .int (nI mk_8), .ref m_mark, .int z_shown, .ref m_shownMark, .int z_wasRun, .int z_wrong_8, .int z_ended, .int (nI sp), .int z_hints, .int z_hasWidth, .int z_width, .int z_first, .int z_moved, .int z_deepest, .int z_x_8, .int z_y_8, .int (nI t_8), .ref m_stack, .ref m_places, .int (nI d), .ref m_kinds, .ref m_ats, .ref m_ends])), (m_mark, .inl (cI, 28000, .inl g_mark_8))] := hD
                exact t_vret hx hb hr hlk d_Mo_flex_365 (hP.subm (ws' := [(mo, .inr (8, [.int z_fault, .int z_size, .ref m_row, .ref m_shelves, .ref m_many, .ref m_widths, .int (nI mk_8), .ref m_mark, .int z_shown, .ref m_shownMark, .int z_wasRun, .int z_wrong_8, .int z_ended, .int (nI sp), .int z_hints, .int z_hasWidth, .int z_width, .int z_first, .int z_moved, .int z_deepest, .int z_x_8, .int z_y_8, .int (nI t_8), .ref m_stack, .ref m_places, .int (nI d), .ref m_kinds, .ref m_ats, .ref m_ends])), (m_stack, .inl (cI, 48, .inl g_stack)), (m_mark, .inl (cI, 28000, .inl g_mark_8))]) [1, 0, 2] rfl) (hD.sub (ws' := [(mo, .inr (8, [.int z_fault, .int z_size, .ref m_row, .ref m_shelves, .ref m_many, .ref m_widths, .int (nI mk_8), .ref m_mark, .int z_shown, .ref m_shownMark, .int z_wasRun, .int z_wrong_8, .int z_ended, .int (nI sp), .int z_hints, .int z_hasWidth, .int z_width, .int z_first, .int z_moved, .int z_deepest, .int z_x_8, .int z_y_8, .int (nI t_8), .ref m_stack, .ref m_places, .int (nI d), .ref m_kinds, .ref m_ats, .ref m_ends])), (m_stack, .inl (cI, 48, .inl g_stack)), (m_mark, .inl (cI, 28000, .inl g_mark_8))]) [1, 0, 2] rfl rfl) hS ⟨rfl, rfl, rfl, _, _, _, mk_8, t_8, _, rfl, (by omega)⟩
              · refine lv_iconst (v := 1) hx hb d_Mo_flex_304 (by decide) ?_
                refine lv_goto (tgt := 309) hx hb d_Mo_flex_305 (by decide) ?_
                refine lv_istore (lv' := [(5, .int 1), (4, .int (((((g_stack 1) + (g_stack 3)) + (g_stack 5)) + (g_stack 7)) + (g_stack 9))), (3, .int (((((g_stack 0) + (g_stack 2)) + (g_stack 4)) + (g_stack 6)) + (g_stack 8))), (2, .ref m_stack), (0, .ref mo), (1, .int c)]) hx hb d_Mo_flex_309 hl (by decide) rfl (fun ls hl => ?_)
                refine lv_aload_n hx hb d_Mo_flex_311 rfl (lv_at hl 4 rfl) ?_
                refine lv_iconst (v := 0) hx hb d_Mo_flex_312 (by decide) ?_
                have hC : Cut [(m_stack, .inl (cI, 48, .inl g_stack)), (m_mark, .inl (cI, 28000, .inl g_mark)), (mo, .inr (8, [.int z_fault, .int z_size, .ref m_row, .ref m_shelves, .ref m_many, .ref m_widths, .int (nI mk), .ref m_mark, .int z_shown, .ref m_shownMark, .int z_wasRun, .int z_wrong_6, .int z_ended, .int (nI sp), .int z_hints, .int z_hasWidth, .int z_width, .int z_first, .int z_moved, .int z_deepest, .int z_x, .int z_y, .int (nI t), .ref m_stack, .ref m_places, .int (nI d), .ref m_kinds, .ref m_ats, .ref m_ends]))] [(mo, .inr (8, [.int z_fault, .int z_size, .ref m_row, .ref m_shelves, .ref m_many, .ref m_widths, .int (nI mk), .ref m_mark, .int z_shown, .ref m_shownMark, .int z_wasRun, .int z_wrong_6, .int z_ended, .int (nI sp), .int z_hints, .int z_hasWidth, .int z_width, .int z_first, .int z_moved, .int z_deepest, .int z_x, .int z_y, .int (nI t), .ref m_stack, .ref m_places, .int (nI d), .ref m_kinds, .ref m_ats, .ref m_ends])), (m_stack, .inl (cI, 48, .inl g_stack)), (m_mark, .inl (cI, 28000, .inl g_mark))] [] [2, 0, 1] [] := ⟨rfl, rfl, rfl, rfl, by decide⟩
                refine goV0 (trV (As := [.int 0]) (rest := []) ⟨hx, hb, hml, hown, hts⟩ gd_good (c_Mo_six l D cB cI cJ mo m_row m_shelves m_many m_widths m_mark m_shownMark m_stack m_places m_kinds m_ats m_ends mk sp t d z_fault z_size z_shown z_wasRun z_wrong_6 z_ended z_hints z_hasWidth z_width z_first z_moved z_deepest z_x z_y g_stack g_mark 0 (by omega) (by omega)) cal_Mo_six ml_Mo_169 ⟨Nat.le_of_ble_eq_true rfl, Nat.le_of_ble_eq_true rfl⟩ hZ hP hD hC 2 (ci := 8) rfl rfl rfl rfl hl.1 rfl (Nat.le_of_ble_eq_true rfl) d_Mo_flex_313 ⟨Nat.le_of_ble_eq_true rfl, Nat.le_of_ble_eq_true rfl⟩) hZ hP hD hS hC (fun w1 H locs hq hP hD hS => ?_)
                obtain ⟨z_x_9, z_y_9, z_wrong_9, mk_9, g_mark_9, rfl, hv_9⟩ := hq
                have hP : va_P D classes [(mo, .inr (8, [.int z_fault, .int z_size, .ref m_row, .ref m_shelves, .ref m_many, .ref m_widths, .int (nI mk_9), .ref m_mark, .int z_shown, .ref m_shownMark, .int z_wasRun, .int z_wrong_9, .int z_ended, .int (nI sp), .int z_hints, .int z_hasWidth, .int z_width, .int z_first, .int z_moved, .int z_deepest, .int z_x_9, .int z_y_9, .int (nI t), .ref m_stack, .ref m_places, .int (nI d), .ref m_kinds, .ref m_ats, .ref m_ends])), (m_stack, .inl (cI, 48, .inl g_stack)), (m_mark, .inl (cI, 28000, .inl g_mark_9))] H := hP
                have hD : va_D A_ [(mo, .inr (8, [.int z_fault, .int z_size, .ref m_row, .ref m_shelves, .ref m_many, .ref m_widths, .int (nI mk_9), .ref m_mark, .int z_shown, .ref m_shownMark, .int z_wasRun, .int z_wrong_9, .int z_ended, .int (nI sp), .int z_hints, .int z_hasWidth, .int z_width, .int z_first, .int z_moved, .int z_deepest, .int z_x_9, .int z_y_9, .int (nI t), .ref m_stack, .ref m_places, .int (nI d), .ref m_kinds, .ref m_ats, .ref m_ends])), (m_stack, .inl (cI, 48, .inl g_stack)), (m_mark, .inl (cI, 28000, .inl g_mark_9))] := hD
                refine lv_aload_n hx hb d_Mo_flex_316 rfl (lv_at hl 4 rfl) ?_
                refine lv_aload_n hx hb d_Mo_flex_317 rfl (lv_at hl 3 rfl) ?_
                refine lv_bipush (v := 6) hx hb d_Mo_flex_318 (by decide) ?_
                refine va_iald hx hb hZ.1 hP 1 1 rfl rfl (show vp_in (nI 6) 48 from vp_in_nI (by decide) (by decide)) d_Mo_flex_320 ?_
                refine lv_tv (y := g_stack 6) rfl ?_
                refine lv_aload_n hx hb d_Mo_flex_321 rfl (lv_at hl 3 rfl) ?_
                refine lv_bipush (v := 7) hx hb d_Mo_flex_322 (by decide) ?_
                refine va_iald hx hb hZ.1 hP 1 1 rfl rfl (show vp_in (nI 7) 48 from vp_in_nI (by decide) (by decide)) d_Mo_flex_324 ?_
                refine lv_tv (y := g_stack 7) rfl ?_
                refine lv_aload_n hx hb d_Mo_flex_325 rfl (lv_at hl 3 rfl) ?_
                refine lv_bipush (v := 8) hx hb d_Mo_flex_326 (by decide) ?_
                refine va_iald hx hb hZ.1 hP 1 1 rfl rfl (show vp_in (nI 8) 48 from vp_in_nI (by decide) (by decide)) d_Mo_flex_328 ?_
                refine lv_tv (y := g_stack 8) rfl ?_
                refine lv_aload_n hx hb d_Mo_flex_329 rfl (lv_at hl 3 rfl) ?_
                refine lv_bipush (v := 9) hx hb d_Mo_flex_330 (by decide) ?_
                refine va_iald hx hb hZ.1 hP 1 1 rfl rfl (show vp_in (nI 9) 48 from vp_in_nI (by decide) (by decide)) d_Mo_flex_332 ?_
                refine lv_tv (y := g_stack 9) rfl ?_
                refine lv_iload hx hb d_Mo_flex_333 (lv_at hl 0 rfl) ?_
                refine lv_if_eq (tgt := 345) hx hb d_Mo_flex_335 (by decide) (fun c_335 => absurd c_335 (by decide)) (fun c_335 => ?_)
                clear c_335
                refine lv_aload_n hx hb d_Mo_flex_338 rfl (lv_at hl 3 rfl) ?_
                refine lv_bipush (v := 10) hx hb d_Mo_flex_339 (by decide) ?_
                refine va_iald hx hb hZ.1 hP 1 1 rfl rfl (show vp_in (nI 10) 48 from vp_in_nI (by decide) (by decide)) d_Mo_flex_341 ?_
                refine lv_tv (y := g_stack 10) rfl ?_
                refine lv_goto (tgt := 347) hx hb d_Mo_flex_342 (by decide) ?_
                refine lv_iload hx hb d_Mo_flex_347 (lv_at hl 0 rfl) ?_
                refine lv_if_eq (tgt := 358) hx hb d_Mo_flex_349 (by decide) (fun c_349 => absurd c_349 (by decide)) (fun c_349 => ?_)
                clear c_349
                refine lv_iload hx hb d_Mo_flex_352 (lv_at hl 1 rfl) ?_
                refine lv_ineg hx hb d_Mo_flex_354 ?_
                refine lv_goto (tgt := 362) hx hb d_Mo_flex_355 (by decide) ?_
                have hC : Cut [(mo, .inr (8, [.int z_fault, .int z_size, .ref m_row, .ref m_shelves, .ref m_many, .ref m_widths, .int (nI mk_9), .ref m_mark, .int z_shown, .ref m_shownMark, .int z_wasRun, .int z_wrong_9, .int z_ended, .int (nI sp), .int z_hints, .int z_hasWidth, .int z_width, .int z_first, .int z_moved, .int z_deepest, .int z_x_9, .int z_y_9, .int (nI t), .ref m_stack, .ref m_places, .int (nI d), .ref m_kinds, .ref m_ats, .ref m_ends])), (m_stack, .inl (cI, 48, .inl g_stack)), (m_mark, .inl (cI, 28000, .inl g_mark_9))] [(mo, .inr (8, [.int z_fault, .int z_size, .ref m_row, .ref m_shelves, .ref m_many, .ref m_widths, .int (nI mk_9), .ref m_mark, .int z_shown, .ref m_shownMark, .int z_wasRun, .int z_wrong_9, .int z_ended, .int (nI sp), .int z_hints, .int z_hasWidth, .int z_width, .int z_first, .int z_moved, .int z_deepest, .int z_x_9, .int z_y_9, .int (nI t), .ref m_stack, .ref m_places, .int (nI d), .ref m_kinds, .ref m_ats, .ref m_ends])), (m_mark, .inl (cI, 28000, .inl g_mark_9))] [(m_stack, .inl (cI, 48, .inl g_stack))] [0, 2] [1] := ⟨rfl, rfl, rfl, rfl, by decide⟩
                refine goV0 (trV (As := [.int (g_stack 6), .int (g_stack 7), .int (g_stack 8), .int (g_stack 9), .int (g_stack 10), .int (-(((((g_stack 1) + (g_stack 3)) + (g_stack 5)) + (g_stack 7)) + (g_stack 9)))]) (rest := []) ⟨hx, hb, hml, hown, hts⟩ gd_good (c_Mo_two l D cB cI cJ mo m_row m_shelves m_many m_widths m_mark m_shownMark m_stack m_places m_kinds m_ats m_ends mk_9 sp t d z_fault z_size z_shown z_wasRun z_wrong_9 z_ended z_hints z_hasWidth z_width z_first z_moved z_deepest z_x_9 z_y_9 g_mark_9 (g_stack 6) (g_stack 7) (g_stack 8) (g_stack 9) (g_stack 10) (-(((((g_stack 1) + (g_stack 3)) + (g_stack 5)) + (g_stack 7)) + (g_stack 9))) (by omega) ) cal_Mo_two ml_Mo_172 ⟨Nat.le_of_ble_eq_true rfl, Nat.le_of_ble_eq_true rfl⟩ hZ hP hD hC 0 (ci := 8) rfl rfl rfl rfl hl.1 rfl (Nat.le_of_ble_eq_true rfl) d_Mo_flex_362 ⟨Nat.le_of_ble_eq_true rfl, Nat.le_of_ble_eq_true rfl⟩) hZ hP hD hS hC (fun w1 H locs hq hP hD hS => ?_)
                obtain ⟨z_x_10, z_y_10, z_wrong_10, mk_10, t_10, g_mark_10, rfl, hv_10⟩ := hq
                have hP : va_P D classes [(m_stack, .inl (cI, 48, .inl g_stack)), (mo, .inr (8, [.int z_fault, .int z_size, .ref m_row, .ref m_shelves, .ref m_many, .ref m_widths, .int (nI mk_10), .ref m_mark, .int z_shown, .ref m_shownMark, .int z_wasRun, .int z_wrong_10, .int z_ended, .int (nI sp), .int z_hints, .int z_hasWidth, .int z_width, .int z_first, .int z_moved, .int z_deepest, .int z_x_10, .int z_y_10, .int (nI t_10), .ref m_stack, .ref m_places, .int (nI d), .ref m_kinds, .ref m_ats, .ref m_ends])), (m_mark, .inl (cI, 28000, .inl g_mark_10))] H := hP
                have hD : va_D A_ [(m_stack, .inl (cI, 48, .inl g_stack)), (mo, .inr (8, [.int z_fault, .int z_size, .ref m_row, .ref m_shelves, .ref m_many, .ref m_widths, .int (nI mk_10), .ref m_mark, .int z_shown, .ref m_shownMark, .int z_wasRun, .int z_wrong_10, .int z_ended, .int (nI sp), .int z_hints, .int z_hasWidth, .int z_width, .int z_first, .int z_moved, .int z_deepest, .int z_x_10, .int z_y_10, .int (nI t_10), .ref m_stack, .ref m_places, .int (nI d), .ref m_kinds, .ref m_ats, .ref m_ends])), (m_mark, .inl (cI, 28000, .inl g_mark_10))] := hD
                exact t_vret hx hb hr hlk d_Mo_flex_365 (hP.subm (ws' := [(mo, .inr (8, [.int z_fault, .int z_size, .ref m_row, .ref m_shelves, .ref m_many, .ref m_widths, .int (nI mk_10), .ref m_mark, .int z_shown, .ref m_shownMark, .int z_wasRun, .int z_wrong_10, .int z_ended, .int (nI sp), .int z_hints, .int z_hasWidth, .int z_width, .int z_first, .int z_moved, .int z_deepest, .int z_x_10, .int z_y_10, .int (nI t_10), .ref m_stack, .ref m_places, .int (nI d), .ref m_kinds, .ref m_ats, .ref m_ends])), (m_stack, .inl (cI, 48, .inl g_stack)), (m_mark, .inl (cI, 28000, .inl g_mark_10))]) [1, 0, 2] rfl) (hD.sub (ws' := [(mo, .inr (8, [.int z_fault, .int z_size, .ref m_row, .ref m_shelves, .ref m_many, .ref m_widths, .int (nI mk_10), .ref m_mark, .int z_shown, .ref m_shownMark, .int z_wasRun, .int z_wrong_10, .int z_ended, .int (nI sp), .int z_hints, .int z_hasWidth, .int z_width, .int z_first, .int z_moved, .int z_deepest, .int z_x_10, .int z_y_10, .int (nI t_10), .ref m_stack, .ref m_places, .int (nI d), .ref m_kinds, .ref m_ats, .ref m_ends])), (m_stack, .inl (cI, 48, .inl g_stack)), (m_mark, .inl (cI, 28000, .inl g_mark_10))]) [1, 0, 2] rfl rfl) hS ⟨rfl, rfl, rfl, _, _, _, mk_10, t_10, _, rfl, (by omega)⟩
      · refine lv_aload_n hx hb d_Mo_flex_142 rfl (lv_at hl 1 rfl) ?_
        refine lv_aload_n hx hb d_Mo_flex_143 rfl (lv_at hl 1 rfl) ?_
        refine va_get (D := D) (ci := 8) (v := .int (nI t)) (C := R_Mo) (T := F_Mo) (N := 29) hx hb hts i_Mo hown hZ.1 hP 0 rfl rfl 22 (by decide) (hts _ fl_Mo_82) (fun _ h9 => h9) rfl d_Mo_flex_144 ?_
        refine lv_bipush (v := 9) hx hb d_Mo_flex_147 (by decide) ?_
        refine lv_icmp_ne (tgt := 156) hx hb d_Mo_flex_149 (by decide) (fun c_149 => ?_) (fun c_149 => ?_)
        · have n_149 : ¬ (t) = (9) := fun z => c_149 ((nI_eq (a := t) (b := 9) (by omega) (by omega)).mpr z)
          refine lv_iconst (v := 0) hx hb d_Mo_flex_156 (by decide) ?_
          have hC : Cut [(mo, .inr (8, [.int z_fault, .int z_size, .ref m_row, .ref m_shelves, .ref m_many, .ref m_widths, .int (nI mk), .ref m_mark, .int z_shown, .ref m_shownMark, .int z_wasRun, .int z_wrong, .int z_ended, .int (nI sp), .int z_hints, .int z_hasWidth, .int z_width, .int z_first, .int z_moved, .int z_deepest, .int z_x, .int z_y, .int (nI t), .ref m_stack, .ref m_places, .int (nI d), .ref m_kinds, .ref m_ats, .ref m_ends])), (m_stack, .inl (cI, 48, .inl g_stack)), (m_mark, .inl (cI, 28000, .inl g_mark))] [(mo, .inr (8, [.int z_fault, .int z_size, .ref m_row, .ref m_shelves, .ref m_many, .ref m_widths, .int (nI mk), .ref m_mark, .int z_shown, .ref m_shownMark, .int z_wasRun, .int z_wrong, .int z_ended, .int (nI sp), .int z_hints, .int z_hasWidth, .int z_width, .int z_first, .int z_moved, .int z_deepest, .int z_x, .int z_y, .int (nI t), .ref m_stack, .ref m_places, .int (nI d), .ref m_kinds, .ref m_ats, .ref m_ends]))] [(m_stack, .inl (cI, 48, .inl g_stack)), (m_mark, .inl (cI, 28000, .inl g_mark))] [0] [1, 2] := ⟨rfl, rfl, rfl, rfl, by decide⟩
          refine goI0 (trV (As := [.int 0]) (rest := []) ⟨hx, hb, hml, hown, hts⟩ gd_good (c_Mo_may l D cB cI cJ mo m_row m_shelves m_many m_widths m_mark m_shownMark m_stack m_places m_kinds m_ats m_ends mk sp t d z_fault z_size z_shown z_wasRun z_wrong z_ended z_hints z_hasWidth z_width z_first z_moved z_deepest z_x z_y 0 (by omega) ) cal_Mo_may ml_Mo_162 ⟨Nat.le_of_ble_eq_true rfl, Nat.le_of_ble_eq_true rfl⟩ hZ hP hD hC 0 (ci := 8) rfl rfl rfl rfl hl.1 rfl (Nat.le_of_ble_eq_true rfl) d_Mo_flex_157 ⟨Nat.le_of_ble_eq_true rfl, Nat.le_of_ble_eq_true rfl⟩) hZ hP hD hS hC (fun r_157 w1 H locs hq hP hD hS => ?_)
          obtain ⟨z_wrong_11, rfl, hv_11, hx_11, hz_11⟩ := hq
          have hP : va_P D classes [(m_stack, .inl (cI, 48, .inl g_stack)), (m_mark, .inl (cI, 28000, .inl g_mark)), (mo, .inr (8, [.int z_fault, .int z_size, .ref m_row, .ref m_shelves, .ref m_many, .ref m_widths, .int (nI mk), .ref m_mark, .int z_shown, .ref m_shownMark, .int z_wasRun, .int z_wrong_11, .int z_ended, .int (nI sp), .int z_hints, .int z_hasWidth, .int z_width, .int z_first, .int z_moved, .int z_deepest, .int z_x, .int z_y, .int (nI t), .ref m_stack, .ref m_places, .int (nI d), .ref m_kinds, .ref m_ats, .ref m_ends]))] H := hP
          have hD : va_D A_ [(m_stack, .inl (cI, 48, .inl g_stack)), (m_mark, .inl (cI, 28000, .inl g_mark)), (mo, .inr (8, [.int z_fault, .int z_size, .ref m_row, .ref m_shelves, .ref m_many, .ref m_widths, .int (nI mk), .ref m_mark, .int z_shown, .ref m_shownMark, .int z_wasRun, .int z_wrong_11, .int z_ended, .int (nI sp), .int z_hints, .int z_hasWidth, .int z_width, .int z_first, .int z_moved, .int z_deepest, .int z_x, .int z_y, .int (nI t), .ref m_stack, .ref m_places, .int (nI d), .ref m_kinds, .ref m_ats, .ref m_ends]))] := hD
          refine lv_if_eq (tgt := 219) hx hb d_Mo_flex_160 (by decide) (fun c_160 => ?_) (fun c_160 => ?_)
          · refine lv_iload_n hx hb d_Mo_flex_219 rfl (lv_at hl 2 rfl) ?_
            refine lv_bipush (v := 37) hx hb d_Mo_flex_220 (by decide) ?_
            refine lv_icmp_ne (tgt := 365) hx hb d_Mo_flex_222 (by decide) (fun c_222 => ?_) (fun c_222 => absurd c_222 (fun z => absurd (c_139.symm.trans z) (by decide)))
            exact t_vret hx hb hr hlk d_Mo_flex_365 (hP.subm (ws' := [(mo, .inr (8, [.int z_fault, .int z_size, .ref m_row, .ref m_shelves, .ref m_many, .ref m_widths, .int (nI mk), .ref m_mark, .int z_shown, .ref m_shownMark, .int z_wasRun, .int z_wrong_11, .int z_ended, .int (nI sp), .int z_hints, .int z_hasWidth, .int z_width, .int z_first, .int z_moved, .int z_deepest, .int z_x, .int z_y, .int (nI t), .ref m_stack, .ref m_places, .int (nI d), .ref m_kinds, .ref m_ats, .ref m_ends])), (m_stack, .inl (cI, 48, .inl g_stack)), (m_mark, .inl (cI, 28000, .inl g_mark))]) [2, 0, 1] rfl) (hD.sub (ws' := [(mo, .inr (8, [.int z_fault, .int z_size, .ref m_row, .ref m_shelves, .ref m_many, .ref m_widths, .int (nI mk), .ref m_mark, .int z_shown, .ref m_shownMark, .int z_wasRun, .int z_wrong_11, .int z_ended, .int (nI sp), .int z_hints, .int z_hasWidth, .int z_width, .int z_first, .int z_moved, .int z_deepest, .int z_x, .int z_y, .int (nI t), .ref m_stack, .ref m_places, .int (nI d), .ref m_kinds, .ref m_ats, .ref m_ends])), (m_stack, .inl (cI, 48, .inl g_stack)), (m_mark, .inl (cI, 28000, .inl g_mark))]) [2, 0, 1] rfl rfl) hS ⟨rfl, rfl, rfl, _, _, _, mk, t, _, rfl, (by omega)⟩
          · refine lv_aload_n hx hb d_Mo_flex_163 rfl (lv_at hl 1 rfl) ?_
            refine lv_aload_n hx hb d_Mo_flex_164 rfl (lv_at hl 0 rfl) ?_
            refine lv_iconst (v := 0) hx hb d_Mo_flex_165 (by decide) ?_
            refine va_iald hx hb hZ.1 hP 0 1 rfl rfl (show vp_in (nI 0) 48 from vp_in_nI (by decide) (by decide)) d_Mo_flex_166 ?_
            refine lv_tv (y := g_stack 0) rfl ?_
            refine lv_aload_n hx hb d_Mo_flex_167 rfl (lv_at hl 0 rfl) ?_
            refine lv_iconst (v := 1) hx hb d_Mo_flex_168 (by decide) ?_
            refine va_iald hx hb hZ.1 hP 0 1 rfl rfl (show vp_in (nI 1) 48 from vp_in_nI (by decide) (by decide)) d_Mo_flex_169 ?_
            refine lv_tv (y := g_stack 1) rfl ?_
            refine lv_aload_n hx hb d_Mo_flex_170 rfl (lv_at hl 0 rfl) ?_
            refine lv_iconst (v := 2) hx hb d_Mo_flex_171 (by decide) ?_
            refine va_iald hx hb hZ.1 hP 0 1 rfl rfl (show vp_in (nI 2) 48 from vp_in_nI (by decide) (by decide)) d_Mo_flex_172 ?_
            refine lv_tv (y := g_stack 2) rfl ?_
            refine lv_aload_n hx hb d_Mo_flex_173 rfl (lv_at hl 0 rfl) ?_
            refine lv_iconst (v := 3) hx hb d_Mo_flex_174 (by decide) ?_
            refine va_iald hx hb hZ.1 hP 0 1 rfl rfl (show vp_in (nI 3) 48 from vp_in_nI (by decide) (by decide)) d_Mo_flex_175 ?_
            refine lv_tv (y := g_stack 3) rfl ?_
            refine lv_aload_n hx hb d_Mo_flex_176 rfl (lv_at hl 0 rfl) ?_
            refine lv_iconst (v := 4) hx hb d_Mo_flex_177 (by decide) ?_
            refine va_iald hx hb hZ.1 hP 0 1 rfl rfl (show vp_in (nI 4) 48 from vp_in_nI (by decide) (by decide)) d_Mo_flex_178 ?_
            refine lv_tv (y := g_stack 4) rfl ?_
            refine lv_iconst (v := 0) hx hb d_Mo_flex_179 (by decide) ?_
            have hC : Cut [(m_stack, .inl (cI, 48, .inl g_stack)), (m_mark, .inl (cI, 28000, .inl g_mark)), (mo, .inr (8, [.int z_fault, .int z_size, .ref m_row, .ref m_shelves, .ref m_many, .ref m_widths, .int (nI mk), .ref m_mark, .int z_shown, .ref m_shownMark, .int z_wasRun, .int z_wrong_11, .int z_ended, .int (nI sp), .int z_hints, .int z_hasWidth, .int z_width, .int z_first, .int z_moved, .int z_deepest, .int z_x, .int z_y, .int (nI t), .ref m_stack, .ref m_places, .int (nI d), .ref m_kinds, .ref m_ats, .ref m_ends]))] [(mo, .inr (8, [.int z_fault, .int z_size, .ref m_row, .ref m_shelves, .ref m_many, .ref m_widths, .int (nI mk), .ref m_mark, .int z_shown, .ref m_shownMark, .int z_wasRun, .int z_wrong_11, .int z_ended, .int (nI sp), .int z_hints, .int z_hasWidth, .int z_width, .int z_first, .int z_moved, .int z_deepest, .int z_x, .int z_y, .int (nI t), .ref m_stack, .ref m_places, .int (nI d), .ref m_kinds, .ref m_ats, .ref m_ends])), (m_mark, .inl (cI, 28000, .inl g_mark))] [(m_stack, .inl (cI, 48, .inl g_stack))] [2, 1] [0] := ⟨rfl, rfl, rfl, rfl, by decide⟩
            refine goV0 (trV (As := [.int (g_stack 0), .int (g_stack 1), .int (g_stack 2), .int (g_stack 3), .int (g_stack 4), .int 0]) (rest := []) ⟨hx, hb, hml, hown, hts⟩ gd_good (c_Mo_curve l D cB cI cJ mo m_row m_shelves m_many m_widths m_mark m_shownMark m_stack m_places m_kinds m_ats m_ends mk sp t d z_fault z_size z_shown z_wasRun z_wrong_11 z_ended z_hints z_hasWidth z_width z_first z_moved z_deepest z_x z_y g_mark (g_stack 0) (g_stack 1) (g_stack 2) (g_stack 3) (g_stack 4) 0 (by omega) ) cal_Mo_curve ml_Mo_158 ⟨Nat.le_of_ble_eq_true rfl, Nat.le_of_ble_eq_true rfl⟩ hZ hP hD hC 2 (ci := 8) rfl rfl rfl rfl hl.1 rfl (Nat.le_of_ble_eq_true rfl) d_Mo_flex_180 ⟨Nat.le_of_ble_eq_true rfl, Nat.le_of_ble_eq_true rfl⟩) hZ hP hD hS hC (fun w1 H locs hq hP hD hS => ?_)
            obtain ⟨z_x_12, z_y_12, z_wrong_12, mk_12, g_mark_12, rfl, hv_12⟩ := hq
            have hP : va_P D classes [(m_stack, .inl (cI, 48, .inl g_stack)), (mo, .inr (8, [.int z_fault, .int z_size, .ref m_row, .ref m_shelves, .ref m_many, .ref m_widths, .int (nI mk_12), .ref m_mark, .int z_shown, .ref m_shownMark, .int z_wasRun, .int z_wrong_12, .int z_ended, .int (nI sp), .int z_hints, .int z_hasWidth, .int z_width, .int z_first, .int z_moved, .int z_deepest, .int z_x_12, .int z_y_12, .int (nI t), .ref m_stack, .ref m_places, .int (nI d), .ref m_kinds, .ref m_ats, .ref m_ends])), (m_mark, .inl (cI, 28000, .inl g_mark_12))] H := hP
            have hD : va_D A_ [(m_stack, .inl (cI, 48, .inl g_stack)), (mo, .inr (8, [.int z_fault, .int z_size, .ref m_row, .ref m_shelves, .ref m_many, .ref m_widths, .int (nI mk_12), .ref m_mark, .int z_shown, .ref m_shownMark, .int z_wasRun, .int z_wrong_12, .int z_ended, .int (nI sp), .int z_hints, .int z_hasWidth, .int z_width, .int z_first, .int z_moved, .int z_deepest, .int z_x_12, .int z_y_12, .int (nI t), .ref m_stack, .ref m_places, .int (nI d), .ref m_kinds, .ref m_ats, .ref m_ends])), (m_mark, .inl (cI, 28000, .inl g_mark_12))] := hD
            refine lv_aload_n hx hb d_Mo_flex_183 rfl (lv_at hl 1 rfl) ?_
            refine lv_aload_n hx hb d_Mo_flex_184 rfl (lv_at hl 0 rfl) ?_
            refine lv_iconst (v := 5) hx hb d_Mo_flex_185 (by decide) ?_
            refine va_iald hx hb hZ.1 hP 0 1 rfl rfl (show vp_in (nI 5) 48 from vp_in_nI (by decide) (by decide)) d_Mo_flex_186 ?_
            refine lv_tv (y := g_stack 5) rfl ?_
            refine lv_iconst (v := 0) hx hb d_Mo_flex_187 (by decide) ?_
            refine lv_aload_n hx hb d_Mo_flex_188 rfl (lv_at hl 0 rfl) ?_
            refine lv_bipush (v := 6) hx hb d_Mo_flex_189 (by decide) ?_
            refine va_iald hx hb hZ.1 hP 0 1 rfl rfl (show vp_in (nI 6) 48 from vp_in_nI (by decide) (by decide)) d_Mo_flex_191 ?_
            refine lv_tv (y := g_stack 6) rfl ?_
            refine lv_aload_n hx hb d_Mo_flex_192 rfl (lv_at hl 0 rfl) ?_
            refine lv_bipush (v := 7) hx hb d_Mo_flex_193 (by decide) ?_
            refine va_iald hx hb hZ.1 hP 0 1 rfl rfl (show vp_in (nI 7) 48 from vp_in_nI (by decide) (by decide)) d_Mo_flex_195 ?_
            refine lv_tv (y := g_stack 7) rfl ?_
            refine lv_aload_n hx hb d_Mo_flex_196 rfl (lv_at hl 0 rfl) ?_
            refine lv_bipush (v := 8) hx hb d_Mo_flex_197 (by decide) ?_
            refine va_iald hx hb hZ.1 hP 0 1 rfl rfl (show vp_in (nI 8) 48 from vp_in_nI (by decide) (by decide)) d_Mo_flex_199 ?_
            refine lv_tv (y := g_stack 8) rfl ?_
            refine lv_aload_n hx hb d_Mo_flex_200 rfl (lv_at hl 0 rfl) ?_
            refine lv_iconst (v := 1) hx hb d_Mo_flex_201 (by decide) ?_
            refine va_iald hx hb hZ.1 hP 0 1 rfl rfl (show vp_in (nI 1) 48 from vp_in_nI (by decide) (by decide)) d_Mo_flex_202 ?_
            refine lv_tv (y := g_stack 1) rfl ?_
            refine lv_aload_n hx hb d_Mo_flex_203 rfl (lv_at hl 0 rfl) ?_
            refine lv_iconst (v := 3) hx hb d_Mo_flex_204 (by decide) ?_
            refine va_iald hx hb hZ.1 hP 0 1 rfl rfl (show vp_in (nI 3) 48 from vp_in_nI (by decide) (by decide)) d_Mo_flex_205 ?_
            refine lv_tv (y := g_stack 3) rfl ?_
            refine lv_iadd hx hb d_Mo_flex_206 ?_
            refine lv_aload_n hx hb d_Mo_flex_207 rfl (lv_at hl 0 rfl) ?_
            refine lv_bipush (v := 7) hx hb d_Mo_flex_208 (by decide) ?_
            refine va_iald hx hb hZ.1 hP 0 1 rfl rfl (show vp_in (nI 7) 48 from vp_in_nI (by decide) (by decide)) d_Mo_flex_210 ?_
            refine lv_tv (y := g_stack 7) rfl ?_
            refine lv_iadd hx hb d_Mo_flex_211 ?_
            refine lv_ineg hx hb d_Mo_flex_212 ?_
            have hC : Cut [(m_stack, .inl (cI, 48, .inl g_stack)), (mo, .inr (8, [.int z_fault, .int z_size, .ref m_row, .ref m_shelves, .ref m_many, .ref m_widths, .int (nI mk_12), .ref m_mark, .int z_shown, .ref m_shownMark, .int z_wasRun, .int z_wrong_12, .int z_ended, .int (nI sp), .int z_hints, .int z_hasWidth, .int z_width, .int z_first, .int z_moved, .int z_deepest, .int z_x_12, .int z_y_12, .int (nI t), .ref m_stack, .ref m_places, .int (nI d), .ref m_kinds, .ref m_ats, .ref m_ends])), (m_mark, .inl (cI, 28000, .inl g_mark_12))] [(mo, .inr (8, [.int z_fault, .int z_size, .ref m_row, .ref m_shelves, .ref m_many, .ref m_widths, .int (nI mk_12), .ref m_mark, .int z_shown, .ref m_shownMark, .int z_wasRun, .int z_wrong_12, .int z_ended, .int (nI sp), .int z_hints, .int z_hasWidth, .int z_width, .int z_first, .int z_moved, .int z_deepest, .int z_x_12, .int z_y_12, .int (nI t), .ref m_stack, .ref m_places, .int (nI d), .ref m_kinds, .ref m_ats, .ref m_ends])), (m_mark, .inl (cI, 28000, .inl g_mark_12))] [(m_stack, .inl (cI, 48, .inl g_stack))] [1, 2] [0] := ⟨rfl, rfl, rfl, rfl, by decide⟩
            refine goV0 (trV (As := [.int (g_stack 5), .int 0, .int (g_stack 6), .int (g_stack 7), .int (g_stack 8), .int (-(((g_stack 1) + (g_stack 3)) + (g_stack 7)))]) (rest := []) ⟨hx, hb, hml, hown, hts⟩ gd_good (c_Mo_two l D cB cI cJ mo m_row m_shelves m_many m_widths m_mark m_shownMark m_stack m_places m_kinds m_ats m_ends mk_12 sp t d z_fault z_size z_shown z_wasRun z_wrong_12 z_ended z_hints z_hasWidth z_width z_first z_moved z_deepest z_x_12 z_y_12 g_mark_12 (g_stack 5) 0 (g_stack 6) (g_stack 7) (g_stack 8) (-(((g_stack 1) + (g_stack 3)) + (g_stack 7))) (by omega) ) cal_Mo_two ml_Mo_172 ⟨Nat.le_of_ble_eq_true rfl, Nat.le_of_ble_eq_true rfl⟩ hZ hP hD hC 1 (ci := 8) rfl rfl rfl rfl hl.1 rfl (Nat.le_of_ble_eq_true rfl) d_Mo_flex_213 ⟨Nat.le_of_ble_eq_true rfl, Nat.le_of_ble_eq_true rfl⟩) hZ hP hD hS hC (fun w1 H locs hq hP hD hS => ?_)
            obtain ⟨z_x_13, z_y_13, z_wrong_13, mk_13, t_13, g_mark_13, rfl, hv_13⟩ := hq
            have hP : va_P D classes [(m_stack, .inl (cI, 48, .inl g_stack)), (mo, .inr (8, [.int z_fault, .int z_size, .ref m_row, .ref m_shelves, .ref m_many, .ref m_widths, .int (nI mk_13), .ref m_mark, .int z_shown, .ref m_shownMark, .int z_wasRun, .int z_wrong_13, .int z_ended, .int (nI sp), .int z_hints, .int z_hasWidth, .int z_width, .int z_first, .int z_moved, .int z_deepest, .int z_x_13, .int z_y_13, .int (nI t_13), .ref m_stack, .ref m_places, .int (nI d), .ref m_kinds, .ref m_ats, .ref m_ends])), (m_mark, .inl (cI, 28000, .inl g_mark_13))] H := hP
            have hD : va_D A_ [(m_stack, .inl (cI, 48, .inl g_stack)), (mo, .inr (8, [.int z_fault, .int z_size, .ref m_row, .ref m_shelves, .ref m_many, .ref m_widths, .int (nI mk_13), .ref m_mark, .int z_shown, .ref m_shownMark, .int z_wasRun, .int z_wrong_13, .int z_ended, .int (nI sp), .int z_hints, .int z_hasWidth, .int z_width, .int z_first, .int z_moved, .int z_deepest, .int z_x_13, .int z_y_13, .int (nI t_13), .ref m_stack, .ref m_places, .int (nI d), .ref m_kinds, .ref m_ats, .ref m_ends])), (m_mark, .inl (cI, 28000, .inl g_mark_13))] := hD
            refine lv_goto (tgt := 365) hx hb d_Mo_flex_216 (by decide) ?_
            exact t_vret hx hb hr hlk d_Mo_flex_365 (hP.subm (ws' := [(mo, .inr (8, [.int z_fault, .int z_size, .ref m_row, .ref m_shelves, .ref m_many, .ref m_widths, .int (nI mk_13), .ref m_mark, .int z_shown, .ref m_shownMark, .int z_wasRun, .int z_wrong_13, .int z_ended, .int (nI sp), .int z_hints, .int z_hasWidth, .int z_width, .int z_first, .int z_moved, .int z_deepest, .int z_x_13, .int z_y_13, .int (nI t_13), .ref m_stack, .ref m_places, .int (nI d), .ref m_kinds, .ref m_ats, .ref m_ends])), (m_stack, .inl (cI, 48, .inl g_stack)), (m_mark, .inl (cI, 28000, .inl g_mark_13))]) [1, 0, 2] rfl) (hD.sub (ws' := [(mo, .inr (8, [.int z_fault, .int z_size, .ref m_row, .ref m_shelves, .ref m_many, .ref m_widths, .int (nI mk_13), .ref m_mark, .int z_shown, .ref m_shownMark, .int z_wasRun, .int z_wrong_13, .int z_ended, .int (nI sp), .int z_hints, .int z_hasWidth, .int z_width, .int z_first, .int z_moved, .int z_deepest, .int z_x_13, .int z_y_13, .int (nI t_13), .ref m_stack, .ref m_places, .int (nI d), .ref m_kinds, .ref m_ats, .ref m_ends])), (m_stack, .inl (cI, 48, .inl g_stack)), (m_mark, .inl (cI, 28000, .inl g_mark_13))]) [1, 0, 2] rfl rfl) hS ⟨rfl, rfl, rfl, _, _, _, mk_13, t_13, _, rfl, (by omega)⟩
        · have n_149 : (t) = (9) := (nI_eq (a := t) (b := 9) (by omega) (by omega)).mp c_149
          refine lv_iconst (v := 1) hx hb d_Mo_flex_152 (by decide) ?_
          refine lv_goto (tgt := 157) hx hb d_Mo_flex_153 (by decide) ?_
          have hC : Cut [(mo, .inr (8, [.int z_fault, .int z_size, .ref m_row, .ref m_shelves, .ref m_many, .ref m_widths, .int (nI mk), .ref m_mark, .int z_shown, .ref m_shownMark, .int z_wasRun, .int z_wrong, .int z_ended, .int (nI sp), .int z_hints, .int z_hasWidth, .int z_width, .int z_first, .int z_moved, .int z_deepest, .int z_x, .int z_y, .int (nI t), .ref m_stack, .ref m_places, .int (nI d), .ref m_kinds, .ref m_ats, .ref m_ends])), (m_stack, .inl (cI, 48, .inl g_stack)), (m_mark, .inl (cI, 28000, .inl g_mark))] [(mo, .inr (8, [.int z_fault, .int z_size, .ref m_row, .ref m_shelves, .ref m_many, .ref m_widths, .int (nI mk), .ref m_mark, .int z_shown, .ref m_shownMark, .int z_wasRun, .int z_wrong, .int z_ended, .int (nI sp), .int z_hints, .int z_hasWidth, .int z_width, .int z_first, .int z_moved, .int z_deepest, .int z_x, .int z_y, .int (nI t), .ref m_stack, .ref m_places, .int (nI d), .ref m_kinds, .ref m_ats, .ref m_ends]))] [(m_stack, .inl (cI, 48, .inl g_stack)), (m_mark, .inl (cI, 28000, .inl g_mark))] [0] [1, 2] := ⟨rfl, rfl, rfl, rfl, by decide⟩
          refine goI0 (trV (As := [.int 1]) (rest := []) ⟨hx, hb, hml, hown, hts⟩ gd_good (c_Mo_may l D cB cI cJ mo m_row m_shelves m_many m_widths m_mark m_shownMark m_stack m_places m_kinds m_ats m_ends mk sp t d z_fault z_size z_shown z_wasRun z_wrong z_ended z_hints z_hasWidth z_width z_first z_moved z_deepest z_x z_y 1 (by omega) ) cal_Mo_may ml_Mo_162 ⟨Nat.le_of_ble_eq_true rfl, Nat.le_of_ble_eq_true rfl⟩ hZ hP hD hC 0 (ci := 8) rfl rfl rfl rfl hl.1 rfl (Nat.le_of_ble_eq_true rfl) d_Mo_flex_157 ⟨Nat.le_of_ble_eq_true rfl, Nat.le_of_ble_eq_true rfl⟩) hZ hP hD hS hC (fun r_157 w1 H locs hq hP hD hS => ?_)
          obtain ⟨z_wrong_14, rfl, hv_14, hx_14, hz_14⟩ := hq
          have hP : va_P D classes [(m_stack, .inl (cI, 48, .inl g_stack)), (m_mark, .inl (cI, 28000, .inl g_mark)), (mo, .inr (8, [.int z_fault, .int z_size, .ref m_row, .ref m_shelves, .ref m_many, .ref m_widths, .int (nI mk), .ref m_mark, .int z_shown, .ref m_shownMark, .int z_wasRun, .int z_wrong_14, .int z_ended, .int (nI sp), .int z_hints, .int z_hasWidth, .int z_width, .int z_first, .int z_moved, .int z_deepest, .int z_x, .int z_y, .int (nI t), .ref m_stack, .ref m_places, .int (nI d), .ref m_kinds, .ref m_ats, .ref m_ends]))] H := hP
          have hD : va_D A_ [(m_stack, .inl (cI, 48, .inl g_stack)), (m_mark, .inl (cI, 28000, .inl g_mark)), (mo, .inr (8, [.int z_fault, .int z_size, .ref m_row, .ref m_shelves, .ref m_many, .ref m_widths, .int (nI mk), .ref m_mark, .int z_shown, .ref m_shownMark, .int z_wasRun, .int z_wrong_14, .int z_ended, .int (nI sp), .int z_hints, .int z_hasWidth, .int z_width, .int z_first, .int z_moved, .int z_deepest, .int z_x, .int z_y, .int (nI t), .ref m_stack, .ref m_places, .int (nI d), .ref m_kinds, .ref m_ats, .ref m_ends]))] := hD
          refine lv_if_eq (tgt := 219) hx hb d_Mo_flex_160 (by decide) (fun c_160 => ?_) (fun c_160 => ?_)
          · refine lv_iload_n hx hb d_Mo_flex_219 rfl (lv_at hl 2 rfl) ?_
            refine lv_bipush (v := 37) hx hb d_Mo_flex_220 (by decide) ?_
            refine lv_icmp_ne (tgt := 365) hx hb d_Mo_flex_222 (by decide) (fun c_222 => ?_) (fun c_222 => absurd c_222 (fun z => absurd (c_139.symm.trans z) (by decide)))
            exact t_vret hx hb hr hlk d_Mo_flex_365 (hP.subm (ws' := [(mo, .inr (8, [.int z_fault, .int z_size, .ref m_row, .ref m_shelves, .ref m_many, .ref m_widths, .int (nI mk), .ref m_mark, .int z_shown, .ref m_shownMark, .int z_wasRun, .int z_wrong_14, .int z_ended, .int (nI sp), .int z_hints, .int z_hasWidth, .int z_width, .int z_first, .int z_moved, .int z_deepest, .int z_x, .int z_y, .int (nI t), .ref m_stack, .ref m_places, .int (nI d), .ref m_kinds, .ref m_ats, .ref m_ends])), (m_stack, .inl (cI, 48, .inl g_stack)), (m_mark, .inl (cI, 28000, .inl g_mark))]) [2, 0, 1] rfl) (hD.sub (ws' := [(mo, .inr (8, [.int z_fault, .int z_size, .ref m_row, .ref m_shelves, .ref m_many, .ref m_widths, .int (nI mk), .ref m_mark, .int z_shown, .ref m_shownMark, .int z_wasRun, .int z_wrong_14, .int z_ended, .int (nI sp), .int z_hints, .int z_hasWidth, .int z_width, .int z_first, .int z_moved, .int z_deepest, .int z_x, .int z_y, .int (nI t), .ref m_stack, .ref m_places, .int (nI d), .ref m_kinds, .ref m_ats, .ref m_ends])), (m_stack, .inl (cI, 48, .inl g_stack)), (m_mark, .inl (cI, 28000, .inl g_mark))]) [2, 0, 1] rfl rfl) hS ⟨rfl, rfl, rfl, _, _, _, mk, t, _, rfl, (by omega)⟩
          · refine lv_aload_n hx hb d_Mo_flex_163 rfl (lv_at hl 1 rfl) ?_
            refine lv_aload_n hx hb d_Mo_flex_164 rfl (lv_at hl 0 rfl) ?_
            refine lv_iconst (v := 0) hx hb d_Mo_flex_165 (by decide) ?_
            refine va_iald hx hb hZ.1 hP 0 1 rfl rfl (show vp_in (nI 0) 48 from vp_in_nI (by decide) (by decide)) d_Mo_flex_166 ?_
            refine lv_tv (y := g_stack 0) rfl ?_
            refine lv_aload_n hx hb d_Mo_flex_167 rfl (lv_at hl 0 rfl) ?_
            refine lv_iconst (v := 1) hx hb d_Mo_flex_168 (by decide) ?_
            refine va_iald hx hb hZ.1 hP 0 1 rfl rfl (show vp_in (nI 1) 48 from vp_in_nI (by decide) (by decide)) d_Mo_flex_169 ?_
            refine lv_tv (y := g_stack 1) rfl ?_
            refine lv_aload_n hx hb d_Mo_flex_170 rfl (lv_at hl 0 rfl) ?_
            refine lv_iconst (v := 2) hx hb d_Mo_flex_171 (by decide) ?_
            refine va_iald hx hb hZ.1 hP 0 1 rfl rfl (show vp_in (nI 2) 48 from vp_in_nI (by decide) (by decide)) d_Mo_flex_172 ?_
            refine lv_tv (y := g_stack 2) rfl ?_
            refine lv_aload_n hx hb d_Mo_flex_173 rfl (lv_at hl 0 rfl) ?_
            refine lv_iconst (v := 3) hx hb d_Mo_flex_174 (by decide) ?_
            refine va_iald hx hb hZ.1 hP 0 1 rfl rfl (show vp_in (nI 3) 48 from vp_in_nI (by decide) (by decide)) d_Mo_flex_175 ?_
            refine lv_tv (y := g_stack 3) rfl ?_
            refine lv_aload_n hx hb d_Mo_flex_176 rfl (lv_at hl 0 rfl) ?_
            refine lv_iconst (v := 4) hx hb d_Mo_flex_177 (by decide) ?_
            refine va_iald hx hb hZ.1 hP 0 1 rfl rfl (show vp_in (nI 4) 48 from vp_in_nI (by decide) (by decide)) d_Mo_flex_178 ?_
            refine lv_tv (y := g_stack 4) rfl ?_
            refine lv_iconst (v := 0) hx hb d_Mo_flex_179 (by decide) ?_
            have hC : Cut [(m_stack, .inl (cI, 48, .inl g_stack)), (m_mark, .inl (cI, 28000, .inl g_mark)), (mo, .inr (8, [.int z_fault, .int z_size, .ref m_row, .ref m_shelves, .ref m_many, .ref m_widths, .int (nI mk), .ref m_mark, .int z_shown, .ref m_shownMark, .int z_wasRun, .int z_wrong_14, .int z_ended, .int (nI sp), .int z_hints, .int z_hasWidth, .int z_width, .int z_first, .int z_moved, .int z_deepest, .int z_x, .int z_y, .int (nI t), .ref m_stack, .ref m_places, .int (nI d), .ref m_kinds, .ref m_ats, .ref m_ends]))] [(mo, .inr (8, [.int z_fault, .int z_size, .ref m_row, .ref m_shelves, .ref m_many, .ref m_widths, .int (nI mk), .ref m_mark, .int z_shown, .ref m_shownMark, .int z_wasRun, .int z_wrong_14, .int z_ended, .int (nI sp), .int z_hints, .int z_hasWidth, .int z_width, .int z_first, .int z_moved, .int z_deepest, .int z_x, .int z_y, .int (nI t), .ref m_stack, .ref m_places, .int (nI d), .ref m_kinds, .ref m_ats, .ref m_ends])), (m_mark, .inl (cI, 28000, .inl g_mark))] [(m_stack, .inl (cI, 48, .inl g_stack))] [2, 1] [0] := ⟨rfl, rfl, rfl, rfl, by decide⟩
            refine goV0 (trV (As := [.int (g_stack 0), .int (g_stack 1), .int (g_stack 2), .int (g_stack 3), .int (g_stack 4), .int 0]) (rest := []) ⟨hx, hb, hml, hown, hts⟩ gd_good (c_Mo_curve l D cB cI cJ mo m_row m_shelves m_many m_widths m_mark m_shownMark m_stack m_places m_kinds m_ats m_ends mk sp t d z_fault z_size z_shown z_wasRun z_wrong_14 z_ended z_hints z_hasWidth z_width z_first z_moved z_deepest z_x z_y g_mark (g_stack 0) (g_stack 1) (g_stack 2) (g_stack 3) (g_stack 4) 0 (by omega) ) cal_Mo_curve ml_Mo_158 ⟨Nat.le_of_ble_eq_true rfl, Nat.le_of_ble_eq_true rfl⟩ hZ hP hD hC 2 (ci := 8) rfl rfl rfl rfl hl.1 rfl (Nat.le_of_ble_eq_true rfl) d_Mo_flex_180 ⟨Nat.le_of_ble_eq_true rfl, Nat.le_of_ble_eq_true rfl⟩) hZ hP hD hS hC (fun w1 H locs hq hP hD hS => ?_)
            obtain ⟨z_x_15, z_y_15, z_wrong_15, mk_15, g_mark_15, rfl, hv_15⟩ := hq
            have hP : va_P D classes [(m_stack, .inl (cI, 48, .inl g_stack)), (mo, .inr (8, [.int z_fault, .int z_size, .ref m_row, .ref m_shelves, .ref m_many, .ref m_widths, .int (nI mk_15), .ref m_mark, .int z_shown, .ref m_shownMark, .int z_wasRun, .int z_wrong_15, .int z_ended, .int (nI sp), .int z_hints, .int z_hasWidth, .int z_width, .int z_first, .int z_moved, .int z_deepest, .int z_x_15, .int z_y_15, .int (nI t), .ref m_stack, .ref m_places, .int (nI d), .ref m_kinds, .ref m_ats, .ref m_ends])), (m_mark, .inl (cI, 28000, .inl g_mark_15))] H := hP
            have hD : va_D A_ [(m_stack, .inl (cI, 48, .inl g_stack)), (mo, .inr (8, [.int z_fault, .int z_size, .ref m_row, .ref m_shelves, .ref m_many, .ref m_widths, .int (nI mk_15), .ref m_mark, .int z_shown, .ref m_shownMark, .int z_wasRun, .int z_wrong_15, .int z_ended, .int (nI sp), .int z_hints, .int z_hasWidth, .int z_width, .int z_first, .int z_moved, .int z_deepest, .int z_x_15, .int z_y_15, .int (nI t), .ref m_stack, .ref m_places, .int (nI d), .ref m_kinds, .ref m_ats, .ref m_ends])), (m_mark, .inl (cI, 28000, .inl g_mark_15))] := hD
            refine lv_aload_n hx hb d_Mo_flex_183 rfl (lv_at hl 1 rfl) ?_
            refine lv_aload_n hx hb d_Mo_flex_184 rfl (lv_at hl 0 rfl) ?_
            refine lv_iconst (v := 5) hx hb d_Mo_flex_185 (by decide) ?_
            refine va_iald hx hb hZ.1 hP 0 1 rfl rfl (show vp_in (nI 5) 48 from vp_in_nI (by decide) (by decide)) d_Mo_flex_186 ?_
            refine lv_tv (y := g_stack 5) rfl ?_
            refine lv_iconst (v := 0) hx hb d_Mo_flex_187 (by decide) ?_
            refine lv_aload_n hx hb d_Mo_flex_188 rfl (lv_at hl 0 rfl) ?_
            refine lv_bipush (v := 6) hx hb d_Mo_flex_189 (by decide) ?_
            refine va_iald hx hb hZ.1 hP 0 1 rfl rfl (show vp_in (nI 6) 48 from vp_in_nI (by decide) (by decide)) d_Mo_flex_191 ?_
            refine lv_tv (y := g_stack 6) rfl ?_
            refine lv_aload_n hx hb d_Mo_flex_192 rfl (lv_at hl 0 rfl) ?_
            refine lv_bipush (v := 7) hx hb d_Mo_flex_193 (by decide) ?_
            refine va_iald hx hb hZ.1 hP 0 1 rfl rfl (show vp_in (nI 7) 48 from vp_in_nI (by decide) (by decide)) d_Mo_flex_195 ?_
            refine lv_tv (y := g_stack 7) rfl ?_
            refine lv_aload_n hx hb d_Mo_flex_196 rfl (lv_at hl 0 rfl) ?_
            refine lv_bipush (v := 8) hx hb d_Mo_flex_197 (by decide) ?_
            refine va_iald hx hb hZ.1 hP 0 1 rfl rfl (show vp_in (nI 8) 48 from vp_in_nI (by decide) (by decide)) d_Mo_flex_199 ?_
            refine lv_tv (y := g_stack 8) rfl ?_
            refine lv_aload_n hx hb d_Mo_flex_200 rfl (lv_at hl 0 rfl) ?_
            refine lv_iconst (v := 1) hx hb d_Mo_flex_201 (by decide) ?_
            refine va_iald hx hb hZ.1 hP 0 1 rfl rfl (show vp_in (nI 1) 48 from vp_in_nI (by decide) (by decide)) d_Mo_flex_202 ?_
            refine lv_tv (y := g_stack 1) rfl ?_
            refine lv_aload_n hx hb d_Mo_flex_203 rfl (lv_at hl 0 rfl) ?_
            refine lv_iconst (v := 3) hx hb d_Mo_flex_204 (by decide) ?_
            refine va_iald hx hb hZ.1 hP 0 1 rfl rfl (show vp_in (nI 3) 48 from vp_in_nI (by decide) (by decide)) d_Mo_flex_205 ?_
            refine lv_tv (y := g_stack 3) rfl ?_
            refine lv_iadd hx hb d_Mo_flex_206 ?_
            refine lv_aload_n hx hb d_Mo_flex_207 rfl (lv_at hl 0 rfl) ?_
            refine lv_bipush (v := 7) hx hb d_Mo_flex_208 (by decide) ?_
            refine va_iald hx hb hZ.1 hP 0 1 rfl rfl (show vp_in (nI 7) 48 from vp_in_nI (by decide) (by decide)) d_Mo_flex_210 ?_
            refine lv_tv (y := g_stack 7) rfl ?_
            refine lv_iadd hx hb d_Mo_flex_211 ?_
            refine lv_ineg hx hb d_Mo_flex_212 ?_
            have hC : Cut [(m_stack, .inl (cI, 48, .inl g_stack)), (mo, .inr (8, [.int z_fault, .int z_size, .ref m_row, .ref m_shelves, .ref m_many, .ref m_widths, .int (nI mk_15), .ref m_mark, .int z_shown, .ref m_shownMark, .int z_wasRun, .int z_wrong_15, .int z_ended, .int (nI sp), .int z_hints, .int z_hasWidth, .int z_width, .int z_first, .int z_moved, .int z_deepest, .int z_x_15, .int z_y_15, .int (nI t), .ref m_stack, .ref m_places, .int (nI d), .ref m_kinds, .ref m_ats, .ref m_ends])), (m_mark, .inl (cI, 28000, .inl g_mark_15))] [(mo, .inr (8, [.int z_fault, .int z_size, .ref m_row, .ref m_shelves, .ref m_many, .ref m_widths, .int (nI mk_15), .ref m_mark, .int z_shown, .ref m_shownMark, .int z_wasRun, .int z_wrong_15, .int z_ended, .int (nI sp), .int z_hints, .int z_hasWidth, .int z_width, .int z_first, .int z_moved, .int z_deepest, .int z_x_15, .int z_y_15, .int (nI t), .ref m_stack, .ref m_places, .int (nI d), .ref m_kinds, .ref m_ats, .ref m_ends])), (m_mark, .inl (cI, 28000, .inl g_mark_15))] [(m_stack, .inl (cI, 48, .inl g_stack))] [1, 2] [0] := ⟨rfl, rfl, rfl, rfl, by decide⟩
            refine goV0 (trV (As := [.int (g_stack 5), .int 0, .int (g_stack 6), .int (g_stack 7), .int (g_stack 8), .int (-(((g_stack 1) + (g_stack 3)) + (g_stack 7)))]) (rest := []) ⟨hx, hb, hml, hown, hts⟩ gd_good (c_Mo_two l D cB cI cJ mo m_row m_shelves m_many m_widths m_mark m_shownMark m_stack m_places m_kinds m_ats m_ends mk_15 sp t d z_fault z_size z_shown z_wasRun z_wrong_15 z_ended z_hints z_hasWidth z_width z_first z_moved z_deepest z_x_15 z_y_15 g_mark_15 (g_stack 5) 0 (g_stack 6) (g_stack 7) (g_stack 8) (-(((g_stack 1) + (g_stack 3)) + (g_stack 7))) (by omega) ) cal_Mo_two ml_Mo_172 ⟨Nat.le_of_ble_eq_true rfl, Nat.le_of_ble_eq_true rfl⟩ hZ hP hD hC 1 (ci := 8) rfl rfl rfl rfl hl.1 rfl (Nat.le_of_ble_eq_true rfl) d_Mo_flex_213 ⟨Nat.le_of_ble_eq_true rfl, Nat.le_of_ble_eq_true rfl⟩) hZ hP hD hS hC (fun w1 H locs hq hP hD hS => ?_)
            obtain ⟨z_x_16, z_y_16, z_wrong_16, mk_16, t_16, g_mark_16, rfl, hv_16⟩ := hq
            have hP : va_P D classes [(m_stack, .inl (cI, 48, .inl g_stack)), (mo, .inr (8, [.int z_fault, .int z_size, .ref m_row, .ref m_shelves, .ref m_many, .ref m_widths, .int (nI mk_16), .ref m_mark, .int z_shown, .ref m_shownMark, .int z_wasRun, .int z_wrong_16, .int z_ended, .int (nI sp), .int z_hints, .int z_hasWidth, .int z_width, .int z_first, .int z_moved, .int z_deepest, .int z_x_16, .int z_y_16, .int (nI t_16), .ref m_stack, .ref m_places, .int (nI d), .ref m_kinds, .ref m_ats, .ref m_ends])), (m_mark, .inl (cI, 28000, .inl g_mark_16))] H := hP
            have hD : va_D A_ [(m_stack, .inl (cI, 48, .inl g_stack)), (mo, .inr (8, [.int z_fault, .int z_size, .ref m_row, .ref m_shelves, .ref m_many, .ref m_widths, .int (nI mk_16), .ref m_mark, .int z_shown, .ref m_shownMark, .int z_wasRun, .int z_wrong_16, .int z_ended, .int (nI sp), .int z_hints, .int z_hasWidth, .int z_width, .int z_first, .int z_moved, .int z_deepest, .int z_x_16, .int z_y_16, .int (nI t_16), .ref m_stack, .ref m_places, .int (nI d), .ref m_kinds, .ref m_ats, .ref m_ends])), (m_mark, .inl (cI, 28000, .inl g_mark_16))] := hD
            refine lv_goto (tgt := 365) hx hb d_Mo_flex_216 (by decide) ?_
            exact t_vret hx hb hr hlk d_Mo_flex_365 (hP.subm (ws' := [(mo, .inr (8, [.int z_fault, .int z_size, .ref m_row, .ref m_shelves, .ref m_many, .ref m_widths, .int (nI mk_16), .ref m_mark, .int z_shown, .ref m_shownMark, .int z_wasRun, .int z_wrong_16, .int z_ended, .int (nI sp), .int z_hints, .int z_hasWidth, .int z_width, .int z_first, .int z_moved, .int z_deepest, .int z_x_16, .int z_y_16, .int (nI t_16), .ref m_stack, .ref m_places, .int (nI d), .ref m_kinds, .ref m_ats, .ref m_ends])), (m_stack, .inl (cI, 48, .inl g_stack)), (m_mark, .inl (cI, 28000, .inl g_mark_16))]) [1, 0, 2] rfl) (hD.sub (ws' := [(mo, .inr (8, [.int z_fault, .int z_size, .ref m_row, .ref m_shelves, .ref m_many, .ref m_widths, .int (nI mk_16), .ref m_mark, .int z_shown, .ref m_shownMark, .int z_wasRun, .int z_wrong_16, .int z_ended, .int (nI sp), .int z_hints, .int z_hasWidth, .int z_width, .int z_first, .int z_moved, .int z_deepest, .int z_x_16, .int z_y_16, .int (nI t_16), .ref m_stack, .ref m_places, .int (nI d), .ref m_kinds, .ref m_ats, .ref m_ends])), (m_stack, .inl (cI, 48, .inl g_stack)), (m_mark, .inl (cI, 28000, .inl g_mark_16))]) [1, 0, 2] rfl rfl) hS ⟨rfl, rfl, rfl, _, _, _, mk_16, t_16, _, rfl, (by omega)⟩
    · refine lv_aload_n hx hb d_Mo_flex_74 rfl (lv_at hl 1 rfl) ?_
      refine lv_aload_n hx hb d_Mo_flex_75 rfl (lv_at hl 1 rfl) ?_
      refine va_get (D := D) (ci := 8) (v := .int (nI t)) (C := R_Mo) (T := F_Mo) (N := 29) hx hb hts i_Mo hown hZ.1 hP 0 rfl rfl 22 (by decide) (hts _ fl_Mo_82) (fun _ h9 => h9) rfl d_Mo_flex_76 ?_
      refine lv_bipush (v := 7) hx hb d_Mo_flex_79 (by decide) ?_
      refine lv_icmp_ne (tgt := 88) hx hb d_Mo_flex_81 (by decide) (fun c_81 => ?_) (fun c_81 => ?_)
      · have n_81 : ¬ (t) = (7) := fun z => c_81 ((nI_eq (a := t) (b := 7) (by omega) (by omega)).mpr z)
        refine lv_iconst (v := 0) hx hb d_Mo_flex_88 (by decide) ?_
        have hC : Cut [(mo, .inr (8, [.int z_fault, .int z_size, .ref m_row, .ref m_shelves, .ref m_many, .ref m_widths, .int (nI mk), .ref m_mark, .int z_shown, .ref m_shownMark, .int z_wasRun, .int z_wrong, .int z_ended, .int (nI sp), .int z_hints, .int z_hasWidth, .int z_width, .int z_first, .int z_moved, .int z_deepest, .int z_x, .int z_y, .int (nI t), .ref m_stack, .ref m_places, .int (nI d), .ref m_kinds, .ref m_ats, .ref m_ends])), (m_stack, .inl (cI, 48, .inl g_stack)), (m_mark, .inl (cI, 28000, .inl g_mark))] [(mo, .inr (8, [.int z_fault, .int z_size, .ref m_row, .ref m_shelves, .ref m_many, .ref m_widths, .int (nI mk), .ref m_mark, .int z_shown, .ref m_shownMark, .int z_wasRun, .int z_wrong, .int z_ended, .int (nI sp), .int z_hints, .int z_hasWidth, .int z_width, .int z_first, .int z_moved, .int z_deepest, .int z_x, .int z_y, .int (nI t), .ref m_stack, .ref m_places, .int (nI d), .ref m_kinds, .ref m_ats, .ref m_ends]))] [(m_stack, .inl (cI, 48, .inl g_stack)), (m_mark, .inl (cI, 28000, .inl g_mark))] [0] [1, 2] := ⟨rfl, rfl, rfl, rfl, by decide⟩
        refine goI0 (trV (As := [.int 0]) (rest := []) ⟨hx, hb, hml, hown, hts⟩ gd_good (c_Mo_may l D cB cI cJ mo m_row m_shelves m_many m_widths m_mark m_shownMark m_stack m_places m_kinds m_ats m_ends mk sp t d z_fault z_size z_shown z_wasRun z_wrong z_ended z_hints z_hasWidth z_width z_first z_moved z_deepest z_x z_y 0 (by omega) ) cal_Mo_may ml_Mo_162 ⟨Nat.le_of_ble_eq_true rfl, Nat.le_of_ble_eq_true rfl⟩ hZ hP hD hC 0 (ci := 8) rfl rfl rfl rfl hl.1 rfl (Nat.le_of_ble_eq_true rfl) d_Mo_flex_89 ⟨Nat.le_of_ble_eq_true rfl, Nat.le_of_ble_eq_true rfl⟩) hZ hP hD hS hC (fun r_89 w1 H locs hq hP hD hS => ?_)
        obtain ⟨z_wrong_17, rfl, hv_17, hx_17, hz_17⟩ := hq
        have hP : va_P D classes [(m_stack, .inl (cI, 48, .inl g_stack)), (m_mark, .inl (cI, 28000, .inl g_mark)), (mo, .inr (8, [.int z_fault, .int z_size, .ref m_row, .ref m_shelves, .ref m_many, .ref m_widths, .int (nI mk), .ref m_mark, .int z_shown, .ref m_shownMark, .int z_wasRun, .int z_wrong_17, .int z_ended, .int (nI sp), .int z_hints, .int z_hasWidth, .int z_width, .int z_first, .int z_moved, .int z_deepest, .int z_x, .int z_y, .int (nI t), .ref m_stack, .ref m_places, .int (nI d), .ref m_kinds, .ref m_ats, .ref m_ends]))] H := hP
        have hD : va_D A_ [(m_stack, .inl (cI, 48, .inl g_stack)), (m_mark, .inl (cI, 28000, .inl g_mark)), (mo, .inr (8, [.int z_fault, .int z_size, .ref m_row, .ref m_shelves, .ref m_many, .ref m_widths, .int (nI mk), .ref m_mark, .int z_shown, .ref m_shownMark, .int z_wasRun, .int z_wrong_17, .int z_ended, .int (nI sp), .int z_hints, .int z_hasWidth, .int z_width, .int z_first, .int z_moved, .int z_deepest, .int z_x, .int z_y, .int (nI t), .ref m_stack, .ref m_places, .int (nI d), .ref m_kinds, .ref m_ats, .ref m_ends]))] := hD
        refine lv_if_eq (tgt := 136) hx hb d_Mo_flex_92 (by decide) (fun c_92 => ?_) (fun c_92 => ?_)
        · refine lv_iload_n hx hb d_Mo_flex_136 rfl (lv_at hl 2 rfl) ?_
          refine lv_bipush (v := 36) hx hb d_Mo_flex_137 (by decide) ?_
          refine lv_icmp_ne (tgt := 219) hx hb d_Mo_flex_139 (by decide) (fun c_139 => ?_) (fun c_139 => absurd c_139 (fun z => absurd (c_71.symm.trans z) (by decide)))
          refine lv_iload_n hx hb d_Mo_flex_219 rfl (lv_at hl 2 rfl) ?_
          refine lv_bipush (v := 37) hx hb d_Mo_flex_220 (by decide) ?_
          refine lv_icmp_ne (tgt := 365) hx hb d_Mo_flex_222 (by decide) (fun c_222 => ?_) (fun c_222 => absurd c_222 (fun z => absurd (c_71.symm.trans z) (by decide)))
          exact t_vret hx hb hr hlk d_Mo_flex_365 (hP.subm (ws' := [(mo, .inr (8, [.int z_fault, .int z_size, .ref m_row, .ref m_shelves, .ref m_many, .ref m_widths, .int (nI mk), .ref m_mark, .int z_shown, .ref m_shownMark, .int z_wasRun, .int z_wrong_17, .int z_ended, .int (nI sp), .int z_hints, .int z_hasWidth, .int z_width, .int z_first, .int z_moved, .int z_deepest, .int z_x, .int z_y, .int (nI t), .ref m_stack, .ref m_places, .int (nI d), .ref m_kinds, .ref m_ats, .ref m_ends])), (m_stack, .inl (cI, 48, .inl g_stack)), (m_mark, .inl (cI, 28000, .inl g_mark))]) [2, 0, 1] rfl) (hD.sub (ws' := [(mo, .inr (8, [.int z_fault, .int z_size, .ref m_row, .ref m_shelves, .ref m_many, .ref m_widths, .int (nI mk), .ref m_mark, .int z_shown, .ref m_shownMark, .int z_wasRun, .int z_wrong_17, .int z_ended, .int (nI sp), .int z_hints, .int z_hasWidth, .int z_width, .int z_first, .int z_moved, .int z_deepest, .int z_x, .int z_y, .int (nI t), .ref m_stack, .ref m_places, .int (nI d), .ref m_kinds, .ref m_ats, .ref m_ends])), (m_stack, .inl (cI, 48, .inl g_stack)), (m_mark, .inl (cI, 28000, .inl g_mark))]) [2, 0, 1] rfl rfl) hS ⟨rfl, rfl, rfl, _, _, _, mk, t, _, rfl, (by omega)⟩
        · refine lv_aload_n hx hb d_Mo_flex_95 rfl (lv_at hl 1 rfl) ?_
          refine lv_aload_n hx hb d_Mo_flex_96 rfl (lv_at hl 0 rfl) ?_
          refine lv_iconst (v := 0) hx hb d_Mo_flex_97 (by decide) ?_
          refine va_iald hx hb hZ.1 hP 0 1 rfl rfl (show vp_in (nI 0) 48 from vp_in_nI (by decide) (by decide)) d_Mo_flex_98 ?_
          refine lv_tv (y := g_stack 0) rfl ?_
          refine lv_iconst (v := 0) hx hb d_Mo_flex_99 (by decide) ?_
          refine lv_aload_n hx hb d_Mo_flex_100 rfl (lv_at hl 0 rfl) ?_
          refine lv_iconst (v := 1) hx hb d_Mo_flex_101 (by decide) ?_
          refine va_iald hx hb hZ.1 hP 0 1 rfl rfl (show vp_in (nI 1) 48 from vp_in_nI (by decide) (by decide)) d_Mo_flex_102 ?_
          refine lv_tv (y := g_stack 1) rfl ?_
          refine lv_aload_n hx hb d_Mo_flex_103 rfl (lv_at hl 0 rfl) ?_
          refine lv_iconst (v := 2) hx hb d_Mo_flex_104 (by decide) ?_
          refine va_iald hx hb hZ.1 hP 0 1 rfl rfl (show vp_in (nI 2) 48 from vp_in_nI (by decide) (by decide)) d_Mo_flex_105 ?_
          refine lv_tv (y := g_stack 2) rfl ?_
          refine lv_aload_n hx hb d_Mo_flex_106 rfl (lv_at hl 0 rfl) ?_
          refine lv_iconst (v := 3) hx hb d_Mo_flex_107 (by decide) ?_
          refine va_iald hx hb hZ.1 hP 0 1 rfl rfl (show vp_in (nI 3) 48 from vp_in_nI (by decide) (by decide)) d_Mo_flex_108 ?_
          refine lv_tv (y := g_stack 3) rfl ?_
          refine lv_iconst (v := 0) hx hb d_Mo_flex_109 (by decide) ?_
          have hC : Cut [(m_stack, .inl (cI, 48, .inl g_stack)), (m_mark, .inl (cI, 28000, .inl g_mark)), (mo, .inr (8, [.int z_fault, .int z_size, .ref m_row, .ref m_shelves, .ref m_many, .ref m_widths, .int (nI mk), .ref m_mark, .int z_shown, .ref m_shownMark, .int z_wasRun, .int z_wrong_17, .int z_ended, .int (nI sp), .int z_hints, .int z_hasWidth, .int z_width, .int z_first, .int z_moved, .int z_deepest, .int z_x, .int z_y, .int (nI t), .ref m_stack, .ref m_places, .int (nI d), .ref m_kinds, .ref m_ats, .ref m_ends]))] [(mo, .inr (8, [.int z_fault, .int z_size, .ref m_row, .ref m_shelves, .ref m_many, .ref m_widths, .int (nI mk), .ref m_mark, .int z_shown, .ref m_shownMark, .int z_wasRun, .int z_wrong_17, .int z_ended, .int (nI sp), .int z_hints, .int z_hasWidth, .int z_width, .int z_first, .int z_moved, .int z_deepest, .int z_x, .int z_y, .int (nI t), .ref m_stack, .ref m_places, .int (nI d), .ref m_kinds, .ref m_ats, .ref m_ends])), (m_mark, .inl (cI, 28000, .inl g_mark))] [(m_stack, .inl (cI, 48, .inl g_stack))] [2, 1] [0] := ⟨rfl, rfl, rfl, rfl, by decide⟩
          refine goV0 (trV (As := [.int (g_stack 0), .int 0, .int (g_stack 1), .int (g_stack 2), .int (g_stack 3), .int 0]) (rest := []) ⟨hx, hb, hml, hown, hts⟩ gd_good (c_Mo_curve l D cB cI cJ mo m_row m_shelves m_many m_widths m_mark m_shownMark m_stack m_places m_kinds m_ats m_ends mk sp t d z_fault z_size z_shown z_wasRun z_wrong_17 z_ended z_hints z_hasWidth z_width z_first z_moved z_deepest z_x z_y g_mark (g_stack 0) 0 (g_stack 1) (g_stack 2) (g_stack 3) 0 (by omega) ) cal_Mo_curve ml_Mo_158 ⟨Nat.le_of_ble_eq_true rfl, Nat.le_of_ble_eq_true rfl⟩ hZ hP hD hC 2 (ci := 8) rfl rfl rfl rfl hl.1 rfl (Nat.le_of_ble_eq_true rfl) d_Mo_flex_110 ⟨Nat.le_of_ble_eq_true rfl, Nat.le_of_ble_eq_true rfl⟩) hZ hP hD hS hC (fun w1 H locs hq hP hD hS => ?_)
          obtain ⟨z_x_18, z_y_18, z_wrong_18, mk_18, g_mark_18, rfl, hv_18⟩ := hq
          have hP : va_P D classes [(m_stack, .inl (cI, 48, .inl g_stack)), (mo, .inr (8, [.int z_fault, .int z_size, .ref m_row, .ref m_shelves, .ref m_many, .ref m_widths, .int (nI mk_18), .ref m_mark, .int z_shown, .ref m_shownMark, .int z_wasRun, .int z_wrong_18, .int z_ended, .int (nI sp), .int z_hints, .int z_hasWidth, .int z_width, .int z_first, .int z_moved, .int z_deepest, .int z_x_18, .int z_y_18, .int (nI t), .ref m_stack, .ref m_places, .int (nI d), .ref m_kinds, .ref m_ats, .ref m_ends])), (m_mark, .inl (cI, 28000, .inl g_mark_18))] H := hP
          have hD : va_D A_ [(m_stack, .inl (cI, 48, .inl g_stack)), (mo, .inr (8, [.int z_fault, .int z_size, .ref m_row, .ref m_shelves, .ref m_many, .ref m_widths, .int (nI mk_18), .ref m_mark, .int z_shown, .ref m_shownMark, .int z_wasRun, .int z_wrong_18, .int z_ended, .int (nI sp), .int z_hints, .int z_hasWidth, .int z_width, .int z_first, .int z_moved, .int z_deepest, .int z_x_18, .int z_y_18, .int (nI t), .ref m_stack, .ref m_places, .int (nI d), .ref m_kinds, .ref m_ats, .ref m_ends])), (m_mark, .inl (cI, 28000, .inl g_mark_18))] := hD
          refine lv_aload_n hx hb d_Mo_flex_113 rfl (lv_at hl 1 rfl) ?_
          refine lv_aload_n hx hb d_Mo_flex_114 rfl (lv_at hl 0 rfl) ?_
          refine lv_iconst (v := 4) hx hb d_Mo_flex_115 (by decide) ?_
          refine va_iald hx hb hZ.1 hP 0 1 rfl rfl (show vp_in (nI 4) 48 from vp_in_nI (by decide) (by decide)) d_Mo_flex_116 ?_
          refine lv_tv (y := g_stack 4) rfl ?_
          refine lv_iconst (v := 0) hx hb d_Mo_flex_117 (by decide) ?_
          refine lv_aload_n hx hb d_Mo_flex_118 rfl (lv_at hl 0 rfl) ?_
          refine lv_iconst (v := 5) hx hb d_Mo_flex_119 (by decide) ?_
          refine va_iald hx hb hZ.1 hP 0 1 rfl rfl (show vp_in (nI 5) 48 from vp_in_nI (by decide) (by decide)) d_Mo_flex_120 ?_
          refine lv_tv (y := g_stack 5) rfl ?_
          refine lv_aload_n hx hb d_Mo_flex_121 rfl (lv_at hl 0 rfl) ?_
          refine lv_iconst (v := 2) hx hb d_Mo_flex_122 (by decide) ?_
          refine va_iald hx hb hZ.1 hP 0 1 rfl rfl (show vp_in (nI 2) 48 from vp_in_nI (by decide) (by decide)) d_Mo_flex_123 ?_
          refine lv_tv (y := g_stack 2) rfl ?_
          refine lv_ineg hx hb d_Mo_flex_124 ?_
          refine lv_aload_n hx hb d_Mo_flex_125 rfl (lv_at hl 0 rfl) ?_
          refine lv_bipush (v := 6) hx hb d_Mo_flex_126 (by decide) ?_
          refine va_iald hx hb hZ.1 hP 0 1 rfl rfl (show vp_in (nI 6) 48 from vp_in_nI (by decide) (by decide)) d_Mo_flex_128 ?_
          refine lv_tv (y := g_stack 6) rfl ?_
          refine lv_iconst (v := 0) hx hb d_Mo_flex_129 (by decide) ?_
          have hC : Cut [(m_stack, .inl (cI, 48, .inl g_stack)), (mo, .inr (8, [.int z_fault, .int z_size, .ref m_row, .ref m_shelves, .ref m_many, .ref m_widths, .int (nI mk_18), .ref m_mark, .int z_shown, .ref m_shownMark, .int z_wasRun, .int z_wrong_18, .int z_ended, .int (nI sp), .int z_hints, .int z_hasWidth, .int z_width, .int z_first, .int z_moved, .int z_deepest, .int z_x_18, .int z_y_18, .int (nI t), .ref m_stack, .ref m_places, .int (nI d), .ref m_kinds, .ref m_ats, .ref m_ends])), (m_mark, .inl (cI, 28000, .inl g_mark_18))] [(mo, .inr (8, [.int z_fault, .int z_size, .ref m_row, .ref m_shelves, .ref m_many, .ref m_widths, .int (nI mk_18), .ref m_mark, .int z_shown, .ref m_shownMark, .int z_wasRun, .int z_wrong_18, .int z_ended, .int (nI sp), .int z_hints, .int z_hasWidth, .int z_width, .int z_first, .int z_moved, .int z_deepest, .int z_x_18, .int z_y_18, .int (nI t), .ref m_stack, .ref m_places, .int (nI d), .ref m_kinds, .ref m_ats, .ref m_ends])), (m_mark, .inl (cI, 28000, .inl g_mark_18))] [(m_stack, .inl (cI, 48, .inl g_stack))] [1, 2] [0] := ⟨rfl, rfl, rfl, rfl, by decide⟩
          refine goV0 (trV (As := [.int (g_stack 4), .int 0, .int (g_stack 5), .int (-(g_stack 2)), .int (g_stack 6), .int 0]) (rest := []) ⟨hx, hb, hml, hown, hts⟩ gd_good (c_Mo_two l D cB cI cJ mo m_row m_shelves m_many m_widths m_mark m_shownMark m_stack m_places m_kinds m_ats m_ends mk_18 sp t d z_fault z_size z_shown z_wasRun z_wrong_18 z_ended z_hints z_hasWidth z_width z_first z_moved z_deepest z_x_18 z_y_18 g_mark_18 (g_stack 4) 0 (g_stack 5) (-(g_stack 2)) (g_stack 6) 0 (by omega) ) cal_Mo_two ml_Mo_172 ⟨Nat.le_of_ble_eq_true rfl, Nat.le_of_ble_eq_true rfl⟩ hZ hP hD hC 1 (ci := 8) rfl rfl rfl rfl hl.1 rfl (Nat.le_of_ble_eq_true rfl) d_Mo_flex_130 ⟨Nat.le_of_ble_eq_true rfl, Nat.le_of_ble_eq_true rfl⟩) hZ hP hD hS hC (fun w1 H locs hq hP hD hS => ?_)
          obtain ⟨z_x_19, z_y_19, z_wrong_19, mk_19, t_19, g_mark_19, rfl, hv_19⟩ := hq
          have hP : va_P D classes [(m_stack, .inl (cI, 48, .inl g_stack)), (mo, .inr (8, [.int z_fault, .int z_size, .ref m_row, .ref m_shelves, .ref m_many, .ref m_widths, .int (nI mk_19), .ref m_mark, .int z_shown, .ref m_shownMark, .int z_wasRun, .int z_wrong_19, .int z_ended, .int (nI sp), .int z_hints, .int z_hasWidth, .int z_width, .int z_first, .int z_moved, .int z_deepest, .int z_x_19, .int z_y_19, .int (nI t_19), .ref m_stack, .ref m_places, .int (nI d), .ref m_kinds, .ref m_ats, .ref m_ends])), (m_mark, .inl (cI, 28000, .inl g_mark_19))] H := hP
          have hD : va_D A_ [(m_stack, .inl (cI, 48, .inl g_stack)), (mo, .inr (8, [.int z_fault, .int z_size, .ref m_row, .ref m_shelves, .ref m_many, .ref m_widths, .int (nI mk_19), .ref m_mark, .int z_shown, .ref m_shownMark, .int z_wasRun, .int z_wrong_19, .int z_ended, .int (nI sp), .int z_hints, .int z_hasWidth, .int z_width, .int z_first, .int z_moved, .int z_deepest, .int z_x_19, .int z_y_19, .int (nI t_19), .ref m_stack, .ref m_places, .int (nI d), .ref m_kinds, .ref m_ats, .ref m_ends])), (m_mark, .inl (cI, 28000, .inl g_mark_19))] := hD
          refine lv_goto (tgt := 365) hx hb d_Mo_flex_133 (by decide) ?_
          exact t_vret hx hb hr hlk d_Mo_flex_365 (hP.subm (ws' := [(mo, .inr (8, [.int z_fault, .int z_size, .ref m_row, .ref m_shelves, .ref m_many, .ref m_widths, .int (nI mk_19), .ref m_mark, .int z_shown, .ref m_shownMark, .int z_wasRun, .int z_wrong_19, .int z_ended, .int (nI sp), .int z_hints, .int z_hasWidth, .int z_width, .int z_first, .int z_moved, .int z_deepest, .int z_x_19, .int z_y_19, .int (nI t_19), .ref m_stack, .ref m_places, .int (nI d), .ref m_kinds, .ref m_ats, .ref m_ends])), (m_stack, .inl (cI, 48, .inl g_stack)), (m_mark, .inl (cI, 28000, .inl g_mark_19))]) [1, 0, 2] rfl) (hD.sub (ws' := [(mo, .inr (8, [.int z_fault, .int z_size, .ref m_row, .ref m_shelves, .ref m_many, .ref m_widths, .int (nI mk_19), .ref m_mark, .int z_shown, .ref m_shownMark, .int z_wasRun, .int z_wrong_19, .int z_ended, .int (nI sp), .int z_hints, .int z_hasWidth, .int z_width, .int z_first, .int z_moved, .int z_deepest, .int z_x_19, .int z_y_19, .int (nI t_19), .ref m_stack, .ref m_places, .int (nI d), .ref m_kinds, .ref m_ats, .ref m_ends])), (m_stack, .inl (cI, 48, .inl g_stack)), (m_mark, .inl (cI, 28000, .inl g_mark_19))]) [1, 0, 2] rfl rfl) hS ⟨rfl, rfl, rfl, _, _, _, mk_19, t_19, _, rfl, (by omega)⟩
      · have n_81 : (t) = (7) := (nI_eq (a := t) (b := 7) (by omega) (by omega)).mp c_81
        refine lv_iconst (v := 1) hx hb d_Mo_flex_84 (by decide) ?_
        refine lv_goto (tgt := 89) hx hb d_Mo_flex_85 (by decide) ?_
        have hC : Cut [(mo, .inr (8, [.int z_fault, .int z_size, .ref m_row, .ref m_shelves, .ref m_many, .ref m_widths, .int (nI mk), .ref m_mark, .int z_shown, .ref m_shownMark, .int z_wasRun, .int z_wrong, .int z_ended, .int (nI sp), .int z_hints, .int z_hasWidth, .int z_width, .int z_first, .int z_moved, .int z_deepest, .int z_x, .int z_y, .int (nI t), .ref m_stack, .ref m_places, .int (nI d), .ref m_kinds, .ref m_ats, .ref m_ends])), (m_stack, .inl (cI, 48, .inl g_stack)), (m_mark, .inl (cI, 28000, .inl g_mark))] [(mo, .inr (8, [.int z_fault, .int z_size, .ref m_row, .ref m_shelves, .ref m_many, .ref m_widths, .int (nI mk), .ref m_mark, .int z_shown, .ref m_shownMark, .int z_wasRun, .int z_wrong, .int z_ended, .int (nI sp), .int z_hints, .int z_hasWidth, .int z_width, .int z_first, .int z_moved, .int z_deepest, .int z_x, .int z_y, .int (nI t), .ref m_stack, .ref m_places, .int (nI d), .ref m_kinds, .ref m_ats, .ref m_ends]))] [(m_stack, .inl (cI, 48, .inl g_stack)), (m_mark, .inl (cI, 28000, .inl g_mark))] [0] [1, 2] := ⟨rfl, rfl, rfl, rfl, by decide⟩
        refine goI0 (trV (As := [.int 1]) (rest := []) ⟨hx, hb, hml, hown, hts⟩ gd_good (c_Mo_may l D cB cI cJ mo m_row m_shelves m_many m_widths m_mark m_shownMark m_stack m_places m_kinds m_ats m_ends mk sp t d z_fault z_size z_shown z_wasRun z_wrong z_ended z_hints z_hasWidth z_width z_first z_moved z_deepest z_x z_y 1 (by omega) ) cal_Mo_may ml_Mo_162 ⟨Nat.le_of_ble_eq_true rfl, Nat.le_of_ble_eq_true rfl⟩ hZ hP hD hC 0 (ci := 8) rfl rfl rfl rfl hl.1 rfl (Nat.le_of_ble_eq_true rfl) d_Mo_flex_89 ⟨Nat.le_of_ble_eq_true rfl, Nat.le_of_ble_eq_true rfl⟩) hZ hP hD hS hC (fun r_89 w1 H locs hq hP hD hS => ?_)
        obtain ⟨z_wrong_20, rfl, hv_20, hx_20, hz_20⟩ := hq
        have hP : va_P D classes [(m_stack, .inl (cI, 48, .inl g_stack)), (m_mark, .inl (cI, 28000, .inl g_mark)), (mo, .inr (8, [.int z_fault, .int z_size, .ref m_row, .ref m_shelves, .ref m_many, .ref m_widths, .int (nI mk), .ref m_mark, .int z_shown, .ref m_shownMark, .int z_wasRun, .int z_wrong_20, .int z_ended, .int (nI sp), .int z_hints, .int z_hasWidth, .int z_width, .int z_first, .int z_moved, .int z_deepest, .int z_x, .int z_y, .int (nI t), .ref m_stack, .ref m_places, .int (nI d), .ref m_kinds, .ref m_ats, .ref m_ends]))] H := hP
        have hD : va_D A_ [(m_stack, .inl (cI, 48, .inl g_stack)), (m_mark, .inl (cI, 28000, .inl g_mark)), (mo, .inr (8, [.int z_fault, .int z_size, .ref m_row, .ref m_shelves, .ref m_many, .ref m_widths, .int (nI mk), .ref m_mark, .int z_shown, .ref m_shownMark, .int z_wasRun, .int z_wrong_20, .int z_ended, .int (nI sp), .int z_hints, .int z_hasWidth, .int z_width, .int z_first, .int z_moved, .int z_deepest, .int z_x, .int z_y, .int (nI t), .ref m_stack, .ref m_places, .int (nI d), .ref m_kinds, .ref m_ats, .ref m_ends]))] := hD
        refine lv_if_eq (tgt := 136) hx hb d_Mo_flex_92 (by decide) (fun c_92 => ?_) (fun c_92 => ?_)
        · refine lv_iload_n hx hb d_Mo_flex_136 rfl (lv_at hl 2 rfl) ?_
          refine lv_bipush (v := 36) hx hb d_Mo_flex_137 (by decide) ?_
          refine lv_icmp_ne (tgt := 219) hx hb d_Mo_flex_139 (by decide) (fun c_139 => ?_) (fun c_139 => absurd c_139 (fun z => absurd (c_71.symm.trans z) (by decide)))
          refine lv_iload_n hx hb d_Mo_flex_219 rfl (lv_at hl 2 rfl) ?_
          refine lv_bipush (v := 37) hx hb d_Mo_flex_220 (by decide) ?_
          refine lv_icmp_ne (tgt := 365) hx hb d_Mo_flex_222 (by decide) (fun c_222 => ?_) (fun c_222 => absurd c_222 (fun z => absurd (c_71.symm.trans z) (by decide)))
          exact t_vret hx hb hr hlk d_Mo_flex_365 (hP.subm (ws' := [(mo, .inr (8, [.int z_fault, .int z_size, .ref m_row, .ref m_shelves, .ref m_many, .ref m_widths, .int (nI mk), .ref m_mark, .int z_shown, .ref m_shownMark, .int z_wasRun, .int z_wrong_20, .int z_ended, .int (nI sp), .int z_hints, .int z_hasWidth, .int z_width, .int z_first, .int z_moved, .int z_deepest, .int z_x, .int z_y, .int (nI t), .ref m_stack, .ref m_places, .int (nI d), .ref m_kinds, .ref m_ats, .ref m_ends])), (m_stack, .inl (cI, 48, .inl g_stack)), (m_mark, .inl (cI, 28000, .inl g_mark))]) [2, 0, 1] rfl) (hD.sub (ws' := [(mo, .inr (8, [.int z_fault, .int z_size, .ref m_row, .ref m_shelves, .ref m_many, .ref m_widths, .int (nI mk), .ref m_mark, .int z_shown, .ref m_shownMark, .int z_wasRun, .int z_wrong_20, .int z_ended, .int (nI sp), .int z_hints, .int z_hasWidth, .int z_width, .int z_first, .int z_moved, .int z_deepest, .int z_x, .int z_y, .int (nI t), .ref m_stack, .ref m_places, .int (nI d), .ref m_kinds, .ref m_ats, .ref m_ends])), (m_stack, .inl (cI, 48, .inl g_stack)), (m_mark, .inl (cI, 28000, .inl g_mark))]) [2, 0, 1] rfl rfl) hS ⟨rfl, rfl, rfl, _, _, _, mk, t, _, rfl, (by omega)⟩
        · refine lv_aload_n hx hb d_Mo_flex_95 rfl (lv_at hl 1 rfl) ?_
          refine lv_aload_n hx hb d_Mo_flex_96 rfl (lv_at hl 0 rfl) ?_
          refine lv_iconst (v := 0) hx hb d_Mo_flex_97 (by decide) ?_
          refine va_iald hx hb hZ.1 hP 0 1 rfl rfl (show vp_in (nI 0) 48 from vp_in_nI (by decide) (by decide)) d_Mo_flex_98 ?_
          refine lv_tv (y := g_stack 0) rfl ?_
          refine lv_iconst (v := 0) hx hb d_Mo_flex_99 (by decide) ?_
          refine lv_aload_n hx hb d_Mo_flex_100 rfl (lv_at hl 0 rfl) ?_
          refine lv_iconst (v := 1) hx hb d_Mo_flex_101 (by decide) ?_
          refine va_iald hx hb hZ.1 hP 0 1 rfl rfl (show vp_in (nI 1) 48 from vp_in_nI (by decide) (by decide)) d_Mo_flex_102 ?_
          refine lv_tv (y := g_stack 1) rfl ?_
          refine lv_aload_n hx hb d_Mo_flex_103 rfl (lv_at hl 0 rfl) ?_
          refine lv_iconst (v := 2) hx hb d_Mo_flex_104 (by decide) ?_
          refine va_iald hx hb hZ.1 hP 0 1 rfl rfl (show vp_in (nI 2) 48 from vp_in_nI (by decide) (by decide)) d_Mo_flex_105 ?_
          refine lv_tv (y := g_stack 2) rfl ?_
          refine lv_aload_n hx hb d_Mo_flex_106 rfl (lv_at hl 0 rfl) ?_
          refine lv_iconst (v := 3) hx hb d_Mo_flex_107 (by decide) ?_
          refine va_iald hx hb hZ.1 hP 0 1 rfl rfl (show vp_in (nI 3) 48 from vp_in_nI (by decide) (by decide)) d_Mo_flex_108 ?_
          refine lv_tv (y := g_stack 3) rfl ?_
          refine lv_iconst (v := 0) hx hb d_Mo_flex_109 (by decide) ?_
          have hC : Cut [(m_stack, .inl (cI, 48, .inl g_stack)), (m_mark, .inl (cI, 28000, .inl g_mark)), (mo, .inr (8, [.int z_fault, .int z_size, .ref m_row, .ref m_shelves, .ref m_many, .ref m_widths, .int (nI mk), .ref m_mark, .int z_shown, .ref m_shownMark, .int z_wasRun, .int z_wrong_20, .int z_ended, .int (nI sp), .int z_hints, .int z_hasWidth, .int z_width, .int z_first, .int z_moved, .int z_deepest, .int z_x, .int z_y, .int (nI t), .ref m_stack, .ref m_places, .int (nI d), .ref m_kinds, .ref m_ats, .ref m_ends]))] [(mo, .inr (8, [.int z_fault, .int z_size, .ref m_row, .ref m_shelves, .ref m_many, .ref m_widths, .int (nI mk), .ref m_mark, .int z_shown, .ref m_shownMark, .int z_wasRun, .int z_wrong_20, .int z_ended, .int (nI sp), .int z_hints, .int z_hasWidth, .int z_width, .int z_first, .int z_moved, .int z_deepest, .int z_x, .int z_y, .int (nI t), .ref m_stack, .ref m_places, .int (nI d), .ref m_kinds, .ref m_ats, .ref m_ends])), (m_mark, .inl (cI, 28000, .inl g_mark))] [(m_stack, .inl (cI, 48, .inl g_stack))] [2, 1] [0] := ⟨rfl, rfl, rfl, rfl, by decide⟩
          refine goV0 (trV (As := [.int (g_stack 0), .int 0, .int (g_stack 1), .int (g_stack 2), .int (g_stack 3), .int 0]) (rest := []) ⟨hx, hb, hml, hown, hts⟩ gd_good (c_Mo_curve l D cB cI cJ mo m_row m_shelves m_many m_widths m_mark m_shownMark m_stack m_places m_kinds m_ats m_ends mk sp t d z_fault z_size z_shown z_wasRun z_wrong_20 z_ended z_hints z_hasWidth z_width z_first z_moved z_deepest z_x z_y g_mark (g_stack 0) 0 (g_stack 1) (g_stack 2) (g_stack 3) 0 (by omega) ) cal_Mo_curve ml_Mo_158 ⟨Nat.le_of_ble_eq_true rfl, Nat.le_of_ble_eq_true rfl⟩ hZ hP hD hC 2 (ci := 8) rfl rfl rfl rfl hl.1 rfl (Nat.le_of_ble_eq_true rfl) d_Mo_flex_110 ⟨Nat.le_of_ble_eq_true rfl, Nat.le_of_ble_eq_true rfl⟩) hZ hP hD hS hC (fun w1 H locs hq hP hD hS => ?_)
          obtain ⟨z_x_21, z_y_21, z_wrong_21, mk_21, g_mark_21, rfl, hv_21⟩ := hq
          have hP : va_P D classes [(m_stack, .inl (cI, 48, .inl g_stack)), (mo, .inr (8, [.int z_fault, .int z_size, .ref m_row, .ref m_shelves, .ref m_many, .ref m_widths, .int (nI mk_21), .ref m_mark, .int z_shown, .ref m_shownMark, .int z_wasRun, .int z_wrong_21, .int z_ended, .int (nI sp), .int z_hints, .int z_hasWidth, .int z_width, .int z_first, .int z_moved, .int z_deepest, .int z_x_21, .int z_y_21, .int (nI t), .ref m_stack, .ref m_places, .int (nI d), .ref m_kinds, .ref m_ats, .ref m_ends])), (m_mark, .inl (cI, 28000, .inl g_mark_21))] H := hP
          have hD : va_D A_ [(m_stack, .inl (cI, 48, .inl g_stack)), (mo, .inr (8, [.int z_fault, .int z_size, .ref m_row, .ref m_shelves, .ref m_many, .ref m_widths, .int (nI mk_21), .ref m_mark, .int z_shown, .ref m_shownMark, .int z_wasRun, .int z_wrong_21, .int z_ended, .int (nI sp), .int z_hints, .int z_hasWidth, .int z_width, .int z_first, .int z_moved, .int z_deepest, .int z_x_21, .int z_y_21, .int (nI t), .ref m_stack, .ref m_places, .int (nI d), .ref m_kinds, .ref m_ats, .ref m_ends])), (m_mark, .inl (cI, 28000, .inl g_mark_21))] := hD
          refine lv_aload_n hx hb d_Mo_flex_113 rfl (lv_at hl 1 rfl) ?_
          refine lv_aload_n hx hb d_Mo_flex_114 rfl (lv_at hl 0 rfl) ?_
          refine lv_iconst (v := 4) hx hb d_Mo_flex_115 (by decide) ?_
          refine va_iald hx hb hZ.1 hP 0 1 rfl rfl (show vp_in (nI 4) 48 from vp_in_nI (by decide) (by decide)) d_Mo_flex_116 ?_
          refine lv_tv (y := g_stack 4) rfl ?_
          refine lv_iconst (v := 0) hx hb d_Mo_flex_117 (by decide) ?_
          refine lv_aload_n hx hb d_Mo_flex_118 rfl (lv_at hl 0 rfl) ?_
          refine lv_iconst (v := 5) hx hb d_Mo_flex_119 (by decide) ?_
          refine va_iald hx hb hZ.1 hP 0 1 rfl rfl (show vp_in (nI 5) 48 from vp_in_nI (by decide) (by decide)) d_Mo_flex_120 ?_
          refine lv_tv (y := g_stack 5) rfl ?_
          refine lv_aload_n hx hb d_Mo_flex_121 rfl (lv_at hl 0 rfl) ?_
          refine lv_iconst (v := 2) hx hb d_Mo_flex_122 (by decide) ?_
          refine va_iald hx hb hZ.1 hP 0 1 rfl rfl (show vp_in (nI 2) 48 from vp_in_nI (by decide) (by decide)) d_Mo_flex_123 ?_
          refine lv_tv (y := g_stack 2) rfl ?_
          refine lv_ineg hx hb d_Mo_flex_124 ?_
          refine lv_aload_n hx hb d_Mo_flex_125 rfl (lv_at hl 0 rfl) ?_
          refine lv_bipush (v := 6) hx hb d_Mo_flex_126 (by decide) ?_
          refine va_iald hx hb hZ.1 hP 0 1 rfl rfl (show vp_in (nI 6) 48 from vp_in_nI (by decide) (by decide)) d_Mo_flex_128 ?_
          refine lv_tv (y := g_stack 6) rfl ?_
          refine lv_iconst (v := 0) hx hb d_Mo_flex_129 (by decide) ?_
          have hC : Cut [(m_stack, .inl (cI, 48, .inl g_stack)), (mo, .inr (8, [.int z_fault, .int z_size, .ref m_row, .ref m_shelves, .ref m_many, .ref m_widths, .int (nI mk_21), .ref m_mark, .int z_shown, .ref m_shownMark, .int z_wasRun, .int z_wrong_21, .int z_ended, .int (nI sp), .int z_hints, .int z_hasWidth, .int z_width, .int z_first, .int z_moved, .int z_deepest, .int z_x_21, .int z_y_21, .int (nI t), .ref m_stack, .ref m_places, .int (nI d), .ref m_kinds, .ref m_ats, .ref m_ends])), (m_mark, .inl (cI, 28000, .inl g_mark_21))] [(mo, .inr (8, [.int z_fault, .int z_size, .ref m_row, .ref m_shelves, .ref m_many, .ref m_widths, .int (nI mk_21), .ref m_mark, .int z_shown, .ref m_shownMark, .int z_wasRun, .int z_wrong_21, .int z_ended, .int (nI sp), .int z_hints, .int z_hasWidth, .int z_width, .int z_first, .int z_moved, .int z_deepest, .int z_x_21, .int z_y_21, .int (nI t), .ref m_stack, .ref m_places, .int (nI d), .ref m_kinds, .ref m_ats, .ref m_ends])), (m_mark, .inl (cI, 28000, .inl g_mark_21))] [(m_stack, .inl (cI, 48, .inl g_stack))] [1, 2] [0] := ⟨rfl, rfl, rfl, rfl, by decide⟩
          refine goV0 (trV (As := [.int (g_stack 4), .int 0, .int (g_stack 5), .int (-(g_stack 2)), .int (g_stack 6), .int 0]) (rest := []) ⟨hx, hb, hml, hown, hts⟩ gd_good (c_Mo_two l D cB cI cJ mo m_row m_shelves m_many m_widths m_mark m_shownMark m_stack m_places m_kinds m_ats m_ends mk_21 sp t d z_fault z_size z_shown z_wasRun z_wrong_21 z_ended z_hints z_hasWidth z_width z_first z_moved z_deepest z_x_21 z_y_21 g_mark_21 (g_stack 4) 0 (g_stack 5) (-(g_stack 2)) (g_stack 6) 0 (by omega) ) cal_Mo_two ml_Mo_172 ⟨Nat.le_of_ble_eq_true rfl, Nat.le_of_ble_eq_true rfl⟩ hZ hP hD hC 1 (ci := 8) rfl rfl rfl rfl hl.1 rfl (Nat.le_of_ble_eq_true rfl) d_Mo_flex_130 ⟨Nat.le_of_ble_eq_true rfl, Nat.le_of_ble_eq_true rfl⟩) hZ hP hD hS hC (fun w1 H locs hq hP hD hS => ?_)
          obtain ⟨z_x_22, z_y_22, z_wrong_22, mk_22, t_22, g_mark_22, rfl, hv_22⟩ := hq
          have hP : va_P D classes [(m_stack, .inl (cI, 48, .inl g_stack)), (mo, .inr (8, [.int z_fault, .int z_size, .ref m_row, .ref m_shelves, .ref m_many, .ref m_widths, .int (nI mk_22), .ref m_mark, .int z_shown, .ref m_shownMark, .int z_wasRun, .int z_wrong_22, .int z_ended, .int (nI sp), .int z_hints, .int z_hasWidth, .int z_width, .int z_first, .int z_moved, .int z_deepest, .int z_x_22, .int z_y_22, .int (nI t_22), .ref m_stack, .ref m_places, .int (nI d), .ref m_kinds, .ref m_ats, .ref m_ends])), (m_mark, .inl (cI, 28000, .inl g_mark_22))] H := hP
          have hD : va_D A_ [(m_stack, .inl (cI, 48, .inl g_stack)), (mo, .inr (8, [.int z_fault, .int z_size, .ref m_row, .ref m_shelves, .ref m_many, .ref m_widths, .int (nI mk_22), .ref m_mark, .int z_shown, .ref m_shownMark, .int z_wasRun, .int z_wrong_22, .int z_ended, .int (nI sp), .int z_hints, .int z_hasWidth, .int z_width, .int z_first, .int z_moved, .int z_deepest, .int z_x_22, .int z_y_22, .int (nI t_22), .ref m_stack, .ref m_places, .int (nI d), .ref m_kinds, .ref m_ats, .ref m_ends])), (m_mark, .inl (cI, 28000, .inl g_mark_22))] := hD
          refine lv_goto (tgt := 365) hx hb d_Mo_flex_133 (by decide) ?_
          exact t_vret hx hb hr hlk d_Mo_flex_365 (hP.subm (ws' := [(mo, .inr (8, [.int z_fault, .int z_size, .ref m_row, .ref m_shelves, .ref m_many, .ref m_widths, .int (nI mk_22), .ref m_mark, .int z_shown, .ref m_shownMark, .int z_wasRun, .int z_wrong_22, .int z_ended, .int (nI sp), .int z_hints, .int z_hasWidth, .int z_width, .int z_first, .int z_moved, .int z_deepest, .int z_x_22, .int z_y_22, .int (nI t_22), .ref m_stack, .ref m_places, .int (nI d), .ref m_kinds, .ref m_ats, .ref m_ends])), (m_stack, .inl (cI, 48, .inl g_stack)), (m_mark, .inl (cI, 28000, .inl g_mark_22))]) [1, 0, 2] rfl) (hD.sub (ws' := [(mo, .inr (8, [.int z_fault, .int z_size, .ref m_row, .ref m_shelves, .ref m_many, .ref m_widths, .int (nI mk_22), .ref m_mark, .int z_shown, .ref m_shownMark, .int z_wasRun, .int z_wrong_22, .int z_ended, .int (nI sp), .int z_hints, .int z_hasWidth, .int z_width, .int z_first, .int z_moved, .int z_deepest, .int z_x_22, .int z_y_22, .int (nI t_22), .ref m_stack, .ref m_places, .int (nI d), .ref m_kinds, .ref m_ats, .ref m_ends])), (m_stack, .inl (cI, 48, .inl g_stack)), (m_mark, .inl (cI, 28000, .inl g_mark_22))]) [1, 0, 2] rfl rfl) hS ⟨rfl, rfl, rfl, _, _, _, mk_22, t_22, _, rfl, (by omega)⟩
  · refine lv_aload_n hx hb d_Mo_flex_11 rfl (lv_at hl 1 rfl) ?_
    refine lv_aload_n hx hb d_Mo_flex_12 rfl (lv_at hl 1 rfl) ?_
    refine va_get (D := D) (ci := 8) (v := .int (nI t)) (C := R_Mo) (T := F_Mo) (N := 29) hx hb hts i_Mo hown hZ.1 hP 0 rfl rfl 22 (by decide) (hts _ fl_Mo_82) (fun _ h9 => h9) rfl d_Mo_flex_13 ?_
    refine lv_bipush (v := 13) hx hb d_Mo_flex_16 (by decide) ?_
    refine lv_icmp_ne (tgt := 25) hx hb d_Mo_flex_18 (by decide) (fun c_18 => ?_) (fun c_18 => ?_)
    · have n_18 : ¬ (t) = (13) := fun z => c_18 ((nI_eq (a := t) (b := 13) (by omega) (by omega)).mpr z)
      refine lv_iconst (v := 0) hx hb d_Mo_flex_25 (by decide) ?_
      have hC : Cut [(mo, .inr (8, [.int z_fault, .int z_size, .ref m_row, .ref m_shelves, .ref m_many, .ref m_widths, .int (nI mk), .ref m_mark, .int z_shown, .ref m_shownMark, .int z_wasRun, .int z_wrong, .int z_ended, .int (nI sp), .int z_hints, .int z_hasWidth, .int z_width, .int z_first, .int z_moved, .int z_deepest, .int z_x, .int z_y, .int (nI t), .ref m_stack, .ref m_places, .int (nI d), .ref m_kinds, .ref m_ats, .ref m_ends])), (m_stack, .inl (cI, 48, .inl g_stack)), (m_mark, .inl (cI, 28000, .inl g_mark))] [(mo, .inr (8, [.int z_fault, .int z_size, .ref m_row, .ref m_shelves, .ref m_many, .ref m_widths, .int (nI mk), .ref m_mark, .int z_shown, .ref m_shownMark, .int z_wasRun, .int z_wrong, .int z_ended, .int (nI sp), .int z_hints, .int z_hasWidth, .int z_width, .int z_first, .int z_moved, .int z_deepest, .int z_x, .int z_y, .int (nI t), .ref m_stack, .ref m_places, .int (nI d), .ref m_kinds, .ref m_ats, .ref m_ends]))] [(m_stack, .inl (cI, 48, .inl g_stack)), (m_mark, .inl (cI, 28000, .inl g_mark))] [0] [1, 2] := ⟨rfl, rfl, rfl, rfl, by decide⟩
      refine goI0 (trV (As := [.int 0]) (rest := []) ⟨hx, hb, hml, hown, hts⟩ gd_good (c_Mo_may l D cB cI cJ mo m_row m_shelves m_many m_widths m_mark m_shownMark m_stack m_places m_kinds m_ats m_ends mk sp t d z_fault z_size z_shown z_wasRun z_wrong z_ended z_hints z_hasWidth z_width z_first z_moved z_deepest z_x z_y 0 (by omega) ) cal_Mo_may ml_Mo_162 ⟨Nat.le_of_ble_eq_true rfl, Nat.le_of_ble_eq_true rfl⟩ hZ hP hD hC 0 (ci := 8) rfl rfl rfl rfl hl.1 rfl (Nat.le_of_ble_eq_true rfl) d_Mo_flex_26 ⟨Nat.le_of_ble_eq_true rfl, Nat.le_of_ble_eq_true rfl⟩) hZ hP hD hS hC (fun r_26 w1 H locs hq hP hD hS => ?_)
      obtain ⟨z_wrong_23, rfl, hv_23, hx_23, hz_23⟩ := hq
      have hP : va_P D classes [(m_stack, .inl (cI, 48, .inl g_stack)), (m_mark, .inl (cI, 28000, .inl g_mark)), (mo, .inr (8, [.int z_fault, .int z_size, .ref m_row, .ref m_shelves, .ref m_many, .ref m_widths, .int (nI mk), .ref m_mark, .int z_shown, .ref m_shownMark, .int z_wasRun, .int z_wrong_23, .int z_ended, .int (nI sp), .int z_hints, .int z_hasWidth, .int z_width, .int z_first, .int z_moved, .int z_deepest, .int z_x, .int z_y, .int (nI t), .ref m_stack, .ref m_places, .int (nI d), .ref m_kinds, .ref m_ats, .ref m_ends]))] H := hP
      have hD : va_D A_ [(m_stack, .inl (cI, 48, .inl g_stack)), (m_mark, .inl (cI, 28000, .inl g_mark)), (mo, .inr (8, [.int z_fault, .int z_size, .ref m_row, .ref m_shelves, .ref m_many, .ref m_widths, .int (nI mk), .ref m_mark, .int z_shown, .ref m_shownMark, .int z_wasRun, .int z_wrong_23, .int z_ended, .int (nI sp), .int z_hints, .int z_hasWidth, .int z_width, .int z_first, .int z_moved, .int z_deepest, .int z_x, .int z_y, .int (nI t), .ref m_stack, .ref m_places, .int (nI d), .ref m_kinds, .ref m_ats, .ref m_ends]))] := hD
      refine lv_if_eq (tgt := 68) hx hb d_Mo_flex_29 (by decide) (fun c_29 => ?_) (fun c_29 => ?_)
      · refine lv_iload_n hx hb d_Mo_flex_68 rfl (lv_at hl 2 rfl) ?_
        refine lv_bipush (v := 34) hx hb d_Mo_flex_69 (by decide) ?_
        refine lv_icmp_ne (tgt := 136) hx hb d_Mo_flex_71 (by decide) (fun c_71 => ?_) (fun c_71 => absurd c_71 (fun z => absurd (c_8.symm.trans z) (by decide)))
        refine lv_iload_n hx hb d_Mo_flex_136 rfl (lv_at hl 2 rfl) ?_
        refine lv_bipush (v := 36) hx hb d_Mo_flex_137 (by decide) ?_
        refine lv_icmp_ne (tgt := 219) hx hb d_Mo_flex_139 (by decide) (fun c_139 => ?_) (fun c_139 => absurd c_139 (fun z => absurd (c_8.symm.trans z) (by decide)))
        refine lv_iload_n hx hb d_Mo_flex_219 rfl (lv_at hl 2 rfl) ?_
        refine lv_bipush (v := 37) hx hb d_Mo_flex_220 (by decide) ?_
        refine lv_icmp_ne (tgt := 365) hx hb d_Mo_flex_222 (by decide) (fun c_222 => ?_) (fun c_222 => absurd c_222 (fun z => absurd (c_8.symm.trans z) (by decide)))
        exact t_vret hx hb hr hlk d_Mo_flex_365 (hP.subm (ws' := [(mo, .inr (8, [.int z_fault, .int z_size, .ref m_row, .ref m_shelves, .ref m_many, .ref m_widths, .int (nI mk), .ref m_mark, .int z_shown, .ref m_shownMark, .int z_wasRun, .int z_wrong_23, .int z_ended, .int (nI sp), .int z_hints, .int z_hasWidth, .int z_width, .int z_first, .int z_moved, .int z_deepest, .int z_x, .int z_y, .int (nI t), .ref m_stack, .ref m_places, .int (nI d), .ref m_kinds, .ref m_ats, .ref m_ends])), (m_stack, .inl (cI, 48, .inl g_stack)), (m_mark, .inl (cI, 28000, .inl g_mark))]) [2, 0, 1] rfl) (hD.sub (ws' := [(mo, .inr (8, [.int z_fault, .int z_size, .ref m_row, .ref m_shelves, .ref m_many, .ref m_widths, .int (nI mk), .ref m_mark, .int z_shown, .ref m_shownMark, .int z_wasRun, .int z_wrong_23, .int z_ended, .int (nI sp), .int z_hints, .int z_hasWidth, .int z_width, .int z_first, .int z_moved, .int z_deepest, .int z_x, .int z_y, .int (nI t), .ref m_stack, .ref m_places, .int (nI d), .ref m_kinds, .ref m_ats, .ref m_ends])), (m_stack, .inl (cI, 48, .inl g_stack)), (m_mark, .inl (cI, 28000, .inl g_mark))]) [2, 0, 1] rfl rfl) hS ⟨rfl, rfl, rfl, _, _, _, mk, t, _, rfl, (by omega)⟩
      · refine lv_aload_n hx hb d_Mo_flex_32 rfl (lv_at hl 1 rfl) ?_
        refine lv_iconst (v := 0) hx hb d_Mo_flex_33 (by decide) ?_
        have hC : Cut [(m_stack, .inl (cI, 48, .inl g_stack)), (m_mark, .inl (cI, 28000, .inl g_mark)), (mo, .inr (8, [.int z_fault, .int z_size, .ref m_row, .ref m_shelves, .ref m_many, .ref m_widths, .int (nI mk), .ref m_mark, .int z_shown, .ref m_shownMark, .int z_wasRun, .int z_wrong_23, .int z_ended, .int (nI sp), .int z_hints, .int z_hasWidth, .int z_width, .int z_first, .int z_moved, .int z_deepest, .int z_x, .int z_y, .int (nI t), .ref m_stack, .ref m_places, .int (nI d), .ref m_kinds, .ref m_ats, .ref m_ends]))] [(mo, .inr (8, [.int z_fault, .int z_size, .ref m_row, .ref m_shelves, .ref m_many, .ref m_widths, .int (nI mk), .ref m_mark, .int z_shown, .ref m_shownMark, .int z_wasRun, .int z_wrong_23, .int z_ended, .int (nI sp), .int z_hints, .int z_hasWidth, .int z_width, .int z_first, .int z_moved, .int z_deepest, .int z_x, .int z_y, .int (nI t), .ref m_stack, .ref m_places, .int (nI d), .ref m_kinds, .ref m_ats, .ref m_ends])), (m_stack, .inl (cI, 48, .inl g_stack)), (m_mark, .inl (cI, 28000, .inl g_mark))] [] [2, 0, 1] [] := ⟨rfl, rfl, rfl, rfl, by decide⟩
        refine goV0 (trV (As := [.int 0]) (rest := []) ⟨hx, hb, hml, hown, hts⟩ gd_good (c_Mo_six l D cB cI cJ mo m_row m_shelves m_many m_widths m_mark m_shownMark m_stack m_places m_kinds m_ats m_ends mk sp t d z_fault z_size z_shown z_wasRun z_wrong_23 z_ended z_hints z_hasWidth z_width z_first z_moved z_deepest z_x z_y g_stack g_mark 0 (by omega) (by omega)) cal_Mo_six ml_Mo_169 ⟨Nat.le_of_ble_eq_true rfl, Nat.le_of_ble_eq_true rfl⟩ hZ hP hD hC 2 (ci := 8) rfl rfl rfl rfl hl.1 rfl (Nat.le_of_ble_eq_true rfl) d_Mo_flex_34 ⟨Nat.le_of_ble_eq_true rfl, Nat.le_of_ble_eq_true rfl⟩) hZ hP hD hS hC (fun w1 H locs hq hP hD hS => ?_)
        obtain ⟨z_x_24, z_y_24, z_wrong_24, mk_24, g_mark_24, rfl, hv_24⟩ := hq
        have hP : va_P D classes [(mo, .inr (8, [.int z_fault, .int z_size, .ref m_row, .ref m_shelves, .ref m_many, .ref m_widths, .int (nI mk_24), .ref m_mark, .int z_shown, .ref m_shownMark, .int z_wasRun, .int z_wrong_24, .int z_ended, .int (nI sp), .int z_hints, .int z_hasWidth, .int z_width, .int z_first, .int z_moved, .int z_deepest, .int z_x_24, .int z_y_24, .int (nI t), .ref m_stack, .ref m_places, .int (nI d), .ref m_kinds, .ref m_ats, .ref m_ends])), (m_stack, .inl (cI, 48, .inl g_stack)), (m_mark, .inl (cI, 28000, .inl g_mark_24))] H := hP
        have hD : va_D A_ [(mo, .inr (8, [.int z_fault, .int z_size, .ref m_row, .ref m_shelves, .ref m_many, .ref m_widths, .int (nI mk_24), .ref m_mark, .int z_shown, .ref m_shownMark, .int z_wasRun, .int z_wrong_24, .int z_ended, .int (nI sp), .int z_hints, .int z_hasWidth, .int z_width, .int z_first, .int z_moved, .int z_deepest, .int z_x_24, .int z_y_24, .int (nI t), .ref m_stack, .ref m_places, .int (nI d), .ref m_kinds, .ref m_ats, .ref m_ends])), (m_stack, .inl (cI, 48, .inl g_stack)), (m_mark, .inl (cI, 28000, .inl g_mark_24))] := hD
        refine lv_aload_n hx hb d_Mo_flex_37 rfl (lv_at hl 1 rfl) ?_
        refine lv_aload_n hx hb d_Mo_flex_38 rfl (lv_at hl 0 rfl) ?_
        refine lv_bipush (v := 6) hx hb d_Mo_flex_39 (by decide) ?_
        refine va_iald hx hb hZ.1 hP 1 1 rfl rfl (show vp_in (nI 6) 48 from vp_in_nI (by decide) (by decide)) d_Mo_flex_41 ?_
        refine lv_tv (y := g_stack 6) rfl ?_
        refine lv_aload_n hx hb d_Mo_flex_42 rfl (lv_at hl 0 rfl) ?_
        refine lv_bipush (v := 7) hx hb d_Mo_flex_43 (by decide) ?_
        refine va_iald hx hb hZ.1 hP 1 1 rfl rfl (show vp_in (nI 7) 48 from vp_in_nI (by decide) (by decide)) d_Mo_flex_45 ?_
        refine lv_tv (y := g_stack 7) rfl ?_
        refine lv_aload_n hx hb d_Mo_flex_46 rfl (lv_at hl 0 rfl) ?_
        refine lv_bipush (v := 8) hx hb d_Mo_flex_47 (by decide) ?_
        refine va_iald hx hb hZ.1 hP 1 1 rfl rfl (show vp_in (nI 8) 48 from vp_in_nI (by decide) (by decide)) d_Mo_flex_49 ?_
        refine lv_tv (y := g_stack 8) rfl ?_
        refine lv_aload_n hx hb d_Mo_flex_50 rfl (lv_at hl 0 rfl) ?_
        refine lv_bipush (v := 9) hx hb d_Mo_flex_51 (by decide) ?_
        refine va_iald hx hb hZ.1 hP 1 1 rfl rfl (show vp_in (nI 9) 48 from vp_in_nI (by decide) (by decide)) d_Mo_flex_53 ?_
        refine lv_tv (y := g_stack 9) rfl ?_
        refine lv_aload_n hx hb d_Mo_flex_54 rfl (lv_at hl 0 rfl) ?_
        refine lv_bipush (v := 10) hx hb d_Mo_flex_55 (by decide) ?_
        refine va_iald hx hb hZ.1 hP 1 1 rfl rfl (show vp_in (nI 10) 48 from vp_in_nI (by decide) (by decide)) d_Mo_flex_57 ?_
        refine lv_tv (y := g_stack 10) rfl ?_
        refine lv_aload_n hx hb d_Mo_flex_58 rfl (lv_at hl 0 rfl) ?_
        refine lv_bipush (v := 11) hx hb d_Mo_flex_59 (by decide) ?_
        refine va_iald hx hb hZ.1 hP 1 1 rfl rfl (show vp_in (nI 11) 48 from vp_in_nI (by decide) (by decide)) d_Mo_flex_61 ?_
        refine lv_tv (y := g_stack 11) rfl ?_
        have hC : Cut [(mo, .inr (8, [.int z_fault, .int z_size, .ref m_row, .ref m_shelves, .ref m_many, .ref m_widths, .int (nI mk_24), .ref m_mark, .int z_shown, .ref m_shownMark, .int z_wasRun, .int z_wrong_24, .int z_ended, .int (nI sp), .int z_hints, .int z_hasWidth, .int z_width, .int z_first, .int z_moved, .int z_deepest, .int z_x_24, .int z_y_24, .int (nI t), .ref m_stack, .ref m_places, .int (nI d), .ref m_kinds, .ref m_ats, .ref m_ends])), (m_stack, .inl (cI, 48, .inl g_stack)), (m_mark, .inl (cI, 28000, .inl g_mark_24))] [(mo, .inr (8, [.int z_fault, .int z_size, .ref m_row, .ref m_shelves, .ref m_many, .ref m_widths, .int (nI mk_24), .ref m_mark, .int z_shown, .ref m_shownMark, .int z_wasRun, .int z_wrong_24, .int z_ended, .int (nI sp), .int z_hints, .int z_hasWidth, .int z_width, .int z_first, .int z_moved, .int z_deepest, .int z_x_24, .int z_y_24, .int (nI t), .ref m_stack, .ref m_places, .int (nI d), .ref m_kinds, .ref m_ats, .ref m_ends])), (m_mark, .inl (cI, 28000, .inl g_mark_24))] [(m_stack, .inl (cI, 48, .inl g_stack))] [0, 2] [1] := ⟨rfl, rfl, rfl, rfl, by decide⟩
        refine goV0 (trV (As := [.int (g_stack 6), .int (g_stack 7), .int (g_stack 8), .int (g_stack 9), .int (g_stack 10), .int (g_stack 11)]) (rest := []) ⟨hx, hb, hml, hown, hts⟩ gd_good (c_Mo_two l D cB cI cJ mo m_row m_shelves m_many m_widths m_mark m_shownMark m_stack m_places m_kinds m_ats m_ends mk_24 sp t d z_fault z_size z_shown z_wasRun z_wrong_24 z_ended z_hints z_hasWidth z_width z_first z_moved z_deepest z_x_24 z_y_24 g_mark_24 (g_stack 6) (g_stack 7) (g_stack 8) (g_stack 9) (g_stack 10) (g_stack 11) (by omega) ) cal_Mo_two ml_Mo_172 ⟨Nat.le_of_ble_eq_true rfl, Nat.le_of_ble_eq_true rfl⟩ hZ hP hD hC 0 (ci := 8) rfl rfl rfl rfl hl.1 rfl (Nat.le_of_ble_eq_true rfl) d_Mo_flex_62 ⟨Nat.le_of_ble_eq_true rfl, Nat.le_of_ble_eq_true rfl⟩) hZ hP hD hS hC (fun w1 H locs hq hP hD hS => ?_)
        obtain ⟨z_x_25, z_y_25, z_wrong_25, mk_25, t_25, g_mark_25, rfl, hv_25⟩ := hq
        have hP : va_P D classes [(m_stack, .inl (cI, 48, .inl g_stack)), (mo, .inr (8, [.int z_fault, .int z_size, .ref m_row, .ref m_shelves, .ref m_many, .ref m_widths, .int (nI mk_25), .ref m_mark, .int z_shown, .ref m_shownMark, .int z_wasRun, .int z_wrong_25, .int z_ended, .int (nI sp), .int z_hints, .int z_hasWidth, .int z_width, .int z_first, .int z_moved, .int z_deepest, .int z_x_25, .int z_y_25, .int (nI t_25), .ref m_stack, .ref m_places, .int (nI d), .ref m_kinds, .ref m_ats, .ref m_ends])), (m_mark, .inl (cI, 28000, .inl g_mark_25))] H := hP
        have hD : va_D A_ [(m_stack, .inl (cI, 48, .inl g_stack)), (mo, .inr (8, [.int z_fault, .int z_size, .ref m_row, .ref m_shelves, .ref m_many, .ref m_widths, .int (nI mk_25), .ref m_mark, .int z_shown, .ref m_shownMark, .int z_wasRun, .int z_wrong_25, .int z_ended, .int (nI sp), .int z_hints, .int z_hasWidth, .int z_width, .int z_first, .int z_moved, .int z_deepest, .int z_x_25, .int z_y_25, .int (nI t_25), .ref m_stack, .ref m_places, .int (nI d), .ref m_kinds, .ref m_ats, .ref m_ends])), (m_mark, .inl (cI, 28000, .inl g_mark_25))] := hD
        refine lv_goto (tgt := 365) hx hb d_Mo_flex_65 (by decide) ?_
        exact t_vret hx hb hr hlk d_Mo_flex_365 (hP.subm (ws' := [(mo, .inr (8, [.int z_fault, .int z_size, .ref m_row, .ref m_shelves, .ref m_many, .ref m_widths, .int (nI mk_25), .ref m_mark, .int z_shown, .ref m_shownMark, .int z_wasRun, .int z_wrong_25, .int z_ended, .int (nI sp), .int z_hints, .int z_hasWidth, .int z_width, .int z_first, .int z_moved, .int z_deepest, .int z_x_25, .int z_y_25, .int (nI t_25), .ref m_stack, .ref m_places, .int (nI d), .ref m_kinds, .ref m_ats, .ref m_ends])), (m_stack, .inl (cI, 48, .inl g_stack)), (m_mark, .inl (cI, 28000, .inl g_mark_25))]) [1, 0, 2] rfl) (hD.sub (ws' := [(mo, .inr (8, [.int z_fault, .int z_size, .ref m_row, .ref m_shelves, .ref m_many, .ref m_widths, .int (nI mk_25), .ref m_mark, .int z_shown, .ref m_shownMark, .int z_wasRun, .int z_wrong_25, .int z_ended, .int (nI sp), .int z_hints, .int z_hasWidth, .int z_width, .int z_first, .int z_moved, .int z_deepest, .int z_x_25, .int z_y_25, .int (nI t_25), .ref m_stack, .ref m_places, .int (nI d), .ref m_kinds, .ref m_ats, .ref m_ends])), (m_stack, .inl (cI, 48, .inl g_stack)), (m_mark, .inl (cI, 28000, .inl g_mark_25))]) [1, 0, 2] rfl rfl) hS ⟨rfl, rfl, rfl, _, _, _, mk_25, t_25, _, rfl, (by omega)⟩
    · have n_18 : (t) = (13) := (nI_eq (a := t) (b := 13) (by omega) (by omega)).mp c_18
      refine lv_iconst (v := 1) hx hb d_Mo_flex_21 (by decide) ?_
      refine lv_goto (tgt := 26) hx hb d_Mo_flex_22 (by decide) ?_
      have hC : Cut [(mo, .inr (8, [.int z_fault, .int z_size, .ref m_row, .ref m_shelves, .ref m_many, .ref m_widths, .int (nI mk), .ref m_mark, .int z_shown, .ref m_shownMark, .int z_wasRun, .int z_wrong, .int z_ended, .int (nI sp), .int z_hints, .int z_hasWidth, .int z_width, .int z_first, .int z_moved, .int z_deepest, .int z_x, .int z_y, .int (nI t), .ref m_stack, .ref m_places, .int (nI d), .ref m_kinds, .ref m_ats, .ref m_ends])), (m_stack, .inl (cI, 48, .inl g_stack)), (m_mark, .inl (cI, 28000, .inl g_mark))] [(mo, .inr (8, [.int z_fault, .int z_size, .ref m_row, .ref m_shelves, .ref m_many, .ref m_widths, .int (nI mk), .ref m_mark, .int z_shown, .ref m_shownMark, .int z_wasRun, .int z_wrong, .int z_ended, .int (nI sp), .int z_hints, .int z_hasWidth, .int z_width, .int z_first, .int z_moved, .int z_deepest, .int z_x, .int z_y, .int (nI t), .ref m_stack, .ref m_places, .int (nI d), .ref m_kinds, .ref m_ats, .ref m_ends]))] [(m_stack, .inl (cI, 48, .inl g_stack)), (m_mark, .inl (cI, 28000, .inl g_mark))] [0] [1, 2] := ⟨rfl, rfl, rfl, rfl, by decide⟩
      refine goI0 (trV (As := [.int 1]) (rest := []) ⟨hx, hb, hml, hown, hts⟩ gd_good (c_Mo_may l D cB cI cJ mo m_row m_shelves m_many m_widths m_mark m_shownMark m_stack m_places m_kinds m_ats m_ends mk sp t d z_fault z_size z_shown z_wasRun z_wrong z_ended z_hints z_hasWidth z_width z_first z_moved z_deepest z_x z_y 1 (by omega) ) cal_Mo_may ml_Mo_162 ⟨Nat.le_of_ble_eq_true rfl, Nat.le_of_ble_eq_true rfl⟩ hZ hP hD hC 0 (ci := 8) rfl rfl rfl rfl hl.1 rfl (Nat.le_of_ble_eq_true rfl) d_Mo_flex_26 ⟨Nat.le_of_ble_eq_true rfl, Nat.le_of_ble_eq_true rfl⟩) hZ hP hD hS hC (fun r_26 w1 H locs hq hP hD hS => ?_)
      obtain ⟨z_wrong_26, rfl, hv_26, hx_26, hz_26⟩ := hq
      have hP : va_P D classes [(m_stack, .inl (cI, 48, .inl g_stack)), (m_mark, .inl (cI, 28000, .inl g_mark)), (mo, .inr (8, [.int z_fault, .int z_size, .ref m_row, .ref m_shelves, .ref m_many, .ref m_widths, .int (nI mk), .ref m_mark, .int z_shown, .ref m_shownMark, .int z_wasRun, .int z_wrong_26, .int z_ended, .int (nI sp), .int z_hints, .int z_hasWidth, .int z_width, .int z_first, .int z_moved, .int z_deepest, .int z_x, .int z_y, .int (nI t), .ref m_stack, .ref m_places, .int (nI d), .ref m_kinds, .ref m_ats, .ref m_ends]))] H := hP
      have hD : va_D A_ [(m_stack, .inl (cI, 48, .inl g_stack)), (m_mark, .inl (cI, 28000, .inl g_mark)), (mo, .inr (8, [.int z_fault, .int z_size, .ref m_row, .ref m_shelves, .ref m_many, .ref m_widths, .int (nI mk), .ref m_mark, .int z_shown, .ref m_shownMark, .int z_wasRun, .int z_wrong_26, .int z_ended, .int (nI sp), .int z_hints, .int z_hasWidth, .int z_width, .int z_first, .int z_moved, .int z_deepest, .int z_x, .int z_y, .int (nI t), .ref m_stack, .ref m_places, .int (nI d), .ref m_kinds, .ref m_ats, .ref m_ends]))] := hD
      refine lv_if_eq (tgt := 68) hx hb d_Mo_flex_29 (by decide) (fun c_29 => ?_) (fun c_29 => ?_)
      · refine lv_iload_n hx hb d_Mo_flex_68 rfl (lv_at hl 2 rfl) ?_
        refine lv_bipush (v := 34) hx hb d_Mo_flex_69 (by decide) ?_
        refine lv_icmp_ne (tgt := 136) hx hb d_Mo_flex_71 (by decide) (fun c_71 => ?_) (fun c_71 => absurd c_71 (fun z => absurd (c_8.symm.trans z) (by decide)))
        refine lv_iload_n hx hb d_Mo_flex_136 rfl (lv_at hl 2 rfl) ?_
        refine lv_bipush (v := 36) hx hb d_Mo_flex_137 (by decide) ?_
        refine lv_icmp_ne (tgt := 219) hx hb d_Mo_flex_139 (by decide) (fun c_139 => ?_) (fun c_139 => absurd c_139 (fun z => absurd (c_8.symm.trans z) (by decide)))
        refine lv_iload_n hx hb d_Mo_flex_219 rfl (lv_at hl 2 rfl) ?_
        refine lv_bipush (v := 37) hx hb d_Mo_flex_220 (by decide) ?_
        refine lv_icmp_ne (tgt := 365) hx hb d_Mo_flex_222 (by decide) (fun c_222 => ?_) (fun c_222 => absurd c_222 (fun z => absurd (c_8.symm.trans z) (by decide)))
        exact t_vret hx hb hr hlk d_Mo_flex_365 (hP.subm (ws' := [(mo, .inr (8, [.int z_fault, .int z_size, .ref m_row, .ref m_shelves, .ref m_many, .ref m_widths, .int (nI mk), .ref m_mark, .int z_shown, .ref m_shownMark, .int z_wasRun, .int z_wrong_26, .int z_ended, .int (nI sp), .int z_hints, .int z_hasWidth, .int z_width, .int z_first, .int z_moved, .int z_deepest, .int z_x, .int z_y, .int (nI t), .ref m_stack, .ref m_places, .int (nI d), .ref m_kinds, .ref m_ats, .ref m_ends])), (m_stack, .inl (cI, 48, .inl g_stack)), (m_mark, .inl (cI, 28000, .inl g_mark))]) [2, 0, 1] rfl) (hD.sub (ws' := [(mo, .inr (8, [.int z_fault, .int z_size, .ref m_row, .ref m_shelves, .ref m_many, .ref m_widths, .int (nI mk), .ref m_mark, .int z_shown, .ref m_shownMark, .int z_wasRun, .int z_wrong_26, .int z_ended, .int (nI sp), .int z_hints, .int z_hasWidth, .int z_width, .int z_first, .int z_moved, .int z_deepest, .int z_x, .int z_y, .int (nI t), .ref m_stack, .ref m_places, .int (nI d), .ref m_kinds, .ref m_ats, .ref m_ends])), (m_stack, .inl (cI, 48, .inl g_stack)), (m_mark, .inl (cI, 28000, .inl g_mark))]) [2, 0, 1] rfl rfl) hS ⟨rfl, rfl, rfl, _, _, _, mk, t, _, rfl, (by omega)⟩
      · refine lv_aload_n hx hb d_Mo_flex_32 rfl (lv_at hl 1 rfl) ?_
        refine lv_iconst (v := 0) hx hb d_Mo_flex_33 (by decide) ?_
        have hC : Cut [(m_stack, .inl (cI, 48, .inl g_stack)), (m_mark, .inl (cI, 28000, .inl g_mark)), (mo, .inr (8, [.int z_fault, .int z_size, .ref m_row, .ref m_shelves, .ref m_many, .ref m_widths, .int (nI mk), .ref m_mark, .int z_shown, .ref m_shownMark, .int z_wasRun, .int z_wrong_26, .int z_ended, .int (nI sp), .int z_hints, .int z_hasWidth, .int z_width, .int z_first, .int z_moved, .int z_deepest, .int z_x, .int z_y, .int (nI t), .ref m_stack, .ref m_places, .int (nI d), .ref m_kinds, .ref m_ats, .ref m_ends]))] [(mo, .inr (8, [.int z_fault, .int z_size, .ref m_row, .ref m_shelves, .ref m_many, .ref m_widths, .int (nI mk), .ref m_mark, .int z_shown, .ref m_shownMark, .int z_wasRun, .int z_wrong_26, .int z_ended, .int (nI sp), .int z_hints, .int z_hasWidth, .int z_width, .int z_first, .int z_moved, .int z_deepest, .int z_x, .int z_y, .int (nI t), .ref m_stack, .ref m_places, .int (nI d), .ref m_kinds, .ref m_ats, .ref m_ends])), (m_stack, .inl (cI, 48, .inl g_stack)), (m_mark, .inl (cI, 28000, .inl g_mark))] [] [2, 0, 1] [] := ⟨rfl, rfl, rfl, rfl, by decide⟩
        refine goV0 (trV (As := [.int 0]) (rest := []) ⟨hx, hb, hml, hown, hts⟩ gd_good (c_Mo_six l D cB cI cJ mo m_row m_shelves m_many m_widths m_mark m_shownMark m_stack m_places m_kinds m_ats m_ends mk sp t d z_fault z_size z_shown z_wasRun z_wrong_26 z_ended z_hints z_hasWidth z_width z_first z_moved z_deepest z_x z_y g_stack g_mark 0 (by omega) (by omega)) cal_Mo_six ml_Mo_169 ⟨Nat.le_of_ble_eq_true rfl, Nat.le_of_ble_eq_true rfl⟩ hZ hP hD hC 2 (ci := 8) rfl rfl rfl rfl hl.1 rfl (Nat.le_of_ble_eq_true rfl) d_Mo_flex_34 ⟨Nat.le_of_ble_eq_true rfl, Nat.le_of_ble_eq_true rfl⟩) hZ hP hD hS hC (fun w1 H locs hq hP hD hS => ?_)
        obtain ⟨z_x_27, z_y_27, z_wrong_27, mk_27, g_mark_27, rfl, hv_27⟩ := hq
        have hP : va_P D classes [(mo, .inr (8, [.int z_fault, .int z_size, .ref m_row, .ref m_shelves, .ref m_many, .ref m_widths, .int (nI mk_27), .ref m_mark, .int z_shown, .ref m_shownMark, .int z_wasRun, .int z_wrong_27, .int z_ended, .int (nI sp), .int z_hints, .int z_hasWidth, .int z_width, .int z_first, .int z_moved, .int z_deepest, .int z_x_27, .int z_y_27, .int (nI t), .ref m_stack, .ref m_places, .int (nI d), .ref m_kinds, .ref m_ats, .ref m_ends])), (m_stack, .inl (cI, 48, .inl g_stack)), (m_mark, .inl (cI, 28000, .inl g_mark_27))] H := hP
        have hD : va_D A_ [(mo, .inr (8, [.int z_fault, .int z_size, .ref m_row, .ref m_shelves, .ref m_many, .ref m_widths, .int (nI mk_27), .ref m_mark, .int z_shown, .ref m_shownMark, .int z_wasRun, .int z_wrong_27, .int z_ended, .int (nI sp), .int z_hints, .int z_hasWidth, .int z_width, .int z_first, .int z_moved, .int z_deepest, .int z_x_27, .int z_y_27, .int (nI t), .ref m_stack, .ref m_places, .int (nI d), .ref m_kinds, .ref m_ats, .ref m_ends])), (m_stack, .inl (cI, 48, .inl g_stack)), (m_mark, .inl (cI, 28000, .inl g_mark_27))] := hD
        refine lv_aload_n hx hb d_Mo_flex_37 rfl (lv_at hl 1 rfl) ?_
        refine lv_aload_n hx hb d_Mo_flex_38 rfl (lv_at hl 0 rfl) ?_
        refine lv_bipush (v := 6) hx hb d_Mo_flex_39 (by decide) ?_
        refine va_iald hx hb hZ.1 hP 1 1 rfl rfl (show vp_in (nI 6) 48 from vp_in_nI (by decide) (by decide)) d_Mo_flex_41 ?_
        refine lv_tv (y := g_stack 6) rfl ?_
        refine lv_aload_n hx hb d_Mo_flex_42 rfl (lv_at hl 0 rfl) ?_
        refine lv_bipush (v := 7) hx hb d_Mo_flex_43 (by decide) ?_
        refine va_iald hx hb hZ.1 hP 1 1 rfl rfl (show vp_in (nI 7) 48 from vp_in_nI (by decide) (by decide)) d_Mo_flex_45 ?_
        refine lv_tv (y := g_stack 7) rfl ?_
        refine lv_aload_n hx hb d_Mo_flex_46 rfl (lv_at hl 0 rfl) ?_
        refine lv_bipush (v := 8) hx hb d_Mo_flex_47 (by decide) ?_
        refine va_iald hx hb hZ.1 hP 1 1 rfl rfl (show vp_in (nI 8) 48 from vp_in_nI (by decide) (by decide)) d_Mo_flex_49 ?_
        refine lv_tv (y := g_stack 8) rfl ?_
        refine lv_aload_n hx hb d_Mo_flex_50 rfl (lv_at hl 0 rfl) ?_
        refine lv_bipush (v := 9) hx hb d_Mo_flex_51 (by decide) ?_
        refine va_iald hx hb hZ.1 hP 1 1 rfl rfl (show vp_in (nI 9) 48 from vp_in_nI (by decide) (by decide)) d_Mo_flex_53 ?_
        refine lv_tv (y := g_stack 9) rfl ?_
        refine lv_aload_n hx hb d_Mo_flex_54 rfl (lv_at hl 0 rfl) ?_
        refine lv_bipush (v := 10) hx hb d_Mo_flex_55 (by decide) ?_
        refine va_iald hx hb hZ.1 hP 1 1 rfl rfl (show vp_in (nI 10) 48 from vp_in_nI (by decide) (by decide)) d_Mo_flex_57 ?_
        refine lv_tv (y := g_stack 10) rfl ?_
        refine lv_aload_n hx hb d_Mo_flex_58 rfl (lv_at hl 0 rfl) ?_
        refine lv_bipush (v := 11) hx hb d_Mo_flex_59 (by decide) ?_
        refine va_iald hx hb hZ.1 hP 1 1 rfl rfl (show vp_in (nI 11) 48 from vp_in_nI (by decide) (by decide)) d_Mo_flex_61 ?_
        refine lv_tv (y := g_stack 11) rfl ?_
        have hC : Cut [(mo, .inr (8, [.int z_fault, .int z_size, .ref m_row, .ref m_shelves, .ref m_many, .ref m_widths, .int (nI mk_27), .ref m_mark, .int z_shown, .ref m_shownMark, .int z_wasRun, .int z_wrong_27, .int z_ended, .int (nI sp), .int z_hints, .int z_hasWidth, .int z_width, .int z_first, .int z_moved, .int z_deepest, .int z_x_27, .int z_y_27, .int (nI t), .ref m_stack, .ref m_places, .int (nI d), .ref m_kinds, .ref m_ats, .ref m_ends])), (m_stack, .inl (cI, 48, .inl g_stack)), (m_mark, .inl (cI, 28000, .inl g_mark_27))] [(mo, .inr (8, [.int z_fault, .int z_size, .ref m_row, .ref m_shelves, .ref m_many, .ref m_widths, .int (nI mk_27), .ref m_mark, .int z_shown, .ref m_shownMark, .int z_wasRun, .int z_wrong_27, .int z_ended, .int (nI sp), .int z_hints, .int z_hasWidth, .int z_width, .int z_first, .int z_moved, .int z_deepest, .int z_x_27, .int z_y_27, .int (nI t), .ref m_stack, .ref m_places, .int (nI d), .ref m_kinds, .ref m_ats, .ref m_ends])), (m_mark, .inl (cI, 28000, .inl g_mark_27))] [(m_stack, .inl (cI, 48, .inl g_stack))] [0, 2] [1] := ⟨rfl, rfl, rfl, rfl, by decide⟩
        refine goV0 (trV (As := [.int (g_stack 6), .int (g_stack 7), .int (g_stack 8), .int (g_stack 9), .int (g_stack 10), .int (g_stack 11)]) (rest := []) ⟨hx, hb, hml, hown, hts⟩ gd_good (c_Mo_two l D cB cI cJ mo m_row m_shelves m_many m_widths m_mark m_shownMark m_stack m_places m_kinds m_ats m_ends mk_27 sp t d z_fault z_size z_shown z_wasRun z_wrong_27 z_ended z_hints z_hasWidth z_width z_first z_moved z_deepest z_x_27 z_y_27 g_mark_27 (g_stack 6) (g_stack 7) (g_stack 8) (g_stack 9) (g_stack 10) (g_stack 11) (by omega) ) cal_Mo_two ml_Mo_172 ⟨Nat.le_of_ble_eq_true rfl, Nat.le_of_ble_eq_true rfl⟩ hZ hP hD hC 0 (ci := 8) rfl rfl rfl rfl hl.1 rfl (Nat.le_of_ble_eq_true rfl) d_Mo_flex_62 ⟨Nat.le_of_ble_eq_true rfl, Nat.le_of_ble_eq_true rfl⟩) hZ hP hD hS hC (fun w1 H locs hq hP hD hS => ?_)
        obtain ⟨z_x_28, z_y_28, z_wrong_28, mk_28, t_28, g_mark_28, rfl, hv_28⟩ := hq
        have hP : va_P D classes [(m_stack, .inl (cI, 48, .inl g_stack)), (mo, .inr (8, [.int z_fault, .int z_size, .ref m_row, .ref m_shelves, .ref m_many, .ref m_widths, .int (nI mk_28), .ref m_mark, .int z_shown, .ref m_shownMark, .int z_wasRun, .int z_wrong_28, .int z_ended, .int (nI sp), .int z_hints, .int z_hasWidth, .int z_width, .int z_first, .int z_moved, .int z_deepest, .int z_x_28, .int z_y_28, .int (nI t_28), .ref m_stack, .ref m_places, .int (nI d), .ref m_kinds, .ref m_ats, .ref m_ends])), (m_mark, .inl (cI, 28000, .inl g_mark_28))] H := hP
        have hD : va_D A_ [(m_stack, .inl (cI, 48, .inl g_stack)), (mo, .inr (8, [.int z_fault, .int z_size, .ref m_row, .ref m_shelves, .ref m_many, .ref m_widths, .int (nI mk_28), .ref m_mark, .int z_shown, .ref m_shownMark, .int z_wasRun, .int z_wrong_28, .int z_ended, .int (nI sp), .int z_hints, .int z_hasWidth, .int z_width, .int z_first, .int z_moved, .int z_deepest, .int z_x_28, .int z_y_28, .int (nI t_28), .ref m_stack, .ref m_places, .int (nI d), .ref m_kinds, .ref m_ats, .ref m_ends])), (m_mark, .inl (cI, 28000, .inl g_mark_28))] := hD
        refine lv_goto (tgt := 365) hx hb d_Mo_flex_65 (by decide) ?_
        exact t_vret hx hb hr hlk d_Mo_flex_365 (hP.subm (ws' := [(mo, .inr (8, [.int z_fault, .int z_size, .ref m_row, .ref m_shelves, .ref m_many, .ref m_widths, .int (nI mk_28), .ref m_mark, .int z_shown, .ref m_shownMark, .int z_wasRun, .int z_wrong_28, .int z_ended, .int (nI sp), .int z_hints, .int z_hasWidth, .int z_width, .int z_first, .int z_moved, .int z_deepest, .int z_x_28, .int z_y_28, .int (nI t_28), .ref m_stack, .ref m_places, .int (nI d), .ref m_kinds, .ref m_ats, .ref m_ends])), (m_stack, .inl (cI, 48, .inl g_stack)), (m_mark, .inl (cI, 28000, .inl g_mark_28))]) [1, 0, 2] rfl) (hD.sub (ws' := [(mo, .inr (8, [.int z_fault, .int z_size, .ref m_row, .ref m_shelves, .ref m_many, .ref m_widths, .int (nI mk_28), .ref m_mark, .int z_shown, .ref m_shownMark, .int z_wasRun, .int z_wrong_28, .int z_ended, .int (nI sp), .int z_hints, .int z_hasWidth, .int z_width, .int z_first, .int z_moved, .int z_deepest, .int z_x_28, .int z_y_28, .int (nI t_28), .ref m_stack, .ref m_places, .int (nI d), .ref m_kinds, .ref m_ats, .ref m_ends])), (m_stack, .inl (cI, 48, .inl g_stack)), (m_mark, .inl (cI, 28000, .inl g_mark_28))]) [1, 0, 2] rfl rfl) hS ⟨rfl, rfl, rfl, _, _, _, mk_28, t_28, _, rfl, (by omega)⟩
