abbrev b_Dr_lines : ByteArray := prog_3_method_5_code
abbrev y_Dr_lines : MethodName := ⟨"CharOutlines$Drawing", "lines", "(LCharOutlines$Values;IILCharOutlines$Outline;)Z"⟩
set_option maxRecDepth 100000 in
theorem cal_Dr_lines : CalS gd_tbl y_Dr_lines b_Dr_lines 6 (some .boolean) 4 := ⟨⟨List.mem_filter.mpr ⟨List.mem_of_getElem? (i := 558) rfl, rfl⟩, List.mem_filter.mpr ⟨List.mem_of_getElem? (i := 77) rfl, rfl⟩, ⟨by decide, by decide⟩, by decide +kernel⟩, List.mem_filter.mpr ⟨List.mem_of_getElem? (i := 557) rfl, rfl⟩⟩
theorem d_Dr_lines_0 : decode b_Dr_lines 0 = .ok (.iconst 1, 1) := by decide +kernel
theorem d_Dr_lines_1 : decode b_Dr_lines 1 = .ok (.istore 4, 2) := by decide +kernel
theorem d_Dr_lines_3 : decode b_Dr_lines 3 = .ok (.iload_n 1, 1) := by decide +kernel
theorem d_Dr_lines_4 : decode b_Dr_lines 4 = .ok (.istore 5, 2) := by decide +kernel
theorem d_Dr_lines_6 : decode b_Dr_lines 6 = .ok (.iload 5, 2) := by decide +kernel
theorem d_Dr_lines_8 : decode b_Dr_lines 8 = .ok (.iconst 2, 1) := by decide +kernel
theorem d_Dr_lines_9 : decode b_Dr_lines 9 = .ok (.iadd, 1) := by decide +kernel
theorem d_Dr_lines_10 : decode b_Dr_lines 10 = .ok (.iload_n 2, 1) := by decide +kernel
theorem d_Dr_lines_11 : decode b_Dr_lines 11 = .ok (.if_icmp .gt 34, 3) := by decide +kernel
theorem d_Dr_lines_14 : decode b_Dr_lines 14 = .ok (.iload 4, 2) := by decide +kernel
theorem d_Dr_lines_16 : decode b_Dr_lines 16 = .ok (.ifCond .eq 29, 3) := by decide +kernel
theorem d_Dr_lines_19 : decode b_Dr_lines 19 = .ok (.aload_n 3, 1) := by decide +kernel
theorem d_Dr_lines_20 : decode b_Dr_lines 20 = .ok (.aload_n 0, 1) := by decide +kernel
theorem d_Dr_lines_21 : decode b_Dr_lines 21 = .ok (.iload 5, 2) := by decide +kernel
theorem d_Dr_lines_23 : decode b_Dr_lines 23 = .ok (.invokevirtual 47, 3) := by decide +kernel
theorem d_Dr_lines_26 : decode b_Dr_lines 26 = .ok (.aload_n 0, 1) := by decide +kernel
theorem d_Dr_lines_27 : decode b_Dr_lines 27 = .ok (.iload 5, 2) := by decide +kernel
theorem d_Dr_lines_29 : decode b_Dr_lines 29 = .ok (.iconst 1, 1) := by decide +kernel
theorem d_Dr_lines_30 : decode b_Dr_lines 30 = .ok (.iadd, 1) := by decide +kernel
theorem d_Dr_lines_31 : decode b_Dr_lines 31 = .ok (.invokevirtual 47, 3) := by decide +kernel
theorem d_Dr_lines_34 : decode b_Dr_lines 34 = .ok (.invokevirtual 51, 3) := by decide +kernel
theorem d_Dr_lines_37 : decode b_Dr_lines 37 = .ok (.istore 4, 2) := by decide +kernel
theorem d_Dr_lines_39 : decode b_Dr_lines 39 = .ok (.iinc 5 2, 3) := by decide +kernel
theorem d_Dr_lines_42 : decode b_Dr_lines 42 = .ok (.goto (-36), 3) := by decide +kernel
theorem d_Dr_lines_45 : decode b_Dr_lines 45 = .ok (.iload 4, 2) := by decide +kernel
theorem d_Dr_lines_47 : decode b_Dr_lines 47 = .ok (.ireturn, 1) := by decide +kernel
abbrev b_Dr_curves : ByteArray := prog_3_method_7_code
abbrev y_Dr_curves : MethodName := ⟨"CharOutlines$Drawing", "curves", "(LCharOutlines$Values;IILCharOutlines$Outline;)Z"⟩
set_option maxRecDepth 100000 in
theorem cal_Dr_curves : CalS gd_tbl y_Dr_curves b_Dr_curves 6 (some .boolean) 4 := ⟨⟨List.mem_filter.mpr ⟨List.mem_of_getElem? (i := 576) rfl, rfl⟩, List.mem_filter.mpr ⟨List.mem_of_getElem? (i := 77) rfl, rfl⟩, ⟨by decide, by decide⟩, by decide +kernel⟩, List.mem_filter.mpr ⟨List.mem_of_getElem? (i := 575) rfl, rfl⟩⟩
theorem d_Dr_curves_0 : decode b_Dr_curves 0 = .ok (.iconst 1, 1) := by decide +kernel
theorem d_Dr_curves_1 : decode b_Dr_curves 1 = .ok (.istore 4, 2) := by decide +kernel
theorem d_Dr_curves_3 : decode b_Dr_curves 3 = .ok (.iload_n 1, 1) := by decide +kernel
theorem d_Dr_curves_4 : decode b_Dr_curves 4 = .ok (.istore 5, 2) := by decide +kernel
theorem d_Dr_curves_6 : decode b_Dr_curves 6 = .ok (.iload 5, 2) := by decide +kernel
theorem d_Dr_curves_8 : decode b_Dr_curves 8 = .ok (.bipush 6, 2) := by decide +kernel
theorem d_Dr_curves_10 : decode b_Dr_curves 10 = .ok (.iadd, 1) := by decide +kernel
theorem d_Dr_curves_11 : decode b_Dr_curves 11 = .ok (.iload_n 2, 1) := by decide +kernel
theorem d_Dr_curves_12 : decode b_Dr_curves 12 = .ok (.if_icmp .gt 66, 3) := by decide +kernel
theorem d_Dr_curves_15 : decode b_Dr_curves 15 = .ok (.iload 4, 2) := by decide +kernel
theorem d_Dr_curves_17 : decode b_Dr_curves 17 = .ok (.ifCond .eq 61, 3) := by decide +kernel
theorem d_Dr_curves_20 : decode b_Dr_curves 20 = .ok (.aload_n 3, 1) := by decide +kernel
theorem d_Dr_curves_21 : decode b_Dr_curves 21 = .ok (.aload_n 0, 1) := by decide +kernel
theorem d_Dr_curves_22 : decode b_Dr_curves 22 = .ok (.iload 5, 2) := by decide +kernel
theorem d_Dr_curves_24 : decode b_Dr_curves 24 = .ok (.invokevirtual 47, 3) := by decide +kernel
theorem d_Dr_curves_27 : decode b_Dr_curves 27 = .ok (.aload_n 0, 1) := by decide +kernel
theorem d_Dr_curves_28 : decode b_Dr_curves 28 = .ok (.iload 5, 2) := by decide +kernel
theorem d_Dr_curves_30 : decode b_Dr_curves 30 = .ok (.iconst 1, 1) := by decide +kernel
theorem d_Dr_curves_31 : decode b_Dr_curves 31 = .ok (.iadd, 1) := by decide +kernel
theorem d_Dr_curves_32 : decode b_Dr_curves 32 = .ok (.invokevirtual 47, 3) := by decide +kernel
theorem d_Dr_curves_35 : decode b_Dr_curves 35 = .ok (.aload_n 0, 1) := by decide +kernel
theorem d_Dr_curves_36 : decode b_Dr_curves 36 = .ok (.iload 5, 2) := by decide +kernel
theorem d_Dr_curves_38 : decode b_Dr_curves 38 = .ok (.iconst 2, 1) := by decide +kernel
theorem d_Dr_curves_39 : decode b_Dr_curves 39 = .ok (.iadd, 1) := by decide +kernel
theorem d_Dr_curves_40 : decode b_Dr_curves 40 = .ok (.invokevirtual 47, 3) := by decide +kernel
theorem d_Dr_curves_43 : decode b_Dr_curves 43 = .ok (.aload_n 0, 1) := by decide +kernel
theorem d_Dr_curves_44 : decode b_Dr_curves 44 = .ok (.iload 5, 2) := by decide +kernel
theorem d_Dr_curves_46 : decode b_Dr_curves 46 = .ok (.iconst 3, 1) := by decide +kernel
theorem d_Dr_curves_47 : decode b_Dr_curves 47 = .ok (.iadd, 1) := by decide +kernel
theorem d_Dr_curves_48 : decode b_Dr_curves 48 = .ok (.invokevirtual 47, 3) := by decide +kernel
theorem d_Dr_curves_51 : decode b_Dr_curves 51 = .ok (.aload_n 0, 1) := by decide +kernel
theorem d_Dr_curves_52 : decode b_Dr_curves 52 = .ok (.iload 5, 2) := by decide +kernel
theorem d_Dr_curves_54 : decode b_Dr_curves 54 = .ok (.iconst 4, 1) := by decide +kernel
theorem d_Dr_curves_55 : decode b_Dr_curves 55 = .ok (.iadd, 1) := by decide +kernel
theorem d_Dr_curves_56 : decode b_Dr_curves 56 = .ok (.invokevirtual 47, 3) := by decide +kernel
theorem d_Dr_curves_59 : decode b_Dr_curves 59 = .ok (.aload_n 0, 1) := by decide +kernel
theorem d_Dr_curves_60 : decode b_Dr_curves 60 = .ok (.iload 5, 2) := by decide +kernel
theorem d_Dr_curves_62 : decode b_Dr_curves 62 = .ok (.iconst 5, 1) := by decide +kernel
theorem d_Dr_curves_63 : decode b_Dr_curves 63 = .ok (.iadd, 1) := by decide +kernel
theorem d_Dr_curves_64 : decode b_Dr_curves 64 = .ok (.invokevirtual 47, 3) := by decide +kernel
theorem d_Dr_curves_67 : decode b_Dr_curves 67 = .ok (.invokevirtual 57, 3) := by decide +kernel
theorem d_Dr_curves_70 : decode b_Dr_curves 70 = .ok (.istore 4, 2) := by decide +kernel
theorem d_Dr_curves_72 : decode b_Dr_curves 72 = .ok (.iinc 5 6, 3) := by decide +kernel
theorem d_Dr_curves_75 : decode b_Dr_curves 75 = .ok (.goto (-69), 3) := by decide +kernel
theorem d_Dr_curves_78 : decode b_Dr_curves 78 = .ok (.iload 4, 2) := by decide +kernel
theorem d_Dr_curves_80 : decode b_Dr_curves 80 = .ok (.ireturn, 1) := by decide +kernel
abbrev b_Dr_linesInTurn : ByteArray := prog_3_method_6_code
abbrev y_Dr_linesInTurn : MethodName := ⟨"CharOutlines$Drawing", "linesInTurn", "(LCharOutlines$Values;ZLCharOutlines$Outline;)Z"⟩
set_option maxRecDepth 100000 in
theorem cal_Dr_linesInTurn : CalS gd_tbl y_Dr_linesInTurn b_Dr_linesInTurn 6 (some .boolean) 3 := ⟨⟨List.mem_filter.mpr ⟨List.mem_of_getElem? (i := 573) rfl, rfl⟩, List.mem_filter.mpr ⟨List.mem_of_getElem? (i := 77) rfl, rfl⟩, ⟨by decide, by decide⟩, by decide +kernel⟩, List.mem_filter.mpr ⟨List.mem_of_getElem? (i := 572) rfl, rfl⟩⟩
theorem d_Dr_linesInTurn_0 : decode b_Dr_linesInTurn 0 = .ok (.iconst 1, 1) := by decide +kernel
theorem d_Dr_linesInTurn_1 : decode b_Dr_linesInTurn 1 = .ok (.istore_n 3, 1) := by decide +kernel
theorem d_Dr_linesInTurn_2 : decode b_Dr_linesInTurn 2 = .ok (.iload_n 1, 1) := by decide +kernel
theorem d_Dr_linesInTurn_3 : decode b_Dr_linesInTurn 3 = .ok (.istore 4, 2) := by decide +kernel
theorem d_Dr_linesInTurn_5 : decode b_Dr_linesInTurn 5 = .ok (.iconst 0, 1) := by decide +kernel
theorem d_Dr_linesInTurn_6 : decode b_Dr_linesInTurn 6 = .ok (.istore 5, 2) := by decide +kernel
theorem d_Dr_linesInTurn_8 : decode b_Dr_linesInTurn 8 = .ok (.iload 5, 2) := by decide +kernel
theorem d_Dr_linesInTurn_10 : decode b_Dr_linesInTurn 10 = .ok (.aload_n 0, 1) := by decide +kernel
theorem d_Dr_linesInTurn_11 : decode b_Dr_linesInTurn 11 = .ok (.invokevirtual 7, 3) := by decide +kernel
theorem d_Dr_linesInTurn_14 : decode b_Dr_linesInTurn 14 = .ok (.if_icmp .ge 56, 3) := by decide +kernel
theorem d_Dr_linesInTurn_17 : decode b_Dr_linesInTurn 17 = .ok (.iload_n 3, 1) := by decide +kernel
theorem d_Dr_linesInTurn_18 : decode b_Dr_linesInTurn 18 = .ok (.ifCond .eq 52, 3) := by decide +kernel
theorem d_Dr_linesInTurn_21 : decode b_Dr_linesInTurn 21 = .ok (.iload 4, 2) := by decide +kernel
theorem d_Dr_linesInTurn_23 : decode b_Dr_linesInTurn 23 = .ok (.ifCond .eq 17, 3) := by decide +kernel
theorem d_Dr_linesInTurn_26 : decode b_Dr_linesInTurn 26 = .ok (.aload_n 2, 1) := by decide +kernel
theorem d_Dr_linesInTurn_27 : decode b_Dr_linesInTurn 27 = .ok (.aload_n 0, 1) := by decide +kernel
theorem d_Dr_linesInTurn_28 : decode b_Dr_linesInTurn 28 = .ok (.iload 5, 2) := by decide +kernel
theorem d_Dr_linesInTurn_30 : decode b_Dr_linesInTurn 30 = .ok (.invokevirtual 47, 3) := by decide +kernel
theorem d_Dr_linesInTurn_33 : decode b_Dr_linesInTurn 33 = .ok (.iconst 0, 1) := by decide +kernel
theorem d_Dr_linesInTurn_34 : decode b_Dr_linesInTurn 34 = .ok (.invokevirtual 51, 3) := by decide +kernel
theorem d_Dr_linesInTurn_37 : decode b_Dr_linesInTurn 37 = .ok (.goto 14, 3) := by decide +kernel
theorem d_Dr_linesInTurn_40 : decode b_Dr_linesInTurn 40 = .ok (.aload_n 2, 1) := by decide +kernel
theorem d_Dr_linesInTurn_41 : decode b_Dr_linesInTurn 41 = .ok (.iconst 0, 1) := by decide +kernel
theorem d_Dr_linesInTurn_42 : decode b_Dr_linesInTurn 42 = .ok (.aload_n 0, 1) := by decide +kernel
theorem d_Dr_linesInTurn_43 : decode b_Dr_linesInTurn 43 = .ok (.iload 5, 2) := by decide +kernel
theorem d_Dr_linesInTurn_45 : decode b_Dr_linesInTurn 45 = .ok (.invokevirtual 47, 3) := by decide +kernel
theorem d_Dr_linesInTurn_48 : decode b_Dr_linesInTurn 48 = .ok (.invokevirtual 51, 3) := by decide +kernel
theorem d_Dr_linesInTurn_51 : decode b_Dr_linesInTurn 51 = .ok (.istore_n 3, 1) := by decide +kernel
theorem d_Dr_linesInTurn_52 : decode b_Dr_linesInTurn 52 = .ok (.iload 4, 2) := by decide +kernel
theorem d_Dr_linesInTurn_54 : decode b_Dr_linesInTurn 54 = .ok (.ifCond .ne 7, 3) := by decide +kernel
theorem d_Dr_linesInTurn_57 : decode b_Dr_linesInTurn 57 = .ok (.iconst 1, 1) := by decide +kernel
theorem d_Dr_linesInTurn_58 : decode b_Dr_linesInTurn 58 = .ok (.goto 4, 3) := by decide +kernel
theorem d_Dr_linesInTurn_61 : decode b_Dr_linesInTurn 61 = .ok (.iconst 0, 1) := by decide +kernel
theorem d_Dr_linesInTurn_62 : decode b_Dr_linesInTurn 62 = .ok (.istore 4, 2) := by decide +kernel
theorem d_Dr_linesInTurn_64 : decode b_Dr_linesInTurn 64 = .ok (.iinc 5 1, 3) := by decide +kernel
theorem d_Dr_linesInTurn_67 : decode b_Dr_linesInTurn 67 = .ok (.goto (-59), 3) := by decide +kernel
theorem d_Dr_linesInTurn_70 : decode b_Dr_linesInTurn 70 = .ok (.iload_n 3, 1) := by decide +kernel
theorem d_Dr_linesInTurn_71 : decode b_Dr_linesInTurn 71 = .ok (.ireturn, 1) := by decide +kernel
abbrev b_Dr_curvesInTurn : ByteArray := prog_3_method_10_code
abbrev y_Dr_curvesInTurn : MethodName := ⟨"CharOutlines$Drawing", "curvesInTurn", "(LCharOutlines$Values;ZLCharOutlines$Outline;)Z"⟩
set_option maxRecDepth 100000 in
theorem cal_Dr_curvesInTurn : CalS gd_tbl y_Dr_curvesInTurn b_Dr_curvesInTurn 7 (some .boolean) 3 := ⟨⟨List.mem_filter.mpr ⟨List.mem_of_getElem? (i := 601) rfl, rfl⟩, List.mem_filter.mpr ⟨List.mem_of_getElem? (i := 77) rfl, rfl⟩, ⟨by decide, by decide⟩, by decide +kernel⟩, List.mem_filter.mpr ⟨List.mem_of_getElem? (i := 600) rfl, rfl⟩⟩
theorem d_Dr_curvesInTurn_0 : decode b_Dr_curvesInTurn 0 = .ok (.iconst 1, 1) := by decide +kernel
theorem d_Dr_curvesInTurn_1 : decode b_Dr_curvesInTurn 1 = .ok (.istore_n 3, 1) := by decide +kernel
theorem d_Dr_curvesInTurn_2 : decode b_Dr_curvesInTurn 2 = .ok (.iload_n 1, 1) := by decide +kernel
theorem d_Dr_curvesInTurn_3 : decode b_Dr_curvesInTurn 3 = .ok (.istore 4, 2) := by decide +kernel
theorem d_Dr_curvesInTurn_5 : decode b_Dr_curvesInTurn 5 = .ok (.iconst 0, 1) := by decide +kernel
theorem d_Dr_curvesInTurn_6 : decode b_Dr_curvesInTurn 6 = .ok (.istore 5, 2) := by decide +kernel
theorem d_Dr_curvesInTurn_8 : decode b_Dr_curvesInTurn 8 = .ok (.iload 5, 2) := by decide +kernel
theorem d_Dr_curvesInTurn_10 : decode b_Dr_curvesInTurn 10 = .ok (.iconst 4, 1) := by decide +kernel
theorem d_Dr_curvesInTurn_11 : decode b_Dr_curvesInTurn 11 = .ok (.iadd, 1) := by decide +kernel
theorem d_Dr_curvesInTurn_12 : decode b_Dr_curvesInTurn 12 = .ok (.aload_n 0, 1) := by decide +kernel
theorem d_Dr_curvesInTurn_13 : decode b_Dr_curvesInTurn 13 = .ok (.invokevirtual 7, 3) := by decide +kernel
theorem d_Dr_curvesInTurn_16 : decode b_Dr_curvesInTurn 16 = .ok (.if_icmp .gt 133, 3) := by decide +kernel
theorem d_Dr_curvesInTurn_19 : decode b_Dr_curvesInTurn 19 = .ok (.iload_n 3, 1) := by decide +kernel
theorem d_Dr_curvesInTurn_20 : decode b_Dr_curvesInTurn 20 = .ok (.ifCond .eq 129, 3) := by decide +kernel
theorem d_Dr_curvesInTurn_23 : decode b_Dr_curvesInTurn 23 = .ok (.iload 5, 2) := by decide +kernel
theorem d_Dr_curvesInTurn_25 : decode b_Dr_curvesInTurn 25 = .ok (.iconst 5, 1) := by decide +kernel
theorem d_Dr_curvesInTurn_26 : decode b_Dr_curvesInTurn 26 = .ok (.iadd, 1) := by decide +kernel
theorem d_Dr_curvesInTurn_27 : decode b_Dr_curvesInTurn 27 = .ok (.aload_n 0, 1) := by decide +kernel
theorem d_Dr_curvesInTurn_28 : decode b_Dr_curvesInTurn 28 = .ok (.invokevirtual 7, 3) := by decide +kernel
theorem d_Dr_curvesInTurn_31 : decode b_Dr_curvesInTurn 31 = .ok (.if_icmp .ne 14, 3) := by decide +kernel
theorem d_Dr_curvesInTurn_34 : decode b_Dr_curvesInTurn 34 = .ok (.aload_n 0, 1) := by decide +kernel
theorem d_Dr_curvesInTurn_35 : decode b_Dr_curvesInTurn 35 = .ok (.iload 5, 2) := by decide +kernel
theorem d_Dr_curvesInTurn_37 : decode b_Dr_curvesInTurn 37 = .ok (.iconst 4, 1) := by decide +kernel
theorem d_Dr_curvesInTurn_38 : decode b_Dr_curvesInTurn 38 = .ok (.iadd, 1) := by decide +kernel
theorem d_Dr_curvesInTurn_39 : decode b_Dr_curvesInTurn 39 = .ok (.invokevirtual 47, 3) := by decide +kernel
theorem d_Dr_curvesInTurn_42 : decode b_Dr_curvesInTurn 42 = .ok (.goto 4, 3) := by decide +kernel
theorem d_Dr_curvesInTurn_45 : decode b_Dr_curvesInTurn 45 = .ok (.iconst 0, 1) := by decide +kernel
theorem d_Dr_curvesInTurn_46 : decode b_Dr_curvesInTurn 46 = .ok (.istore 6, 2) := by decide +kernel
theorem d_Dr_curvesInTurn_48 : decode b_Dr_curvesInTurn 48 = .ok (.iload 4, 2) := by decide +kernel
theorem d_Dr_curvesInTurn_50 : decode b_Dr_curvesInTurn 50 = .ok (.ifCond .eq 43, 3) := by decide +kernel
theorem d_Dr_curvesInTurn_53 : decode b_Dr_curvesInTurn 53 = .ok (.aload_n 2, 1) := by decide +kernel
theorem d_Dr_curvesInTurn_54 : decode b_Dr_curvesInTurn 54 = .ok (.aload_n 0, 1) := by decide +kernel
theorem d_Dr_curvesInTurn_55 : decode b_Dr_curvesInTurn 55 = .ok (.iload 5, 2) := by decide +kernel
theorem d_Dr_curvesInTurn_57 : decode b_Dr_curvesInTurn 57 = .ok (.invokevirtual 47, 3) := by decide +kernel
theorem d_Dr_curvesInTurn_60 : decode b_Dr_curvesInTurn 60 = .ok (.iconst 0, 1) := by decide +kernel
theorem d_Dr_curvesInTurn_61 : decode b_Dr_curvesInTurn 61 = .ok (.aload_n 0, 1) := by decide +kernel
theorem d_Dr_curvesInTurn_62 : decode b_Dr_curvesInTurn 62 = .ok (.iload 5, 2) := by decide +kernel
theorem d_Dr_curvesInTurn_64 : decode b_Dr_curvesInTurn 64 = .ok (.iconst 1, 1) := by decide +kernel
theorem d_Dr_curvesInTurn_65 : decode b_Dr_curvesInTurn 65 = .ok (.iadd, 1) := by decide +kernel
theorem d_Dr_curvesInTurn_66 : decode b_Dr_curvesInTurn 66 = .ok (.invokevirtual 47, 3) := by decide +kernel
theorem d_Dr_curvesInTurn_69 : decode b_Dr_curvesInTurn 69 = .ok (.aload_n 0, 1) := by decide +kernel
theorem d_Dr_curvesInTurn_70 : decode b_Dr_curvesInTurn 70 = .ok (.iload 5, 2) := by decide +kernel
theorem d_Dr_curvesInTurn_72 : decode b_Dr_curvesInTurn 72 = .ok (.iconst 2, 1) := by decide +kernel
theorem d_Dr_curvesInTurn_73 : decode b_Dr_curvesInTurn 73 = .ok (.iadd, 1) := by decide +kernel
theorem d_Dr_curvesInTurn_74 : decode b_Dr_curvesInTurn 74 = .ok (.invokevirtual 47, 3) := by decide +kernel
theorem d_Dr_curvesInTurn_77 : decode b_Dr_curvesInTurn 77 = .ok (.iload 6, 2) := by decide +kernel
theorem d_Dr_curvesInTurn_79 : decode b_Dr_curvesInTurn 79 = .ok (.aload_n 0, 1) := by decide +kernel
theorem d_Dr_curvesInTurn_80 : decode b_Dr_curvesInTurn 80 = .ok (.iload 5, 2) := by decide +kernel
theorem d_Dr_curvesInTurn_82 : decode b_Dr_curvesInTurn 82 = .ok (.iconst 3, 1) := by decide +kernel
theorem d_Dr_curvesInTurn_83 : decode b_Dr_curvesInTurn 83 = .ok (.iadd, 1) := by decide +kernel
theorem d_Dr_curvesInTurn_84 : decode b_Dr_curvesInTurn 84 = .ok (.invokevirtual 47, 3) := by decide +kernel
theorem d_Dr_curvesInTurn_87 : decode b_Dr_curvesInTurn 87 = .ok (.invokevirtual 57, 3) := by decide +kernel
theorem d_Dr_curvesInTurn_90 : decode b_Dr_curvesInTurn 90 = .ok (.goto 40, 3) := by decide +kernel
theorem d_Dr_curvesInTurn_93 : decode b_Dr_curvesInTurn 93 = .ok (.aload_n 2, 1) := by decide +kernel
theorem d_Dr_curvesInTurn_94 : decode b_Dr_curvesInTurn 94 = .ok (.iconst 0, 1) := by decide +kernel
theorem d_Dr_curvesInTurn_95 : decode b_Dr_curvesInTurn 95 = .ok (.aload_n 0, 1) := by decide +kernel
theorem d_Dr_curvesInTurn_96 : decode b_Dr_curvesInTurn 96 = .ok (.iload 5, 2) := by decide +kernel
theorem d_Dr_curvesInTurn_98 : decode b_Dr_curvesInTurn 98 = .ok (.invokevirtual 47, 3) := by decide +kernel
theorem d_Dr_curvesInTurn_101 : decode b_Dr_curvesInTurn 101 = .ok (.aload_n 0, 1) := by decide +kernel
theorem d_Dr_curvesInTurn_102 : decode b_Dr_curvesInTurn 102 = .ok (.iload 5, 2) := by decide +kernel
theorem d_Dr_curvesInTurn_104 : decode b_Dr_curvesInTurn 104 = .ok (.iconst 1, 1) := by decide +kernel
theorem d_Dr_curvesInTurn_105 : decode b_Dr_curvesInTurn 105 = .ok (.iadd, 1) := by decide +kernel
theorem d_Dr_curvesInTurn_106 : decode b_Dr_curvesInTurn 106 = .ok (.invokevirtual 47, 3) := by decide +kernel
theorem d_Dr_curvesInTurn_109 : decode b_Dr_curvesInTurn 109 = .ok (.aload_n 0, 1) := by decide +kernel
theorem d_Dr_curvesInTurn_110 : decode b_Dr_curvesInTurn 110 = .ok (.iload 5, 2) := by decide +kernel
theorem d_Dr_curvesInTurn_112 : decode b_Dr_curvesInTurn 112 = .ok (.iconst 2, 1) := by decide +kernel
theorem d_Dr_curvesInTurn_113 : decode b_Dr_curvesInTurn 113 = .ok (.iadd, 1) := by decide +kernel
theorem d_Dr_curvesInTurn_114 : decode b_Dr_curvesInTurn 114 = .ok (.invokevirtual 47, 3) := by decide +kernel
theorem d_Dr_curvesInTurn_117 : decode b_Dr_curvesInTurn 117 = .ok (.aload_n 0, 1) := by decide +kernel
theorem d_Dr_curvesInTurn_118 : decode b_Dr_curvesInTurn 118 = .ok (.iload 5, 2) := by decide +kernel
theorem d_Dr_curvesInTurn_120 : decode b_Dr_curvesInTurn 120 = .ok (.iconst 3, 1) := by decide +kernel
theorem d_Dr_curvesInTurn_121 : decode b_Dr_curvesInTurn 121 = .ok (.iadd, 1) := by decide +kernel
theorem d_Dr_curvesInTurn_122 : decode b_Dr_curvesInTurn 122 = .ok (.invokevirtual 47, 3) := by decide +kernel
theorem d_Dr_curvesInTurn_125 : decode b_Dr_curvesInTurn 125 = .ok (.iload 6, 2) := by decide +kernel
theorem d_Dr_curvesInTurn_127 : decode b_Dr_curvesInTurn 127 = .ok (.invokevirtual 57, 3) := by decide +kernel
theorem d_Dr_curvesInTurn_130 : decode b_Dr_curvesInTurn 130 = .ok (.istore_n 3, 1) := by decide +kernel
theorem d_Dr_curvesInTurn_131 : decode b_Dr_curvesInTurn 131 = .ok (.iload 4, 2) := by decide +kernel
theorem d_Dr_curvesInTurn_133 : decode b_Dr_curvesInTurn 133 = .ok (.ifCond .ne 7, 3) := by decide +kernel
theorem d_Dr_curvesInTurn_136 : decode b_Dr_curvesInTurn 136 = .ok (.iconst 1, 1) := by decide +kernel
theorem d_Dr_curvesInTurn_137 : decode b_Dr_curvesInTurn 137 = .ok (.goto 4, 3) := by decide +kernel
theorem d_Dr_curvesInTurn_140 : decode b_Dr_curvesInTurn 140 = .ok (.iconst 0, 1) := by decide +kernel
theorem d_Dr_curvesInTurn_141 : decode b_Dr_curvesInTurn 141 = .ok (.istore 4, 2) := by decide +kernel
theorem d_Dr_curvesInTurn_143 : decode b_Dr_curvesInTurn 143 = .ok (.iinc 5 4, 3) := by decide +kernel
theorem d_Dr_curvesInTurn_146 : decode b_Dr_curvesInTurn 146 = .ok (.goto (-138), 3) := by decide +kernel
theorem d_Dr_curvesInTurn_149 : decode b_Dr_curvesInTurn 149 = .ok (.iload_n 3, 1) := by decide +kernel
theorem d_Dr_curvesInTurn_150 : decode b_Dr_curvesInTurn 150 = .ok (.ireturn, 1) := by decide +kernel
abbrev b_Dr_curvesAcross : ByteArray := prog_3_method_8_code
abbrev y_Dr_curvesAcross : MethodName := ⟨"CharOutlines$Drawing", "curvesAcross", "(LCharOutlines$Values;LCharOutlines$Outline;)Z"⟩
set_option maxRecDepth 100000 in
theorem cal_Dr_curvesAcross : CalS gd_tbl y_Dr_curvesAcross b_Dr_curvesAcross 6 (some .boolean) 2 := ⟨⟨List.mem_filter.mpr ⟨List.mem_of_getElem? (i := 583) rfl, rfl⟩, List.mem_filter.mpr ⟨List.mem_of_getElem? (i := 77) rfl, rfl⟩, ⟨by decide, by decide⟩, by decide +kernel⟩, List.mem_filter.mpr ⟨List.mem_of_getElem? (i := 582) rfl, rfl⟩⟩
theorem d_Dr_curvesAcross_0 : decode b_Dr_curvesAcross 0 = .ok (.iconst 1, 1) := by decide +kernel
theorem d_Dr_curvesAcross_1 : decode b_Dr_curvesAcross 1 = .ok (.istore_n 2, 1) := by decide +kernel
theorem d_Dr_curvesAcross_2 : decode b_Dr_curvesAcross 2 = .ok (.aload_n 0, 1) := by decide +kernel
theorem d_Dr_curvesAcross_3 : decode b_Dr_curvesAcross 3 = .ok (.invokevirtual 7, 3) := by decide +kernel
theorem d_Dr_curvesAcross_6 : decode b_Dr_curvesAcross 6 = .ok (.iconst 4, 1) := by decide +kernel
theorem d_Dr_curvesAcross_7 : decode b_Dr_curvesAcross 7 = .ok (.irem, 1) := by decide +kernel
theorem d_Dr_curvesAcross_8 : decode b_Dr_curvesAcross 8 = .ok (.istore_n 3, 1) := by decide +kernel
theorem d_Dr_curvesAcross_9 : decode b_Dr_curvesAcross 9 = .ok (.iload_n 3, 1) := by decide +kernel
theorem d_Dr_curvesAcross_10 : decode b_Dr_curvesAcross 10 = .ok (.istore 4, 2) := by decide +kernel
theorem d_Dr_curvesAcross_12 : decode b_Dr_curvesAcross 12 = .ok (.iload 4, 2) := by decide +kernel
theorem d_Dr_curvesAcross_14 : decode b_Dr_curvesAcross 14 = .ok (.iconst 4, 1) := by decide +kernel
theorem d_Dr_curvesAcross_15 : decode b_Dr_curvesAcross 15 = .ok (.iadd, 1) := by decide +kernel
theorem d_Dr_curvesAcross_16 : decode b_Dr_curvesAcross 16 = .ok (.aload_n 0, 1) := by decide +kernel
theorem d_Dr_curvesAcross_17 : decode b_Dr_curvesAcross 17 = .ok (.invokevirtual 7, 3) := by decide +kernel
theorem d_Dr_curvesAcross_20 : decode b_Dr_curvesAcross 20 = .ok (.if_icmp .gt 73, 3) := by decide +kernel
theorem d_Dr_curvesAcross_23 : decode b_Dr_curvesAcross 23 = .ok (.iload_n 2, 1) := by decide +kernel
theorem d_Dr_curvesAcross_24 : decode b_Dr_curvesAcross 24 = .ok (.ifCond .eq 69, 3) := by decide +kernel
theorem d_Dr_curvesAcross_27 : decode b_Dr_curvesAcross 27 = .ok (.iload_n 3, 1) := by decide +kernel
theorem d_Dr_curvesAcross_28 : decode b_Dr_curvesAcross 28 = .ok (.iconst 1, 1) := by decide +kernel
theorem d_Dr_curvesAcross_29 : decode b_Dr_curvesAcross 29 = .ok (.if_icmp .ne 17, 3) := by decide +kernel
theorem d_Dr_curvesAcross_32 : decode b_Dr_curvesAcross 32 = .ok (.iload 4, 2) := by decide +kernel
theorem d_Dr_curvesAcross_34 : decode b_Dr_curvesAcross 34 = .ok (.iconst 1, 1) := by decide +kernel
theorem d_Dr_curvesAcross_35 : decode b_Dr_curvesAcross 35 = .ok (.if_icmp .ne 11, 3) := by decide +kernel
theorem d_Dr_curvesAcross_38 : decode b_Dr_curvesAcross 38 = .ok (.aload_n 0, 1) := by decide +kernel
theorem d_Dr_curvesAcross_39 : decode b_Dr_curvesAcross 39 = .ok (.iconst 0, 1) := by decide +kernel
theorem d_Dr_curvesAcross_40 : decode b_Dr_curvesAcross 40 = .ok (.invokevirtual 47, 3) := by decide +kernel
theorem d_Dr_curvesAcross_43 : decode b_Dr_curvesAcross 43 = .ok (.goto 4, 3) := by decide +kernel
theorem d_Dr_curvesAcross_46 : decode b_Dr_curvesAcross 46 = .ok (.iconst 0, 1) := by decide +kernel
theorem d_Dr_curvesAcross_47 : decode b_Dr_curvesAcross 47 = .ok (.istore 5, 2) := by decide +kernel
theorem d_Dr_curvesAcross_49 : decode b_Dr_curvesAcross 49 = .ok (.aload_n 1, 1) := by decide +kernel
theorem d_Dr_curvesAcross_50 : decode b_Dr_curvesAcross 50 = .ok (.aload_n 0, 1) := by decide +kernel
theorem d_Dr_curvesAcross_51 : decode b_Dr_curvesAcross 51 = .ok (.iload 4, 2) := by decide +kernel
theorem d_Dr_curvesAcross_53 : decode b_Dr_curvesAcross 53 = .ok (.invokevirtual 47, 3) := by decide +kernel
theorem d_Dr_curvesAcross_56 : decode b_Dr_curvesAcross 56 = .ok (.iload 5, 2) := by decide +kernel
theorem d_Dr_curvesAcross_58 : decode b_Dr_curvesAcross 58 = .ok (.aload_n 0, 1) := by decide +kernel
theorem d_Dr_curvesAcross_59 : decode b_Dr_curvesAcross 59 = .ok (.iload 4, 2) := by decide +kernel
theorem d_Dr_curvesAcross_61 : decode b_Dr_curvesAcross 61 = .ok (.iconst 1, 1) := by decide +kernel
theorem d_Dr_curvesAcross_62 : decode b_Dr_curvesAcross 62 = .ok (.iadd, 1) := by decide +kernel
theorem d_Dr_curvesAcross_63 : decode b_Dr_curvesAcross 63 = .ok (.invokevirtual 47, 3) := by decide +kernel
theorem d_Dr_curvesAcross_66 : decode b_Dr_curvesAcross 66 = .ok (.aload_n 0, 1) := by decide +kernel
theorem d_Dr_curvesAcross_67 : decode b_Dr_curvesAcross 67 = .ok (.iload 4, 2) := by decide +kernel
theorem d_Dr_curvesAcross_69 : decode b_Dr_curvesAcross 69 = .ok (.iconst 2, 1) := by decide +kernel
theorem d_Dr_curvesAcross_70 : decode b_Dr_curvesAcross 70 = .ok (.iadd, 1) := by decide +kernel
theorem d_Dr_curvesAcross_71 : decode b_Dr_curvesAcross 71 = .ok (.invokevirtual 47, 3) := by decide +kernel
theorem d_Dr_curvesAcross_74 : decode b_Dr_curvesAcross 74 = .ok (.aload_n 0, 1) := by decide +kernel
theorem d_Dr_curvesAcross_75 : decode b_Dr_curvesAcross 75 = .ok (.iload 4, 2) := by decide +kernel
theorem d_Dr_curvesAcross_77 : decode b_Dr_curvesAcross 77 = .ok (.iconst 3, 1) := by decide +kernel
theorem d_Dr_curvesAcross_78 : decode b_Dr_curvesAcross 78 = .ok (.iadd, 1) := by decide +kernel
theorem d_Dr_curvesAcross_79 : decode b_Dr_curvesAcross 79 = .ok (.invokevirtual 47, 3) := by decide +kernel
theorem d_Dr_curvesAcross_82 : decode b_Dr_curvesAcross 82 = .ok (.iconst 0, 1) := by decide +kernel
theorem d_Dr_curvesAcross_83 : decode b_Dr_curvesAcross 83 = .ok (.invokevirtual 57, 3) := by decide +kernel
theorem d_Dr_curvesAcross_86 : decode b_Dr_curvesAcross 86 = .ok (.istore_n 2, 1) := by decide +kernel
theorem d_Dr_curvesAcross_87 : decode b_Dr_curvesAcross 87 = .ok (.iinc 4 4, 3) := by decide +kernel
theorem d_Dr_curvesAcross_90 : decode b_Dr_curvesAcross 90 = .ok (.goto (-78), 3) := by decide +kernel
theorem d_Dr_curvesAcross_93 : decode b_Dr_curvesAcross 93 = .ok (.iload_n 2, 1) := by decide +kernel
theorem d_Dr_curvesAcross_94 : decode b_Dr_curvesAcross 94 = .ok (.ireturn, 1) := by decide +kernel
abbrev b_Dr_curvesUpright : ByteArray := prog_3_method_9_code
abbrev y_Dr_curvesUpright : MethodName := ⟨"CharOutlines$Drawing", "curvesUpright", "(LCharOutlines$Values;LCharOutlines$Outline;)Z"⟩
set_option maxRecDepth 100000 in
theorem cal_Dr_curvesUpright : CalS gd_tbl y_Dr_curvesUpright b_Dr_curvesUpright 6 (some .boolean) 2 := ⟨⟨List.mem_filter.mpr ⟨List.mem_of_getElem? (i := 586) rfl, rfl⟩, List.mem_filter.mpr ⟨List.mem_of_getElem? (i := 77) rfl, rfl⟩, ⟨by decide, by decide⟩, by decide +kernel⟩, List.mem_filter.mpr ⟨List.mem_of_getElem? (i := 585) rfl, rfl⟩⟩
theorem d_Dr_curvesUpright_0 : decode b_Dr_curvesUpright 0 = .ok (.iconst 1, 1) := by decide +kernel
theorem d_Dr_curvesUpright_1 : decode b_Dr_curvesUpright 1 = .ok (.istore_n 2, 1) := by decide +kernel
theorem d_Dr_curvesUpright_2 : decode b_Dr_curvesUpright 2 = .ok (.aload_n 0, 1) := by decide +kernel
theorem d_Dr_curvesUpright_3 : decode b_Dr_curvesUpright 3 = .ok (.invokevirtual 7, 3) := by decide +kernel
theorem d_Dr_curvesUpright_6 : decode b_Dr_curvesUpright 6 = .ok (.iconst 4, 1) := by decide +kernel
theorem d_Dr_curvesUpright_7 : decode b_Dr_curvesUpright 7 = .ok (.irem, 1) := by decide +kernel
theorem d_Dr_curvesUpright_8 : decode b_Dr_curvesUpright 8 = .ok (.istore_n 3, 1) := by decide +kernel
theorem d_Dr_curvesUpright_9 : decode b_Dr_curvesUpright 9 = .ok (.iload_n 3, 1) := by decide +kernel
theorem d_Dr_curvesUpright_10 : decode b_Dr_curvesUpright 10 = .ok (.istore 4, 2) := by decide +kernel
theorem d_Dr_curvesUpright_12 : decode b_Dr_curvesUpright 12 = .ok (.iload 4, 2) := by decide +kernel
theorem d_Dr_curvesUpright_14 : decode b_Dr_curvesUpright 14 = .ok (.iconst 4, 1) := by decide +kernel
theorem d_Dr_curvesUpright_15 : decode b_Dr_curvesUpright 15 = .ok (.iadd, 1) := by decide +kernel
theorem d_Dr_curvesUpright_16 : decode b_Dr_curvesUpright 16 = .ok (.aload_n 0, 1) := by decide +kernel
theorem d_Dr_curvesUpright_17 : decode b_Dr_curvesUpright 17 = .ok (.invokevirtual 7, 3) := by decide +kernel
theorem d_Dr_curvesUpright_20 : decode b_Dr_curvesUpright 20 = .ok (.if_icmp .gt 73, 3) := by decide +kernel
theorem d_Dr_curvesUpright_23 : decode b_Dr_curvesUpright 23 = .ok (.iload_n 2, 1) := by decide +kernel
theorem d_Dr_curvesUpright_24 : decode b_Dr_curvesUpright 24 = .ok (.ifCond .eq 69, 3) := by decide +kernel
theorem d_Dr_curvesUpright_27 : decode b_Dr_curvesUpright 27 = .ok (.iload_n 3, 1) := by decide +kernel
theorem d_Dr_curvesUpright_28 : decode b_Dr_curvesUpright 28 = .ok (.iconst 1, 1) := by decide +kernel
theorem d_Dr_curvesUpright_29 : decode b_Dr_curvesUpright 29 = .ok (.if_icmp .ne 17, 3) := by decide +kernel
theorem d_Dr_curvesUpright_32 : decode b_Dr_curvesUpright 32 = .ok (.iload 4, 2) := by decide +kernel
theorem d_Dr_curvesUpright_34 : decode b_Dr_curvesUpright 34 = .ok (.iconst 1, 1) := by decide +kernel
theorem d_Dr_curvesUpright_35 : decode b_Dr_curvesUpright 35 = .ok (.if_icmp .ne 11, 3) := by decide +kernel
theorem d_Dr_curvesUpright_38 : decode b_Dr_curvesUpright 38 = .ok (.aload_n 0, 1) := by decide +kernel
theorem d_Dr_curvesUpright_39 : decode b_Dr_curvesUpright 39 = .ok (.iconst 0, 1) := by decide +kernel
theorem d_Dr_curvesUpright_40 : decode b_Dr_curvesUpright 40 = .ok (.invokevirtual 47, 3) := by decide +kernel
theorem d_Dr_curvesUpright_43 : decode b_Dr_curvesUpright 43 = .ok (.goto 4, 3) := by decide +kernel
theorem d_Dr_curvesUpright_46 : decode b_Dr_curvesUpright 46 = .ok (.iconst 0, 1) := by decide +kernel
theorem d_Dr_curvesUpright_47 : decode b_Dr_curvesUpright 47 = .ok (.istore 5, 2) := by decide +kernel
theorem d_Dr_curvesUpright_49 : decode b_Dr_curvesUpright 49 = .ok (.aload_n 1, 1) := by decide +kernel
theorem d_Dr_curvesUpright_50 : decode b_Dr_curvesUpright 50 = .ok (.iload 5, 2) := by decide +kernel
theorem d_Dr_curvesUpright_52 : decode b_Dr_curvesUpright 52 = .ok (.aload_n 0, 1) := by decide +kernel
theorem d_Dr_curvesUpright_53 : decode b_Dr_curvesUpright 53 = .ok (.iload 4, 2) := by decide +kernel
theorem d_Dr_curvesUpright_55 : decode b_Dr_curvesUpright 55 = .ok (.invokevirtual 47, 3) := by decide +kernel
theorem d_Dr_curvesUpright_58 : decode b_Dr_curvesUpright 58 = .ok (.aload_n 0, 1) := by decide +kernel
theorem d_Dr_curvesUpright_59 : decode b_Dr_curvesUpright 59 = .ok (.iload 4, 2) := by decide +kernel
theorem d_Dr_curvesUpright_61 : decode b_Dr_curvesUpright 61 = .ok (.iconst 1, 1) := by decide +kernel
theorem d_Dr_curvesUpright_62 : decode b_Dr_curvesUpright 62 = .ok (.iadd, 1) := by decide +kernel
theorem d_Dr_curvesUpright_63 : decode b_Dr_curvesUpright 63 = .ok (.invokevirtual 47, 3) := by decide +kernel
theorem d_Dr_curvesUpright_66 : decode b_Dr_curvesUpright 66 = .ok (.aload_n 0, 1) := by decide +kernel
theorem d_Dr_curvesUpright_67 : decode b_Dr_curvesUpright 67 = .ok (.iload 4, 2) := by decide +kernel
theorem d_Dr_curvesUpright_69 : decode b_Dr_curvesUpright 69 = .ok (.iconst 2, 1) := by decide +kernel
theorem d_Dr_curvesUpright_70 : decode b_Dr_curvesUpright 70 = .ok (.iadd, 1) := by decide +kernel
theorem d_Dr_curvesUpright_71 : decode b_Dr_curvesUpright 71 = .ok (.invokevirtual 47, 3) := by decide +kernel
theorem d_Dr_curvesUpright_74 : decode b_Dr_curvesUpright 74 = .ok (.iconst 0, 1) := by decide +kernel
theorem d_Dr_curvesUpright_75 : decode b_Dr_curvesUpright 75 = .ok (.aload_n 0, 1) := by decide +kernel
theorem d_Dr_curvesUpright_76 : decode b_Dr_curvesUpright 76 = .ok (.iload 4, 2) := by decide +kernel
theorem d_Dr_curvesUpright_78 : decode b_Dr_curvesUpright 78 = .ok (.iconst 3, 1) := by decide +kernel
theorem d_Dr_curvesUpright_79 : decode b_Dr_curvesUpright 79 = .ok (.iadd, 1) := by decide +kernel
theorem d_Dr_curvesUpright_80 : decode b_Dr_curvesUpright 80 = .ok (.invokevirtual 47, 3) := by decide +kernel
theorem d_Dr_curvesUpright_83 : decode b_Dr_curvesUpright 83 = .ok (.invokevirtual 57, 3) := by decide +kernel
theorem d_Dr_curvesUpright_86 : decode b_Dr_curvesUpright 86 = .ok (.istore_n 2, 1) := by decide +kernel
theorem d_Dr_curvesUpright_87 : decode b_Dr_curvesUpright 87 = .ok (.iinc 4 4, 3) := by decide +kernel
theorem d_Dr_curvesUpright_90 : decode b_Dr_curvesUpright 90 = .ok (.goto (-78), 3) := by decide +kernel
theorem d_Dr_curvesUpright_93 : decode b_Dr_curvesUpright 93 = .ok (.iload_n 2, 1) := by decide +kernel
theorem d_Dr_curvesUpright_94 : decode b_Dr_curvesUpright 94 = .ok (.ireturn, 1) := by decide +kernel
abbrev b_Math_abs : ByteArray := prog_17_method_61_code
abbrev y_Math_abs : MethodName := ⟨"java/lang/Math", "abs", "(J)J"⟩
set_option maxRecDepth 100000 in
theorem cal_Math_abs : CalS gd_tbl y_Math_abs b_Math_abs 2 (some .long) 1 := ⟨⟨List.mem_filter.mpr ⟨List.mem_of_getElem? (i := 598) rfl, rfl⟩, List.mem_filter.mpr ⟨List.mem_of_getElem? (i := 69) rfl, rfl⟩, ⟨by decide, by decide⟩, by decide +kernel⟩, List.mem_filter.mpr ⟨List.mem_of_getElem? (i := 597) rfl, rfl⟩⟩
theorem d_Math_abs_0 : decode b_Math_abs 0 = .ok (.lload_n 0, 1) := by decide +kernel
theorem d_Math_abs_1 : decode b_Math_abs 1 = .ok (.lconst 0, 1) := by decide +kernel
theorem d_Math_abs_2 : decode b_Math_abs 2 = .ok (.lcmp, 1) := by decide +kernel
theorem d_Math_abs_3 : decode b_Math_abs 3 = .ok (.ifCond .ge 8, 3) := by decide +kernel
theorem d_Math_abs_6 : decode b_Math_abs 6 = .ok (.lload_n 0, 1) := by decide +kernel
theorem d_Math_abs_7 : decode b_Math_abs 7 = .ok (.lneg, 1) := by decide +kernel
theorem d_Math_abs_8 : decode b_Math_abs 8 = .ok (.goto 4, 3) := by decide +kernel
theorem d_Math_abs_11 : decode b_Math_abs 11 = .ok (.lload_n 0, 1) := by decide +kernel
theorem d_Math_abs_12 : decode b_Math_abs 12 = .ok (.lreturn, 1) := by decide +kernel
abbrev b_Dr_flexAcross : ByteArray := prog_3_method_11_code
abbrev y_Dr_flexAcross : MethodName := ⟨"CharOutlines$Drawing", "flexAcross", "(LCharOutlines$Values;LCharOutlines$Outline;)Z"⟩
set_option maxRecDepth 100000 in
theorem cal_Dr_flexAcross : CalS gd_tbl y_Dr_flexAcross b_Dr_flexAcross 2 (some .boolean) 2 := ⟨⟨List.mem_filter.mpr ⟨List.mem_of_getElem? (i := 589) rfl, rfl⟩, List.mem_filter.mpr ⟨List.mem_of_getElem? (i := 77) rfl, rfl⟩, ⟨by decide, by decide⟩, by decide +kernel⟩, List.mem_filter.mpr ⟨List.mem_of_getElem? (i := 588) rfl, rfl⟩⟩
theorem d_Dr_flexAcross_0 : decode b_Dr_flexAcross 0 = .ok (.aload_n 1, 1) := by decide +kernel
theorem d_Dr_flexAcross_1 : decode b_Dr_flexAcross 1 = .ok (.aload_n 0, 1) := by decide +kernel
theorem d_Dr_flexAcross_2 : decode b_Dr_flexAcross 2 = .ok (.iconst 0, 1) := by decide +kernel
theorem d_Dr_flexAcross_3 : decode b_Dr_flexAcross 3 = .ok (.invokevirtual 47, 3) := by decide +kernel
theorem d_Dr_flexAcross_6 : decode b_Dr_flexAcross 6 = .ok (.iconst 0, 1) := by decide +kernel
theorem d_Dr_flexAcross_7 : decode b_Dr_flexAcross 7 = .ok (.aload_n 0, 1) := by decide +kernel
theorem d_Dr_flexAcross_8 : decode b_Dr_flexAcross 8 = .ok (.iconst 1, 1) := by decide +kernel
theorem d_Dr_flexAcross_9 : decode b_Dr_flexAcross 9 = .ok (.invokevirtual 47, 3) := by decide +kernel
theorem d_Dr_flexAcross_12 : decode b_Dr_flexAcross 12 = .ok (.aload_n 0, 1) := by decide +kernel
theorem d_Dr_flexAcross_13 : decode b_Dr_flexAcross 13 = .ok (.iconst 2, 1) := by decide +kernel
theorem d_Dr_flexAcross_14 : decode b_Dr_flexAcross 14 = .ok (.invokevirtual 47, 3) := by decide +kernel
theorem d_Dr_flexAcross_17 : decode b_Dr_flexAcross 17 = .ok (.aload_n 0, 1) := by decide +kernel
theorem d_Dr_flexAcross_18 : decode b_Dr_flexAcross 18 = .ok (.iconst 3, 1) := by decide +kernel
theorem d_Dr_flexAcross_19 : decode b_Dr_flexAcross 19 = .ok (.invokevirtual 47, 3) := by decide +kernel
theorem d_Dr_flexAcross_22 : decode b_Dr_flexAcross 22 = .ok (.iconst 0, 1) := by decide +kernel
theorem d_Dr_flexAcross_23 : decode b_Dr_flexAcross 23 = .ok (.invokevirtual 57, 3) := by decide +kernel
theorem d_Dr_flexAcross_26 : decode b_Dr_flexAcross 26 = .ok (.ifCond .eq 38, 3) := by decide +kernel
theorem d_Dr_flexAcross_29 : decode b_Dr_flexAcross 29 = .ok (.aload_n 1, 1) := by decide +kernel
theorem d_Dr_flexAcross_30 : decode b_Dr_flexAcross 30 = .ok (.aload_n 0, 1) := by decide +kernel
theorem d_Dr_flexAcross_31 : decode b_Dr_flexAcross 31 = .ok (.iconst 4, 1) := by decide +kernel
theorem d_Dr_flexAcross_32 : decode b_Dr_flexAcross 32 = .ok (.invokevirtual 47, 3) := by decide +kernel
theorem d_Dr_flexAcross_35 : decode b_Dr_flexAcross 35 = .ok (.iconst 0, 1) := by decide +kernel
theorem d_Dr_flexAcross_36 : decode b_Dr_flexAcross 36 = .ok (.aload_n 0, 1) := by decide +kernel
theorem d_Dr_flexAcross_37 : decode b_Dr_flexAcross 37 = .ok (.iconst 5, 1) := by decide +kernel
theorem d_Dr_flexAcross_38 : decode b_Dr_flexAcross 38 = .ok (.invokevirtual 47, 3) := by decide +kernel
theorem d_Dr_flexAcross_41 : decode b_Dr_flexAcross 41 = .ok (.aload_n 0, 1) := by decide +kernel
theorem d_Dr_flexAcross_42 : decode b_Dr_flexAcross 42 = .ok (.iconst 2, 1) := by decide +kernel
theorem d_Dr_flexAcross_43 : decode b_Dr_flexAcross 43 = .ok (.invokevirtual 47, 3) := by decide +kernel
theorem d_Dr_flexAcross_46 : decode b_Dr_flexAcross 46 = .ok (.ineg, 1) := by decide +kernel
theorem d_Dr_flexAcross_47 : decode b_Dr_flexAcross 47 = .ok (.aload_n 0, 1) := by decide +kernel
theorem d_Dr_flexAcross_48 : decode b_Dr_flexAcross 48 = .ok (.bipush 6, 2) := by decide +kernel
theorem d_Dr_flexAcross_50 : decode b_Dr_flexAcross 50 = .ok (.invokevirtual 47, 3) := by decide +kernel
theorem d_Dr_flexAcross_53 : decode b_Dr_flexAcross 53 = .ok (.iconst 0, 1) := by decide +kernel
theorem d_Dr_flexAcross_54 : decode b_Dr_flexAcross 54 = .ok (.invokevirtual 57, 3) := by decide +kernel
theorem d_Dr_flexAcross_57 : decode b_Dr_flexAcross 57 = .ok (.ifCond .eq 7, 3) := by decide +kernel
theorem d_Dr_flexAcross_60 : decode b_Dr_flexAcross 60 = .ok (.iconst 1, 1) := by decide +kernel
theorem d_Dr_flexAcross_61 : decode b_Dr_flexAcross 61 = .ok (.goto 4, 3) := by decide +kernel
theorem d_Dr_flexAcross_64 : decode b_Dr_flexAcross 64 = .ok (.iconst 0, 1) := by decide +kernel
theorem d_Dr_flexAcross_65 : decode b_Dr_flexAcross 65 = .ok (.ireturn, 1) := by decide +kernel
abbrev b_Dr_flexBack : ByteArray := prog_3_method_12_code
abbrev y_Dr_flexBack : MethodName := ⟨"CharOutlines$Drawing", "flexBack", "(LCharOutlines$Values;LCharOutlines$Outline;)Z"⟩
set_option maxRecDepth 100000 in
theorem cal_Dr_flexBack : CalS gd_tbl y_Dr_flexBack b_Dr_flexBack 3 (some .boolean) 2 := ⟨⟨List.mem_filter.mpr ⟨List.mem_of_getElem? (i := 592) rfl, rfl⟩, List.mem_filter.mpr ⟨List.mem_of_getElem? (i := 77) rfl, rfl⟩, ⟨by decide, by decide⟩, by decide +kernel⟩, List.mem_filter.mpr ⟨List.mem_of_getElem? (i := 591) rfl, rfl⟩⟩
theorem d_Dr_flexBack_0 : decode b_Dr_flexBack 0 = .ok (.aload_n 0, 1) := by decide +kernel
theorem d_Dr_flexBack_1 : decode b_Dr_flexBack 1 = .ok (.iconst 1, 1) := by decide +kernel
theorem d_Dr_flexBack_2 : decode b_Dr_flexBack 2 = .ok (.invokevirtual 47, 3) := by decide +kernel
theorem d_Dr_flexBack_5 : decode b_Dr_flexBack 5 = .ok (.aload_n 0, 1) := by decide +kernel
theorem d_Dr_flexBack_6 : decode b_Dr_flexBack 6 = .ok (.iconst 3, 1) := by decide +kernel
theorem d_Dr_flexBack_7 : decode b_Dr_flexBack 7 = .ok (.invokevirtual 47, 3) := by decide +kernel
theorem d_Dr_flexBack_10 : decode b_Dr_flexBack 10 = .ok (.iadd, 1) := by decide +kernel
theorem d_Dr_flexBack_11 : decode b_Dr_flexBack 11 = .ok (.aload_n 0, 1) := by decide +kernel
theorem d_Dr_flexBack_12 : decode b_Dr_flexBack 12 = .ok (.bipush 7, 2) := by decide +kernel
theorem d_Dr_flexBack_14 : decode b_Dr_flexBack 14 = .ok (.invokevirtual 47, 3) := by decide +kernel
theorem d_Dr_flexBack_17 : decode b_Dr_flexBack 17 = .ok (.iadd, 1) := by decide +kernel
theorem d_Dr_flexBack_18 : decode b_Dr_flexBack 18 = .ok (.istore_n 2, 1) := by decide +kernel
theorem d_Dr_flexBack_19 : decode b_Dr_flexBack 19 = .ok (.aload_n 1, 1) := by decide +kernel
theorem d_Dr_flexBack_20 : decode b_Dr_flexBack 20 = .ok (.aload_n 0, 1) := by decide +kernel
theorem d_Dr_flexBack_21 : decode b_Dr_flexBack 21 = .ok (.iconst 0, 1) := by decide +kernel
theorem d_Dr_flexBack_22 : decode b_Dr_flexBack 22 = .ok (.invokevirtual 47, 3) := by decide +kernel
theorem d_Dr_flexBack_25 : decode b_Dr_flexBack 25 = .ok (.aload_n 0, 1) := by decide +kernel
theorem d_Dr_flexBack_26 : decode b_Dr_flexBack 26 = .ok (.iconst 1, 1) := by decide +kernel
theorem d_Dr_flexBack_27 : decode b_Dr_flexBack 27 = .ok (.invokevirtual 47, 3) := by decide +kernel
theorem d_Dr_flexBack_30 : decode b_Dr_flexBack 30 = .ok (.aload_n 0, 1) := by decide +kernel
theorem d_Dr_flexBack_31 : decode b_Dr_flexBack 31 = .ok (.iconst 2, 1) := by decide +kernel
theorem d_Dr_flexBack_32 : decode b_Dr_flexBack 32 = .ok (.invokevirtual 47, 3) := by decide +kernel
theorem d_Dr_flexBack_35 : decode b_Dr_flexBack 35 = .ok (.aload_n 0, 1) := by decide +kernel
theorem d_Dr_flexBack_36 : decode b_Dr_flexBack 36 = .ok (.iconst 3, 1) := by decide +kernel
theorem d_Dr_flexBack_37 : decode b_Dr_flexBack 37 = .ok (.invokevirtual 47, 3) := by decide +kernel
theorem d_Dr_flexBack_40 : decode b_Dr_flexBack 40 = .ok (.aload_n 0, 1) := by decide +kernel
theorem d_Dr_flexBack_41 : decode b_Dr_flexBack 41 = .ok (.iconst 4, 1) := by decide +kernel
theorem d_Dr_flexBack_42 : decode b_Dr_flexBack 42 = .ok (.invokevirtual 47, 3) := by decide +kernel
theorem d_Dr_flexBack_45 : decode b_Dr_flexBack 45 = .ok (.iconst 0, 1) := by decide +kernel
theorem d_Dr_flexBack_46 : decode b_Dr_flexBack 46 = .ok (.invokevirtual 57, 3) := by decide +kernel
theorem d_Dr_flexBack_49 : decode b_Dr_flexBack 49 = .ok (.ifCond .eq 40, 3) := by decide +kernel
theorem d_Dr_flexBack_52 : decode b_Dr_flexBack 52 = .ok (.aload_n 1, 1) := by decide +kernel
theorem d_Dr_flexBack_53 : decode b_Dr_flexBack 53 = .ok (.aload_n 0, 1) := by decide +kernel
theorem d_Dr_flexBack_54 : decode b_Dr_flexBack 54 = .ok (.iconst 5, 1) := by decide +kernel
theorem d_Dr_flexBack_55 : decode b_Dr_flexBack 55 = .ok (.invokevirtual 47, 3) := by decide +kernel
theorem d_Dr_flexBack_58 : decode b_Dr_flexBack 58 = .ok (.iconst 0, 1) := by decide +kernel
theorem d_Dr_flexBack_59 : decode b_Dr_flexBack 59 = .ok (.aload_n 0, 1) := by decide +kernel
theorem d_Dr_flexBack_60 : decode b_Dr_flexBack 60 = .ok (.bipush 6, 2) := by decide +kernel
theorem d_Dr_flexBack_62 : decode b_Dr_flexBack 62 = .ok (.invokevirtual 47, 3) := by decide +kernel
theorem d_Dr_flexBack_65 : decode b_Dr_flexBack 65 = .ok (.aload_n 0, 1) := by decide +kernel
theorem d_Dr_flexBack_66 : decode b_Dr_flexBack 66 = .ok (.bipush 7, 2) := by decide +kernel
theorem d_Dr_flexBack_68 : decode b_Dr_flexBack 68 = .ok (.invokevirtual 47, 3) := by decide +kernel
theorem d_Dr_flexBack_71 : decode b_Dr_flexBack 71 = .ok (.aload_n 0, 1) := by decide +kernel
theorem d_Dr_flexBack_72 : decode b_Dr_flexBack 72 = .ok (.bipush 8, 2) := by decide +kernel
theorem d_Dr_flexBack_74 : decode b_Dr_flexBack 74 = .ok (.invokevirtual 47, 3) := by decide +kernel
theorem d_Dr_flexBack_77 : decode b_Dr_flexBack 77 = .ok (.iload_n 2, 1) := by decide +kernel
theorem d_Dr_flexBack_78 : decode b_Dr_flexBack 78 = .ok (.ineg, 1) := by decide +kernel
theorem d_Dr_flexBack_79 : decode b_Dr_flexBack 79 = .ok (.invokevirtual 57, 3) := by decide +kernel
theorem d_Dr_flexBack_82 : decode b_Dr_flexBack 82 = .ok (.ifCond .eq 7, 3) := by decide +kernel
theorem d_Dr_flexBack_85 : decode b_Dr_flexBack 85 = .ok (.iconst 1, 1) := by decide +kernel
theorem d_Dr_flexBack_86 : decode b_Dr_flexBack 86 = .ok (.goto 4, 3) := by decide +kernel
theorem d_Dr_flexBack_89 : decode b_Dr_flexBack 89 = .ok (.iconst 0, 1) := by decide +kernel
theorem d_Dr_flexBack_90 : decode b_Dr_flexBack 90 = .ok (.ireturn, 1) := by decide +kernel
abbrev b_Dr_flexEither : ByteArray := prog_3_method_13_code
abbrev y_Dr_flexEither : MethodName := ⟨"CharOutlines$Drawing", "flexEither", "(LCharOutlines$Values;LCharOutlines$Outline;)Z"⟩
set_option maxRecDepth 100000 in
theorem cal_Dr_flexEither : CalS gd_tbl y_Dr_flexEither b_Dr_flexEither 7 (some .boolean) 2 := ⟨⟨List.mem_filter.mpr ⟨List.mem_of_getElem? (i := 595) rfl, rfl⟩, List.mem_filter.mpr ⟨List.mem_of_getElem? (i := 77) rfl, rfl⟩, ⟨by decide, by decide⟩, by decide +kernel⟩, List.mem_filter.mpr ⟨List.mem_of_getElem? (i := 594) rfl, rfl⟩⟩
theorem d_Dr_flexEither_0 : decode b_Dr_flexEither 0 = .ok (.iconst 0, 1) := by decide +kernel
theorem d_Dr_flexEither_1 : decode b_Dr_flexEither 1 = .ok (.istore_n 2, 1) := by decide +kernel
theorem d_Dr_flexEither_2 : decode b_Dr_flexEither 2 = .ok (.iconst 0, 1) := by decide +kernel
theorem d_Dr_flexEither_3 : decode b_Dr_flexEither 3 = .ok (.istore_n 3, 1) := by decide +kernel
theorem d_Dr_flexEither_4 : decode b_Dr_flexEither 4 = .ok (.iconst 0, 1) := by decide +kernel
theorem d_Dr_flexEither_5 : decode b_Dr_flexEither 5 = .ok (.istore 4, 2) := by decide +kernel
theorem d_Dr_flexEither_7 : decode b_Dr_flexEither 7 = .ok (.iload 4, 2) := by decide +kernel
theorem d_Dr_flexEither_9 : decode b_Dr_flexEither 9 = .ok (.bipush 10, 2) := by decide +kernel
theorem d_Dr_flexEither_11 : decode b_Dr_flexEither 11 = .ok (.if_icmp .ge 29, 3) := by decide +kernel
theorem d_Dr_flexEither_14 : decode b_Dr_flexEither 14 = .ok (.iload_n 2, 1) := by decide +kernel
theorem d_Dr_flexEither_15 : decode b_Dr_flexEither 15 = .ok (.aload_n 0, 1) := by decide +kernel
theorem d_Dr_flexEither_16 : decode b_Dr_flexEither 16 = .ok (.iload 4, 2) := by decide +kernel
theorem d_Dr_flexEither_18 : decode b_Dr_flexEither 18 = .ok (.invokevirtual 47, 3) := by decide +kernel
theorem d_Dr_flexEither_21 : decode b_Dr_flexEither 21 = .ok (.iadd, 1) := by decide +kernel
theorem d_Dr_flexEither_22 : decode b_Dr_flexEither 22 = .ok (.istore_n 2, 1) := by decide +kernel
theorem d_Dr_flexEither_23 : decode b_Dr_flexEither 23 = .ok (.iload_n 3, 1) := by decide +kernel
theorem d_Dr_flexEither_24 : decode b_Dr_flexEither 24 = .ok (.aload_n 0, 1) := by decide +kernel
theorem d_Dr_flexEither_25 : decode b_Dr_flexEither 25 = .ok (.iload 4, 2) := by decide +kernel
theorem d_Dr_flexEither_27 : decode b_Dr_flexEither 27 = .ok (.iconst 1, 1) := by decide +kernel
theorem d_Dr_flexEither_28 : decode b_Dr_flexEither 28 = .ok (.iadd, 1) := by decide +kernel
theorem d_Dr_flexEither_29 : decode b_Dr_flexEither 29 = .ok (.invokevirtual 47, 3) := by decide +kernel
theorem d_Dr_flexEither_32 : decode b_Dr_flexEither 32 = .ok (.iadd, 1) := by decide +kernel
theorem d_Dr_flexEither_33 : decode b_Dr_flexEither 33 = .ok (.istore_n 3, 1) := by decide +kernel
theorem d_Dr_flexEither_34 : decode b_Dr_flexEither 34 = .ok (.iinc 4 2, 3) := by decide +kernel
theorem d_Dr_flexEither_37 : decode b_Dr_flexEither 37 = .ok (.goto (-30), 3) := by decide +kernel
theorem d_Dr_flexEither_40 : decode b_Dr_flexEither 40 = .ok (.iload_n 2, 1) := by decide +kernel
theorem d_Dr_flexEither_41 : decode b_Dr_flexEither 41 = .ok (.i2l, 1) := by decide +kernel
theorem d_Dr_flexEither_42 : decode b_Dr_flexEither 42 = .ok (.invokestatic 61, 3) := by decide +kernel
theorem d_Dr_flexEither_45 : decode b_Dr_flexEither 45 = .ok (.iload_n 3, 1) := by decide +kernel
theorem d_Dr_flexEither_46 : decode b_Dr_flexEither 46 = .ok (.i2l, 1) := by decide +kernel
theorem d_Dr_flexEither_47 : decode b_Dr_flexEither 47 = .ok (.invokestatic 61, 3) := by decide +kernel
theorem d_Dr_flexEither_50 : decode b_Dr_flexEither 50 = .ok (.lcmp, 1) := by decide +kernel
theorem d_Dr_flexEither_51 : decode b_Dr_flexEither 51 = .ok (.ifCond .le 7, 3) := by decide +kernel
theorem d_Dr_flexEither_54 : decode b_Dr_flexEither 54 = .ok (.iconst 1, 1) := by decide +kernel
theorem d_Dr_flexEither_55 : decode b_Dr_flexEither 55 = .ok (.goto 4, 3) := by decide +kernel
theorem d_Dr_flexEither_58 : decode b_Dr_flexEither 58 = .ok (.iconst 0, 1) := by decide +kernel
theorem d_Dr_flexEither_59 : decode b_Dr_flexEither 59 = .ok (.istore 4, 2) := by decide +kernel
theorem d_Dr_flexEither_61 : decode b_Dr_flexEither 61 = .ok (.iload 4, 2) := by decide +kernel
theorem d_Dr_flexEither_63 : decode b_Dr_flexEither 63 = .ok (.ifCond .eq 12, 3) := by decide +kernel
theorem d_Dr_flexEither_66 : decode b_Dr_flexEither 66 = .ok (.aload_n 0, 1) := by decide +kernel
theorem d_Dr_flexEither_67 : decode b_Dr_flexEither 67 = .ok (.bipush 10, 2) := by decide +kernel
theorem d_Dr_flexEither_69 : decode b_Dr_flexEither 69 = .ok (.invokevirtual 47, 3) := by decide +kernel
theorem d_Dr_flexEither_72 : decode b_Dr_flexEither 72 = .ok (.goto 5, 3) := by decide +kernel
theorem d_Dr_flexEither_75 : decode b_Dr_flexEither 75 = .ok (.iload_n 2, 1) := by decide +kernel
theorem d_Dr_flexEither_76 : decode b_Dr_flexEither 76 = .ok (.ineg, 1) := by decide +kernel
theorem d_Dr_flexEither_77 : decode b_Dr_flexEither 77 = .ok (.istore 5, 2) := by decide +kernel
theorem d_Dr_flexEither_79 : decode b_Dr_flexEither 79 = .ok (.iload 4, 2) := by decide +kernel
theorem d_Dr_flexEither_81 : decode b_Dr_flexEither 81 = .ok (.ifCond .eq 8, 3) := by decide +kernel
theorem d_Dr_flexEither_84 : decode b_Dr_flexEither 84 = .ok (.iload_n 3, 1) := by decide +kernel
theorem d_Dr_flexEither_85 : decode b_Dr_flexEither 85 = .ok (.ineg, 1) := by decide +kernel
theorem d_Dr_flexEither_86 : decode b_Dr_flexEither 86 = .ok (.goto 9, 3) := by decide +kernel
theorem d_Dr_flexEither_89 : decode b_Dr_flexEither 89 = .ok (.aload_n 0, 1) := by decide +kernel
theorem d_Dr_flexEither_90 : decode b_Dr_flexEither 90 = .ok (.bipush 10, 2) := by decide +kernel
theorem d_Dr_flexEither_92 : decode b_Dr_flexEither 92 = .ok (.invokevirtual 47, 3) := by decide +kernel
theorem d_Dr_flexEither_95 : decode b_Dr_flexEither 95 = .ok (.istore 6, 2) := by decide +kernel
theorem d_Dr_flexEither_97 : decode b_Dr_flexEither 97 = .ok (.aload_n 1, 1) := by decide +kernel
theorem d_Dr_flexEither_98 : decode b_Dr_flexEither 98 = .ok (.aload_n 0, 1) := by decide +kernel
theorem d_Dr_flexEither_99 : decode b_Dr_flexEither 99 = .ok (.iconst 0, 1) := by decide +kernel
theorem d_Dr_flexEither_100 : decode b_Dr_flexEither 100 = .ok (.invokevirtual 47, 3) := by decide +kernel
theorem d_Dr_flexEither_103 : decode b_Dr_flexEither 103 = .ok (.aload_n 0, 1) := by decide +kernel
theorem d_Dr_flexEither_104 : decode b_Dr_flexEither 104 = .ok (.iconst 1, 1) := by decide +kernel
theorem d_Dr_flexEither_105 : decode b_Dr_flexEither 105 = .ok (.invokevirtual 47, 3) := by decide +kernel
theorem d_Dr_flexEither_108 : decode b_Dr_flexEither 108 = .ok (.aload_n 0, 1) := by decide +kernel
theorem d_Dr_flexEither_109 : decode b_Dr_flexEither 109 = .ok (.iconst 2, 1) := by decide +kernel
theorem d_Dr_flexEither_110 : decode b_Dr_flexEither 110 = .ok (.invokevirtual 47, 3) := by decide +kernel
theorem d_Dr_flexEither_113 : decode b_Dr_flexEither 113 = .ok (.aload_n 0, 1) := by decide +kernel
theorem d_Dr_flexEither_114 : decode b_Dr_flexEither 114 = .ok (.iconst 3, 1) := by decide +kernel
theorem d_Dr_flexEither_115 : decode b_Dr_flexEither 115 = .ok (.invokevirtual 47, 3) := by decide +kernel
theorem d_Dr_flexEither_118 : decode b_Dr_flexEither 118 = .ok (.aload_n 0, 1) := by decide +kernel
theorem d_Dr_flexEither_119 : decode b_Dr_flexEither 119 = .ok (.iconst 4, 1) := by decide +kernel
theorem d_Dr_flexEither_120 : decode b_Dr_flexEither 120 = .ok (.invokevirtual 47, 3) := by decide +kernel
theorem d_Dr_flexEither_123 : decode b_Dr_flexEither 123 = .ok (.aload_n 0, 1) := by decide +kernel
theorem d_Dr_flexEither_124 : decode b_Dr_flexEither 124 = .ok (.iconst 5, 1) := by decide +kernel
theorem d_Dr_flexEither_125 : decode b_Dr_flexEither 125 = .ok (.invokevirtual 47, 3) := by decide +kernel
theorem d_Dr_flexEither_128 : decode b_Dr_flexEither 128 = .ok (.invokevirtual 57, 3) := by decide +kernel
theorem d_Dr_flexEither_131 : decode b_Dr_flexEither 131 = .ok (.ifCond .eq 42, 3) := by decide +kernel
theorem d_Dr_flexEither_134 : decode b_Dr_flexEither 134 = .ok (.aload_n 1, 1) := by decide +kernel
theorem d_Dr_flexEither_135 : decode b_Dr_flexEither 135 = .ok (.aload_n 0, 1) := by decide +kernel
theorem d_Dr_flexEither_136 : decode b_Dr_flexEither 136 = .ok (.bipush 6, 2) := by decide +kernel
theorem d_Dr_flexEither_138 : decode b_Dr_flexEither 138 = .ok (.invokevirtual 47, 3) := by decide +kernel
theorem d_Dr_flexEither_141 : decode b_Dr_flexEither 141 = .ok (.aload_n 0, 1) := by decide +kernel
theorem d_Dr_flexEither_142 : decode b_Dr_flexEither 142 = .ok (.bipush 7, 2) := by decide +kernel
theorem d_Dr_flexEither_144 : decode b_Dr_flexEither 144 = .ok (.invokevirtual 47, 3) := by decide +kernel
theorem d_Dr_flexEither_147 : decode b_Dr_flexEither 147 = .ok (.aload_n 0, 1) := by decide +kernel
theorem d_Dr_flexEither_148 : decode b_Dr_flexEither 148 = .ok (.bipush 8, 2) := by decide +kernel
theorem d_Dr_flexEither_150 : decode b_Dr_flexEither 150 = .ok (.invokevirtual 47, 3) := by decide +kernel
theorem d_Dr_flexEither_153 : decode b_Dr_flexEither 153 = .ok (.aload_n 0, 1) := by decide +kernel
theorem d_Dr_flexEither_154 : decode b_Dr_flexEither 154 = .ok (.bipush 9, 2) := by decide +kernel
theorem d_Dr_flexEither_156 : decode b_Dr_flexEither 156 = .ok (.invokevirtual 47, 3) := by decide +kernel
theorem d_Dr_flexEither_159 : decode b_Dr_flexEither 159 = .ok (.iload 5, 2) := by decide +kernel
theorem d_Dr_flexEither_161 : decode b_Dr_flexEither 161 = .ok (.iload 6, 2) := by decide +kernel
theorem d_Dr_flexEither_163 : decode b_Dr_flexEither 163 = .ok (.invokevirtual 57, 3) := by decide +kernel
theorem d_Dr_flexEither_166 : decode b_Dr_flexEither 166 = .ok (.ifCond .eq 7, 3) := by decide +kernel
theorem d_Dr_flexEither_169 : decode b_Dr_flexEither 169 = .ok (.iconst 1, 1) := by decide +kernel
theorem d_Dr_flexEither_170 : decode b_Dr_flexEither 170 = .ok (.goto 4, 3) := by decide +kernel
theorem d_Dr_flexEither_173 : decode b_Dr_flexEither 173 = .ok (.iconst 0, 1) := by decide +kernel
theorem d_Dr_flexEither_174 : decode b_Dr_flexEither 174 = .ok (.ireturn, 1) := by decide +kernel
abbrev b_Dr_isDrawing : ByteArray := prog_3_method_2_code
abbrev y_Dr_isDrawing : MethodName := ⟨"CharOutlines$Drawing", "isDrawing", "(I)Z"⟩
set_option maxRecDepth 100000 in
theorem cal_Dr_isDrawing : CalS gd_tbl y_Dr_isDrawing b_Dr_isDrawing 1 (some .boolean) 1 := ⟨⟨List.mem_filter.mpr ⟨List.mem_of_getElem? (i := 530) rfl, rfl⟩, List.mem_filter.mpr ⟨List.mem_of_getElem? (i := 77) rfl, rfl⟩, ⟨by decide, by decide⟩, by decide +kernel⟩, List.mem_filter.mpr ⟨List.mem_of_getElem? (i := 529) rfl, rfl⟩⟩
theorem d_Dr_isDrawing_0 : decode b_Dr_isDrawing 0 = .ok (.iload_n 0, 1) := by decide +kernel
theorem d_Dr_isDrawing_1 : decode b_Dr_isDrawing 1 = .ok (.lookupswitch 125 #[(5, 123), (6, 123), (7, 123), (8, 123), (24, 123), (25, 123), (26, 123), (27, 123), (30, 123), (31, 123), (290, 123), (291, 123), (292, 123), (293, 123)], 123) := by decide +kernel
theorem d_Dr_isDrawing_124 : decode b_Dr_isDrawing 124 = .ok (.iconst 1, 1) := by decide +kernel
theorem d_Dr_isDrawing_125 : decode b_Dr_isDrawing 125 = .ok (.ireturn, 1) := by decide +kernel
theorem d_Dr_isDrawing_126 : decode b_Dr_isDrawing 126 = .ok (.iconst 0, 1) := by decide +kernel
theorem d_Dr_isDrawing_127 : decode b_Dr_isDrawing 127 = .ok (.ireturn, 1) := by decide +kernel
abbrev b_Dr_takes : ByteArray := prog_3_method_3_code
abbrev y_Dr_takes : MethodName := ⟨"CharOutlines$Drawing", "takes", "(II)Z"⟩
set_option maxRecDepth 100000 in
theorem cal_Dr_takes : CalS gd_tbl y_Dr_takes b_Dr_takes 2 (some .boolean) 2 := ⟨⟨List.mem_filter.mpr ⟨List.mem_of_getElem? (i := 537) rfl, rfl⟩, List.mem_filter.mpr ⟨List.mem_of_getElem? (i := 77) rfl, rfl⟩, ⟨by decide, by decide⟩, by decide +kernel⟩, List.mem_filter.mpr ⟨List.mem_of_getElem? (i := 536) rfl, rfl⟩⟩
theorem d_Dr_takes_0 : decode b_Dr_takes 0 = .ok (.iload_n 0, 1) := by decide +kernel
theorem d_Dr_takes_1 : decode b_Dr_takes 1 = .ok (.lookupswitch 224 #[(5, 91), (6, 108), (7, 108), (8, 119), (24, 138), (25, 158), (290, 176), (291, 188), (292, 200), (293, 212)], 91) := by decide +kernel
theorem d_Dr_takes_92 : decode b_Dr_takes 92 = .ok (.iload_n 1, 1) := by decide +kernel
theorem d_Dr_takes_93 : decode b_Dr_takes 93 = .ok (.iconst 2, 1) := by decide +kernel
theorem d_Dr_takes_94 : decode b_Dr_takes 94 = .ok (.if_icmp .lt 13, 3) := by decide +kernel
theorem d_Dr_takes_97 : decode b_Dr_takes 97 = .ok (.iload_n 1, 1) := by decide +kernel
theorem d_Dr_takes_98 : decode b_Dr_takes 98 = .ok (.iconst 2, 1) := by decide +kernel
theorem d_Dr_takes_99 : decode b_Dr_takes 99 = .ok (.irem, 1) := by decide +kernel
theorem d_Dr_takes_100 : decode b_Dr_takes 100 = .ok (.ifCond .ne 7, 3) := by decide +kernel
theorem d_Dr_takes_103 : decode b_Dr_takes 103 = .ok (.iconst 1, 1) := by decide +kernel
theorem d_Dr_takes_104 : decode b_Dr_takes 104 = .ok (.goto 4, 3) := by decide +kernel
theorem d_Dr_takes_107 : decode b_Dr_takes 107 = .ok (.iconst 0, 1) := by decide +kernel
theorem d_Dr_takes_108 : decode b_Dr_takes 108 = .ok (.ireturn, 1) := by decide +kernel
theorem d_Dr_takes_109 : decode b_Dr_takes 109 = .ok (.iload_n 1, 1) := by decide +kernel
theorem d_Dr_takes_110 : decode b_Dr_takes 110 = .ok (.iconst 1, 1) := by decide +kernel
theorem d_Dr_takes_111 : decode b_Dr_takes 111 = .ok (.if_icmp .lt 7, 3) := by decide +kernel
theorem d_Dr_takes_114 : decode b_Dr_takes 114 = .ok (.iconst 1, 1) := by decide +kernel
theorem d_Dr_takes_115 : decode b_Dr_takes 115 = .ok (.goto 4, 3) := by decide +kernel
theorem d_Dr_takes_118 : decode b_Dr_takes 118 = .ok (.iconst 0, 1) := by decide +kernel
theorem d_Dr_takes_119 : decode b_Dr_takes 119 = .ok (.ireturn, 1) := by decide +kernel
theorem d_Dr_takes_120 : decode b_Dr_takes 120 = .ok (.iload_n 1, 1) := by decide +kernel
theorem d_Dr_takes_121 : decode b_Dr_takes 121 = .ok (.bipush 6, 2) := by decide +kernel
theorem d_Dr_takes_123 : decode b_Dr_takes 123 = .ok (.if_icmp .lt 14, 3) := by decide +kernel
theorem d_Dr_takes_126 : decode b_Dr_takes 126 = .ok (.iload_n 1, 1) := by decide +kernel
theorem d_Dr_takes_127 : decode b_Dr_takes 127 = .ok (.bipush 6, 2) := by decide +kernel
theorem d_Dr_takes_129 : decode b_Dr_takes 129 = .ok (.irem, 1) := by decide +kernel
theorem d_Dr_takes_130 : decode b_Dr_takes 130 = .ok (.ifCond .ne 7, 3) := by decide +kernel
theorem d_Dr_takes_133 : decode b_Dr_takes 133 = .ok (.iconst 1, 1) := by decide +kernel
theorem d_Dr_takes_134 : decode b_Dr_takes 134 = .ok (.goto 4, 3) := by decide +kernel
theorem d_Dr_takes_137 : decode b_Dr_takes 137 = .ok (.iconst 0, 1) := by decide +kernel
theorem d_Dr_takes_138 : decode b_Dr_takes 138 = .ok (.ireturn, 1) := by decide +kernel
theorem d_Dr_takes_139 : decode b_Dr_takes 139 = .ok (.iload_n 1, 1) := by decide +kernel
theorem d_Dr_takes_140 : decode b_Dr_takes 140 = .ok (.bipush 8, 2) := by decide +kernel
theorem d_Dr_takes_142 : decode b_Dr_takes 142 = .ok (.if_icmp .lt 15, 3) := by decide +kernel
theorem d_Dr_takes_145 : decode b_Dr_takes 145 = .ok (.iload_n 1, 1) := by decide +kernel
theorem d_Dr_takes_146 : decode b_Dr_takes 146 = .ok (.bipush 6, 2) := by decide +kernel
theorem d_Dr_takes_148 : decode b_Dr_takes 148 = .ok (.irem, 1) := by decide +kernel
theorem d_Dr_takes_149 : decode b_Dr_takes 149 = .ok (.iconst 2, 1) := by decide +kernel
theorem d_Dr_takes_150 : decode b_Dr_takes 150 = .ok (.if_icmp .ne 7, 3) := by decide +kernel
theorem d_Dr_takes_153 : decode b_Dr_takes 153 = .ok (.iconst 1, 1) := by decide +kernel
theorem d_Dr_takes_154 : decode b_Dr_takes 154 = .ok (.goto 4, 3) := by decide +kernel
theorem d_Dr_takes_157 : decode b_Dr_takes 157 = .ok (.iconst 0, 1) := by decide +kernel
theorem d_Dr_takes_158 : decode b_Dr_takes 158 = .ok (.ireturn, 1) := by decide +kernel
theorem d_Dr_takes_159 : decode b_Dr_takes 159 = .ok (.iload_n 1, 1) := by decide +kernel
theorem d_Dr_takes_160 : decode b_Dr_takes 160 = .ok (.bipush 8, 2) := by decide +kernel
theorem d_Dr_takes_162 : decode b_Dr_takes 162 = .ok (.if_icmp .lt 13, 3) := by decide +kernel
theorem d_Dr_takes_165 : decode b_Dr_takes 165 = .ok (.iload_n 1, 1) := by decide +kernel
theorem d_Dr_takes_166 : decode b_Dr_takes 166 = .ok (.iconst 2, 1) := by decide +kernel
theorem d_Dr_takes_167 : decode b_Dr_takes 167 = .ok (.irem, 1) := by decide +kernel
theorem d_Dr_takes_168 : decode b_Dr_takes 168 = .ok (.ifCond .ne 7, 3) := by decide +kernel
theorem d_Dr_takes_171 : decode b_Dr_takes 171 = .ok (.iconst 1, 1) := by decide +kernel
theorem d_Dr_takes_172 : decode b_Dr_takes 172 = .ok (.goto 4, 3) := by decide +kernel
theorem d_Dr_takes_175 : decode b_Dr_takes 175 = .ok (.iconst 0, 1) := by decide +kernel
theorem d_Dr_takes_176 : decode b_Dr_takes 176 = .ok (.ireturn, 1) := by decide +kernel
theorem d_Dr_takes_177 : decode b_Dr_takes 177 = .ok (.iload_n 1, 1) := by decide +kernel
theorem d_Dr_takes_178 : decode b_Dr_takes 178 = .ok (.bipush 7, 2) := by decide +kernel
theorem d_Dr_takes_180 : decode b_Dr_takes 180 = .ok (.if_icmp .ne 7, 3) := by decide +kernel
theorem d_Dr_takes_183 : decode b_Dr_takes 183 = .ok (.iconst 1, 1) := by decide +kernel
theorem d_Dr_takes_184 : decode b_Dr_takes 184 = .ok (.goto 4, 3) := by decide +kernel
theorem d_Dr_takes_187 : decode b_Dr_takes 187 = .ok (.iconst 0, 1) := by decide +kernel
theorem d_Dr_takes_188 : decode b_Dr_takes 188 = .ok (.ireturn, 1) := by decide +kernel
theorem d_Dr_takes_189 : decode b_Dr_takes 189 = .ok (.iload_n 1, 1) := by decide +kernel
theorem d_Dr_takes_190 : decode b_Dr_takes 190 = .ok (.bipush 13, 2) := by decide +kernel
theorem d_Dr_takes_192 : decode b_Dr_takes 192 = .ok (.if_icmp .ne 7, 3) := by decide +kernel
theorem d_Dr_takes_195 : decode b_Dr_takes 195 = .ok (.iconst 1, 1) := by decide +kernel
theorem d_Dr_takes_196 : decode b_Dr_takes 196 = .ok (.goto 4, 3) := by decide +kernel
theorem d_Dr_takes_199 : decode b_Dr_takes 199 = .ok (.iconst 0, 1) := by decide +kernel
theorem d_Dr_takes_200 : decode b_Dr_takes 200 = .ok (.ireturn, 1) := by decide +kernel
theorem d_Dr_takes_201 : decode b_Dr_takes 201 = .ok (.iload_n 1, 1) := by decide +kernel
theorem d_Dr_takes_202 : decode b_Dr_takes 202 = .ok (.bipush 9, 2) := by decide +kernel
theorem d_Dr_takes_204 : decode b_Dr_takes 204 = .ok (.if_icmp .ne 7, 3) := by decide +kernel
theorem d_Dr_takes_207 : decode b_Dr_takes 207 = .ok (.iconst 1, 1) := by decide +kernel
theorem d_Dr_takes_208 : decode b_Dr_takes 208 = .ok (.goto 4, 3) := by decide +kernel
theorem d_Dr_takes_211 : decode b_Dr_takes 211 = .ok (.iconst 0, 1) := by decide +kernel
theorem d_Dr_takes_212 : decode b_Dr_takes 212 = .ok (.ireturn, 1) := by decide +kernel
theorem d_Dr_takes_213 : decode b_Dr_takes 213 = .ok (.iload_n 1, 1) := by decide +kernel
theorem d_Dr_takes_214 : decode b_Dr_takes 214 = .ok (.bipush 11, 2) := by decide +kernel
theorem d_Dr_takes_216 : decode b_Dr_takes 216 = .ok (.if_icmp .ne 7, 3) := by decide +kernel
theorem d_Dr_takes_219 : decode b_Dr_takes 219 = .ok (.iconst 1, 1) := by decide +kernel
theorem d_Dr_takes_220 : decode b_Dr_takes 220 = .ok (.goto 4, 3) := by decide +kernel
theorem d_Dr_takes_223 : decode b_Dr_takes 223 = .ok (.iconst 0, 1) := by decide +kernel
theorem d_Dr_takes_224 : decode b_Dr_takes 224 = .ok (.ireturn, 1) := by decide +kernel
theorem d_Dr_takes_225 : decode b_Dr_takes 225 = .ok (.iload_n 1, 1) := by decide +kernel
theorem d_Dr_takes_226 : decode b_Dr_takes 226 = .ok (.iconst 4, 1) := by decide +kernel
theorem d_Dr_takes_227 : decode b_Dr_takes 227 = .ok (.if_icmp .lt 14, 3) := by decide +kernel
theorem d_Dr_takes_230 : decode b_Dr_takes 230 = .ok (.iload_n 1, 1) := by decide +kernel
theorem d_Dr_takes_231 : decode b_Dr_takes 231 = .ok (.iconst 4, 1) := by decide +kernel
theorem d_Dr_takes_232 : decode b_Dr_takes 232 = .ok (.irem, 1) := by decide +kernel
theorem d_Dr_takes_233 : decode b_Dr_takes 233 = .ok (.iconst 1, 1) := by decide +kernel
theorem d_Dr_takes_234 : decode b_Dr_takes 234 = .ok (.if_icmp .gt 7, 3) := by decide +kernel
theorem d_Dr_takes_237 : decode b_Dr_takes 237 = .ok (.iconst 1, 1) := by decide +kernel
theorem d_Dr_takes_238 : decode b_Dr_takes 238 = .ok (.goto 4, 3) := by decide +kernel
theorem d_Dr_takes_241 : decode b_Dr_takes 241 = .ok (.iconst 0, 1) := by decide +kernel
theorem d_Dr_takes_242 : decode b_Dr_takes 242 = .ok (.ireturn, 1) := by decide +kernel
abbrev b_Dr_draw : ByteArray := prog_3_method_4_code
abbrev y_Dr_draw : MethodName := ⟨"CharOutlines$Drawing", "draw", "(ILCharOutlines$Values;LCharOutlines$Outline;)Z"⟩
set_option maxRecDepth 100000 in
theorem cal_Dr_draw : CalS gd_tbl y_Dr_draw b_Dr_draw 4 (some .boolean) 3 := ⟨⟨List.mem_filter.mpr ⟨List.mem_of_getElem? (i := 554) rfl, rfl⟩, List.mem_filter.mpr ⟨List.mem_of_getElem? (i := 77) rfl, rfl⟩, ⟨by decide, by decide⟩, by decide +kernel⟩, List.mem_filter.mpr ⟨List.mem_of_getElem? (i := 553) rfl, rfl⟩⟩
theorem d_Dr_draw_0 : decode b_Dr_draw 0 = .ok (.aload_n 1, 1) := by decide +kernel
theorem d_Dr_draw_1 : decode b_Dr_draw 1 = .ok (.invokevirtual 7, 3) := by decide +kernel
theorem d_Dr_draw_4 : decode b_Dr_draw 4 = .ok (.istore_n 3, 1) := by decide +kernel
theorem d_Dr_draw_5 : decode b_Dr_draw 5 = .ok (.iload_n 0, 1) := by decide +kernel
theorem d_Dr_draw_6 : decode b_Dr_draw 6 = .ok (.lookupswitch 240 #[(5, 106), (6, 114), (7, 114), (8, 131), (24, 139), (25, 169), (26, 207), (27, 201), (290, 213), (291, 219), (292, 228), (293, 234)], 106) := by decide +kernel
theorem d_Dr_draw_112 : decode b_Dr_draw 112 = .ok (.aload_n 1, 1) := by decide +kernel
theorem d_Dr_draw_113 : decode b_Dr_draw 113 = .ok (.iconst 0, 1) := by decide +kernel
theorem d_Dr_draw_114 : decode b_Dr_draw 114 = .ok (.iload_n 3, 1) := by decide +kernel
theorem d_Dr_draw_115 : decode b_Dr_draw 115 = .ok (.aload_n 2, 1) := by decide +kernel
theorem d_Dr_draw_116 : decode b_Dr_draw 116 = .ok (.invokestatic 13, 3) := by decide +kernel
theorem d_Dr_draw_119 : decode b_Dr_draw 119 = .ok (.ireturn, 1) := by decide +kernel
theorem d_Dr_draw_120 : decode b_Dr_draw 120 = .ok (.aload_n 1, 1) := by decide +kernel
theorem d_Dr_draw_121 : decode b_Dr_draw 121 = .ok (.iload_n 0, 1) := by decide +kernel
theorem d_Dr_draw_122 : decode b_Dr_draw 122 = .ok (.bipush 6, 2) := by decide +kernel
theorem d_Dr_draw_124 : decode b_Dr_draw 124 = .ok (.if_icmp .ne 7, 3) := by decide +kernel
theorem d_Dr_draw_127 : decode b_Dr_draw 127 = .ok (.iconst 1, 1) := by decide +kernel
theorem d_Dr_draw_128 : decode b_Dr_draw 128 = .ok (.goto 4, 3) := by decide +kernel
theorem d_Dr_draw_131 : decode b_Dr_draw 131 = .ok (.iconst 0, 1) := by decide +kernel
theorem d_Dr_draw_132 : decode b_Dr_draw 132 = .ok (.aload_n 2, 1) := by decide +kernel
theorem d_Dr_draw_133 : decode b_Dr_draw 133 = .ok (.invokestatic 21, 3) := by decide +kernel
theorem d_Dr_draw_136 : decode b_Dr_draw 136 = .ok (.ireturn, 1) := by decide +kernel
theorem d_Dr_draw_137 : decode b_Dr_draw 137 = .ok (.aload_n 1, 1) := by decide +kernel
theorem d_Dr_draw_138 : decode b_Dr_draw 138 = .ok (.iconst 0, 1) := by decide +kernel
theorem d_Dr_draw_139 : decode b_Dr_draw 139 = .ok (.iload_n 3, 1) := by decide +kernel
theorem d_Dr_draw_140 : decode b_Dr_draw 140 = .ok (.aload_n 2, 1) := by decide +kernel
theorem d_Dr_draw_141 : decode b_Dr_draw 141 = .ok (.invokestatic 25, 3) := by decide +kernel
theorem d_Dr_draw_144 : decode b_Dr_draw 144 = .ok (.ireturn, 1) := by decide +kernel
theorem d_Dr_draw_145 : decode b_Dr_draw 145 = .ok (.aload_n 1, 1) := by decide +kernel
theorem d_Dr_draw_146 : decode b_Dr_draw 146 = .ok (.iconst 0, 1) := by decide +kernel
theorem d_Dr_draw_147 : decode b_Dr_draw 147 = .ok (.iload_n 3, 1) := by decide +kernel
theorem d_Dr_draw_148 : decode b_Dr_draw 148 = .ok (.iconst 2, 1) := by decide +kernel
theorem d_Dr_draw_149 : decode b_Dr_draw 149 = .ok (.isub, 1) := by decide +kernel
theorem d_Dr_draw_150 : decode b_Dr_draw 150 = .ok (.aload_n 2, 1) := by decide +kernel
theorem d_Dr_draw_151 : decode b_Dr_draw 151 = .ok (.invokestatic 25, 3) := by decide +kernel
theorem d_Dr_draw_154 : decode b_Dr_draw 154 = .ok (.ifCond .eq 19, 3) := by decide +kernel
theorem d_Dr_draw_157 : decode b_Dr_draw 157 = .ok (.aload_n 1, 1) := by decide +kernel
theorem d_Dr_draw_158 : decode b_Dr_draw 158 = .ok (.iload_n 3, 1) := by decide +kernel
theorem d_Dr_draw_159 : decode b_Dr_draw 159 = .ok (.iconst 2, 1) := by decide +kernel
theorem d_Dr_draw_160 : decode b_Dr_draw 160 = .ok (.isub, 1) := by decide +kernel
theorem d_Dr_draw_161 : decode b_Dr_draw 161 = .ok (.iload_n 3, 1) := by decide +kernel
theorem d_Dr_draw_162 : decode b_Dr_draw 162 = .ok (.aload_n 2, 1) := by decide +kernel
theorem d_Dr_draw_163 : decode b_Dr_draw 163 = .ok (.invokestatic 13, 3) := by decide +kernel
theorem d_Dr_draw_166 : decode b_Dr_draw 166 = .ok (.ifCond .eq 7, 3) := by decide +kernel
theorem d_Dr_draw_169 : decode b_Dr_draw 169 = .ok (.iconst 1, 1) := by decide +kernel
theorem d_Dr_draw_170 : decode b_Dr_draw 170 = .ok (.goto 4, 3) := by decide +kernel
theorem d_Dr_draw_173 : decode b_Dr_draw 173 = .ok (.iconst 0, 1) := by decide +kernel
theorem d_Dr_draw_174 : decode b_Dr_draw 174 = .ok (.ireturn, 1) := by decide +kernel
theorem d_Dr_draw_175 : decode b_Dr_draw 175 = .ok (.aload_n 1, 1) := by decide +kernel
theorem d_Dr_draw_176 : decode b_Dr_draw 176 = .ok (.iconst 0, 1) := by decide +kernel
theorem d_Dr_draw_177 : decode b_Dr_draw 177 = .ok (.iload_n 3, 1) := by decide +kernel
theorem d_Dr_draw_178 : decode b_Dr_draw 178 = .ok (.bipush 6, 2) := by decide +kernel
theorem d_Dr_draw_180 : decode b_Dr_draw 180 = .ok (.isub, 1) := by decide +kernel
theorem d_Dr_draw_181 : decode b_Dr_draw 181 = .ok (.aload_n 2, 1) := by decide +kernel
theorem d_Dr_draw_182 : decode b_Dr_draw 182 = .ok (.invokestatic 13, 3) := by decide +kernel
theorem d_Dr_draw_185 : decode b_Dr_draw 185 = .ok (.ifCond .eq 20, 3) := by decide +kernel
theorem d_Dr_draw_188 : decode b_Dr_draw 188 = .ok (.aload_n 1, 1) := by decide +kernel
theorem d_Dr_draw_189 : decode b_Dr_draw 189 = .ok (.iload_n 3, 1) := by decide +kernel
theorem d_Dr_draw_190 : decode b_Dr_draw 190 = .ok (.bipush 6, 2) := by decide +kernel
theorem d_Dr_draw_192 : decode b_Dr_draw 192 = .ok (.isub, 1) := by decide +kernel
theorem d_Dr_draw_193 : decode b_Dr_draw 193 = .ok (.iload_n 3, 1) := by decide +kernel
theorem d_Dr_draw_194 : decode b_Dr_draw 194 = .ok (.aload_n 2, 1) := by decide +kernel
theorem d_Dr_draw_195 : decode b_Dr_draw 195 = .ok (.invokestatic 25, 3) := by decide +kernel
theorem d_Dr_draw_198 : decode b_Dr_draw 198 = .ok (.ifCond .eq 7, 3) := by decide +kernel
theorem d_Dr_draw_201 : decode b_Dr_draw 201 = .ok (.iconst 1, 1) := by decide +kernel
theorem d_Dr_draw_202 : decode b_Dr_draw 202 = .ok (.goto 4, 3) := by decide +kernel
theorem d_Dr_draw_205 : decode b_Dr_draw 205 = .ok (.iconst 0, 1) := by decide +kernel
theorem d_Dr_draw_206 : decode b_Dr_draw 206 = .ok (.ireturn, 1) := by decide +kernel
theorem d_Dr_draw_207 : decode b_Dr_draw 207 = .ok (.aload_n 1, 1) := by decide +kernel
theorem d_Dr_draw_208 : decode b_Dr_draw 208 = .ok (.aload_n 2, 1) := by decide +kernel
theorem d_Dr_draw_209 : decode b_Dr_draw 209 = .ok (.invokestatic 28, 3) := by decide +kernel
theorem d_Dr_draw_212 : decode b_Dr_draw 212 = .ok (.ireturn, 1) := by decide +kernel
theorem d_Dr_draw_213 : decode b_Dr_draw 213 = .ok (.aload_n 1, 1) := by decide +kernel
theorem d_Dr_draw_214 : decode b_Dr_draw 214 = .ok (.aload_n 2, 1) := by decide +kernel
theorem d_Dr_draw_215 : decode b_Dr_draw 215 = .ok (.invokestatic 32, 3) := by decide +kernel
theorem d_Dr_draw_218 : decode b_Dr_draw 218 = .ok (.ireturn, 1) := by decide +kernel
theorem d_Dr_draw_219 : decode b_Dr_draw 219 = .ok (.aload_n 1, 1) := by decide +kernel
theorem d_Dr_draw_220 : decode b_Dr_draw 220 = .ok (.aload_n 2, 1) := by decide +kernel
theorem d_Dr_draw_221 : decode b_Dr_draw 221 = .ok (.invokestatic 35, 3) := by decide +kernel
theorem d_Dr_draw_224 : decode b_Dr_draw 224 = .ok (.ireturn, 1) := by decide +kernel
theorem d_Dr_draw_225 : decode b_Dr_draw 225 = .ok (.aload_n 1, 1) := by decide +kernel
theorem d_Dr_draw_226 : decode b_Dr_draw 226 = .ok (.iconst 0, 1) := by decide +kernel
theorem d_Dr_draw_227 : decode b_Dr_draw 227 = .ok (.bipush 12, 2) := by decide +kernel
theorem d_Dr_draw_229 : decode b_Dr_draw 229 = .ok (.aload_n 2, 1) := by decide +kernel
theorem d_Dr_draw_230 : decode b_Dr_draw 230 = .ok (.invokestatic 25, 3) := by decide +kernel
theorem d_Dr_draw_233 : decode b_Dr_draw 233 = .ok (.ireturn, 1) := by decide +kernel
theorem d_Dr_draw_234 : decode b_Dr_draw 234 = .ok (.aload_n 1, 1) := by decide +kernel
theorem d_Dr_draw_235 : decode b_Dr_draw 235 = .ok (.aload_n 2, 1) := by decide +kernel
theorem d_Dr_draw_236 : decode b_Dr_draw 236 = .ok (.invokestatic 38, 3) := by decide +kernel
theorem d_Dr_draw_239 : decode b_Dr_draw 239 = .ok (.ireturn, 1) := by decide +kernel
theorem d_Dr_draw_240 : decode b_Dr_draw 240 = .ok (.aload_n 1, 1) := by decide +kernel
theorem d_Dr_draw_241 : decode b_Dr_draw 241 = .ok (.aload_n 2, 1) := by decide +kernel
theorem d_Dr_draw_242 : decode b_Dr_draw 242 = .ok (.invokestatic 41, 3) := by decide +kernel
theorem d_Dr_draw_245 : decode b_Dr_draw 245 = .ok (.ireturn, 1) := by decide +kernel
theorem d_Dr_draw_246 : decode b_Dr_draw 246 = .ok (.aload_n 1, 1) := by decide +kernel
theorem d_Dr_draw_247 : decode b_Dr_draw 247 = .ok (.iload_n 0, 1) := by decide +kernel
theorem d_Dr_draw_248 : decode b_Dr_draw 248 = .ok (.bipush 31, 2) := by decide +kernel
theorem d_Dr_draw_250 : decode b_Dr_draw 250 = .ok (.if_icmp .ne 7, 3) := by decide +kernel
theorem d_Dr_draw_253 : decode b_Dr_draw 253 = .ok (.iconst 1, 1) := by decide +kernel
theorem d_Dr_draw_254 : decode b_Dr_draw 254 = .ok (.goto 4, 3) := by decide +kernel
theorem d_Dr_draw_257 : decode b_Dr_draw 257 = .ok (.iconst 0, 1) := by decide +kernel
theorem d_Dr_draw_258 : decode b_Dr_draw 258 = .ok (.aload_n 2, 1) := by decide +kernel
theorem d_Dr_draw_259 : decode b_Dr_draw 259 = .ok (.invokestatic 44, 3) := by decide +kernel
theorem d_Dr_draw_262 : decode b_Dr_draw 262 = .ok (.ireturn, 1) := by decide +kernel
abbrev b_Re_valuesTaken : ByteArray := prog_7_method_4_code
abbrev y_Re_valuesTaken : MethodName := ⟨"CharOutlines$Reckoning", "valuesTaken", "(I)I"⟩
set_option maxRecDepth 100000 in
theorem cal_Re_valuesTaken : CalS gd_tbl y_Re_valuesTaken b_Re_valuesTaken 1 (some .int) 1 := ⟨⟨List.mem_filter.mpr ⟨List.mem_of_getElem? (i := 660) rfl, rfl⟩, List.mem_filter.mpr ⟨List.mem_of_getElem? (i := 66) rfl, rfl⟩, ⟨by decide, by decide⟩, by decide +kernel⟩, List.mem_filter.mpr ⟨List.mem_of_getElem? (i := 659) rfl, rfl⟩⟩
theorem d_Re_valuesTaken_0 : decode b_Re_valuesTaken 0 = .ok (.iload_n 0, 1) := by decide +kernel
theorem d_Re_valuesTaken_1 : decode b_Re_valuesTaken 1 = .ok (.tableswitch 133 259 286 #[129, 129, 127, 133, 133, 133, 127, 129, 129, 129, 133, 127, 129, 133, 133, 127, 133, 129, 127, 131, 133, 129, 133, 127, 127, 129, 127, 129], 127) := by decide +kernel
theorem d_Re_valuesTaken_128 : decode b_Re_valuesTaken 128 = .ok (.iconst 1, 1) := by decide +kernel
theorem d_Re_valuesTaken_129 : decode b_Re_valuesTaken 129 = .ok (.ireturn, 1) := by decide +kernel
theorem d_Re_valuesTaken_130 : decode b_Re_valuesTaken 130 = .ok (.iconst 2, 1) := by decide +kernel
theorem d_Re_valuesTaken_131 : decode b_Re_valuesTaken 131 = .ok (.ireturn, 1) := by decide +kernel
theorem d_Re_valuesTaken_132 : decode b_Re_valuesTaken 132 = .ok (.iconst 4, 1) := by decide +kernel
theorem d_Re_valuesTaken_133 : decode b_Re_valuesTaken 133 = .ok (.ireturn, 1) := by decide +kernel
theorem d_Re_valuesTaken_134 : decode b_Re_valuesTaken 134 = .ok (.iconst 0, 1) := by decide +kernel
theorem d_Re_valuesTaken_135 : decode b_Re_valuesTaken 135 = .ok (.ireturn, 1) := by decide +kernel
abbrev b_Re_truth : ByteArray := prog_7_method_8_code
abbrev y_Re_truth : MethodName := ⟨"CharOutlines$Reckoning", "truth", "(Z)I"⟩
set_option maxRecDepth 100000 in
theorem cal_Re_truth : CalS gd_tbl y_Re_truth b_Re_truth 1 (some .int) 1 := ⟨⟨List.mem_filter.mpr ⟨List.mem_of_getElem? (i := 671) rfl, rfl⟩, List.mem_filter.mpr ⟨List.mem_of_getElem? (i := 66) rfl, rfl⟩, ⟨by decide, by decide⟩, by decide +kernel⟩, List.mem_filter.mpr ⟨List.mem_of_getElem? (i := 670) rfl, rfl⟩⟩
theorem d_Re_truth_0 : decode b_Re_truth 0 = .ok (.iload_n 0, 1) := by decide +kernel
theorem d_Re_truth_1 : decode b_Re_truth 1 = .ok (.ifCond .eq 8, 3) := by decide +kernel
theorem d_Re_truth_4 : decode b_Re_truth 4 = .ok (.ldc 86, 2) := by decide +kernel
theorem d_Re_truth_6 : decode b_Re_truth 6 = .ok (.goto 4, 3) := by decide +kernel
theorem d_Re_truth_9 : decode b_Re_truth 9 = .ok (.iconst 0, 1) := by decide +kernel
theorem d_Re_truth_10 : decode b_Re_truth 10 = .ok (.ireturn, 1) := by decide +kernel
abbrev b_Math_floorMod : ByteArray := prog_17_method_50_code
abbrev y_Math_floorMod : MethodName := ⟨"java/lang/Math", "floorMod", "(II)I"⟩
set_option maxRecDepth 100000 in
theorem cal_Math_floorMod : CalS gd_tbl y_Math_floorMod b_Math_floorMod 3 (some .int) 2 := ⟨⟨List.mem_filter.mpr ⟨List.mem_of_getElem? (i := 702) rfl, rfl⟩, List.mem_filter.mpr ⟨List.mem_of_getElem? (i := 69) rfl, rfl⟩, ⟨by decide, by decide⟩, by decide +kernel⟩, List.mem_filter.mpr ⟨List.mem_of_getElem? (i := 701) rfl, rfl⟩⟩
theorem d_Math_floorMod_0 : decode b_Math_floorMod 0 = .ok (.iload_n 0, 1) := by decide +kernel
theorem d_Math_floorMod_1 : decode b_Math_floorMod 1 = .ok (.iload_n 1, 1) := by decide +kernel
theorem d_Math_floorMod_2 : decode b_Math_floorMod 2 = .ok (.irem, 1) := by decide +kernel
theorem d_Math_floorMod_3 : decode b_Math_floorMod 3 = .ok (.istore_n 2, 1) := by decide +kernel
theorem d_Math_floorMod_4 : decode b_Math_floorMod 4 = .ok (.iload_n 0, 1) := by decide +kernel
theorem d_Math_floorMod_5 : decode b_Math_floorMod 5 = .ok (.iload_n 1, 1) := by decide +kernel
theorem d_Math_floorMod_6 : decode b_Math_floorMod 6 = .ok (.ixor, 1) := by decide +kernel
theorem d_Math_floorMod_7 : decode b_Math_floorMod 7 = .ok (.ifCond .ge 11, 3) := by decide +kernel
theorem d_Math_floorMod_10 : decode b_Math_floorMod 10 = .ok (.iload_n 2, 1) := by decide +kernel
theorem d_Math_floorMod_11 : decode b_Math_floorMod 11 = .ok (.ifCond .eq 7, 3) := by decide +kernel
theorem d_Math_floorMod_14 : decode b_Math_floorMod 14 = .ok (.iload_n 2, 1) := by decide +kernel
theorem d_Math_floorMod_15 : decode b_Math_floorMod 15 = .ok (.iload_n 1, 1) := by decide +kernel
theorem d_Math_floorMod_16 : decode b_Math_floorMod 16 = .ok (.iadd, 1) := by decide +kernel
theorem d_Math_floorMod_17 : decode b_Math_floorMod 17 = .ok (.ireturn, 1) := by decide +kernel
theorem d_Math_floorMod_18 : decode b_Math_floorMod 18 = .ok (.iload_n 2, 1) := by decide +kernel
theorem d_Math_floorMod_19 : decode b_Math_floorMod 19 = .ok (.ireturn, 1) := by decide +kernel
abbrev b_Math_floorDiv : ByteArray := prog_17_method_49_code
abbrev y_Math_floorDiv : MethodName := ⟨"java/lang/Math", "floorDiv", "(JJ)J"⟩
set_option maxRecDepth 100000 in
theorem cal_Math_floorDiv : CalS gd_tbl y_Math_floorDiv b_Math_floorDiv 6 (some .long) 2 := ⟨⟨List.mem_filter.mpr ⟨List.mem_of_getElem? (i := 692) rfl, rfl⟩, List.mem_filter.mpr ⟨List.mem_of_getElem? (i := 69) rfl, rfl⟩, ⟨by decide, by decide⟩, by decide +kernel⟩, List.mem_filter.mpr ⟨List.mem_of_getElem? (i := 691) rfl, rfl⟩⟩
theorem d_Math_floorDiv_0 : decode b_Math_floorDiv 0 = .ok (.lload_n 0, 1) := by decide +kernel
theorem d_Math_floorDiv_1 : decode b_Math_floorDiv 1 = .ok (.lload_n 2, 1) := by decide +kernel
theorem d_Math_floorDiv_2 : decode b_Math_floorDiv 2 = .ok (.ldiv, 1) := by decide +kernel
theorem d_Math_floorDiv_3 : decode b_Math_floorDiv 3 = .ok (.lstore 4, 2) := by decide +kernel
theorem d_Math_floorDiv_5 : decode b_Math_floorDiv 5 = .ok (.lload_n 0, 1) := by decide +kernel
theorem d_Math_floorDiv_6 : decode b_Math_floorDiv 6 = .ok (.lload_n 2, 1) := by decide +kernel
theorem d_Math_floorDiv_7 : decode b_Math_floorDiv 7 = .ok (.lxor, 1) := by decide +kernel
theorem d_Math_floorDiv_8 : decode b_Math_floorDiv 8 = .ok (.lconst 0, 1) := by decide +kernel
theorem d_Math_floorDiv_9 : decode b_Math_floorDiv 9 = .ok (.lcmp, 1) := by decide +kernel
theorem d_Math_floorDiv_10 : decode b_Math_floorDiv 10 = .ok (.ifCond .ge 17, 3) := by decide +kernel
theorem d_Math_floorDiv_13 : decode b_Math_floorDiv 13 = .ok (.lload 4, 2) := by decide +kernel
theorem d_Math_floorDiv_15 : decode b_Math_floorDiv 15 = .ok (.lload_n 2, 1) := by decide +kernel
theorem d_Math_floorDiv_16 : decode b_Math_floorDiv 16 = .ok (.lmul, 1) := by decide +kernel
theorem d_Math_floorDiv_17 : decode b_Math_floorDiv 17 = .ok (.lload_n 0, 1) := by decide +kernel
theorem d_Math_floorDiv_18 : decode b_Math_floorDiv 18 = .ok (.lcmp, 1) := by decide +kernel
theorem d_Math_floorDiv_19 : decode b_Math_floorDiv 19 = .ok (.ifCond .eq 8, 3) := by decide +kernel
theorem d_Math_floorDiv_22 : decode b_Math_floorDiv 22 = .ok (.lload 4, 2) := by decide +kernel
theorem d_Math_floorDiv_24 : decode b_Math_floorDiv 24 = .ok (.lconst 1, 1) := by decide +kernel
theorem d_Math_floorDiv_25 : decode b_Math_floorDiv 25 = .ok (.lsub, 1) := by decide +kernel
theorem d_Math_floorDiv_26 : decode b_Math_floorDiv 26 = .ok (.lreturn, 1) := by decide +kernel
theorem d_Math_floorDiv_27 : decode b_Math_floorDiv 27 = .ok (.lload 4, 2) := by decide +kernel
theorem d_Math_floorDiv_29 : decode b_Math_floorDiv 29 = .ok (.lreturn, 1) := by decide +kernel
abbrev b_Re_root : ByteArray := prog_7_method_13_code
abbrev y_Re_root : MethodName := ⟨"CharOutlines$Reckoning", "root", "(J)I"⟩
set_option maxRecDepth 100000 in
theorem cal_Re_root : CalS gd_tbl y_Re_root b_Re_root 8 (some .int) 1 := ⟨⟨List.mem_filter.mpr ⟨List.mem_of_getElem? (i := 680) rfl, rfl⟩, List.mem_filter.mpr ⟨List.mem_of_getElem? (i := 66) rfl, rfl⟩, ⟨by decide, by decide⟩, by decide +kernel⟩, List.mem_filter.mpr ⟨List.mem_of_getElem? (i := 679) rfl, rfl⟩⟩
theorem d_Re_root_0 : decode b_Re_root 0 = .ok (.lconst 0, 1) := by decide +kernel
theorem d_Re_root_1 : decode b_Re_root 1 = .ok (.lstore_n 2, 1) := by decide +kernel
theorem d_Re_root_2 : decode b_Re_root 2 = .ok (.ldc2_w 94, 3) := by decide +kernel
theorem d_Re_root_5 : decode b_Re_root 5 = .ok (.lstore 4, 2) := by decide +kernel
theorem d_Re_root_7 : decode b_Re_root 7 = .ok (.lload 4, 2) := by decide +kernel
theorem d_Re_root_9 : decode b_Re_root 9 = .ok (.lconst 0, 1) := by decide +kernel
theorem d_Re_root_10 : decode b_Re_root 10 = .ok (.lcmp, 1) := by decide +kernel
theorem d_Re_root_11 : decode b_Re_root 11 = .ok (.ifCond .le 31, 3) := by decide +kernel
theorem d_Re_root_14 : decode b_Re_root 14 = .ok (.lload_n 2, 1) := by decide +kernel
theorem d_Re_root_15 : decode b_Re_root 15 = .ok (.lload 4, 2) := by decide +kernel
theorem d_Re_root_17 : decode b_Re_root 17 = .ok (.ladd, 1) := by decide +kernel
theorem d_Re_root_18 : decode b_Re_root 18 = .ok (.lstore 6, 2) := by decide +kernel
theorem d_Re_root_20 : decode b_Re_root 20 = .ok (.lload 6, 2) := by decide +kernel
theorem d_Re_root_22 : decode b_Re_root 22 = .ok (.lload 6, 2) := by decide +kernel
theorem d_Re_root_24 : decode b_Re_root 24 = .ok (.lmul, 1) := by decide +kernel
theorem d_Re_root_25 : decode b_Re_root 25 = .ok (.lload_n 0, 1) := by decide +kernel
theorem d_Re_root_26 : decode b_Re_root 26 = .ok (.lcmp, 1) := by decide +kernel
theorem d_Re_root_27 : decode b_Re_root 27 = .ok (.ifCond .gt 6, 3) := by decide +kernel
theorem d_Re_root_30 : decode b_Re_root 30 = .ok (.lload 6, 2) := by decide +kernel
theorem d_Re_root_32 : decode b_Re_root 32 = .ok (.lstore_n 2, 1) := by decide +kernel
theorem d_Re_root_33 : decode b_Re_root 33 = .ok (.lload 4, 2) := by decide +kernel
theorem d_Re_root_35 : decode b_Re_root 35 = .ok (.iconst 1, 1) := by decide +kernel
theorem d_Re_root_36 : decode b_Re_root 36 = .ok (.lshr, 1) := by decide +kernel
theorem d_Re_root_37 : decode b_Re_root 37 = .ok (.lstore 4, 2) := by decide +kernel
theorem d_Re_root_39 : decode b_Re_root 39 = .ok (.goto (-32), 3) := by decide +kernel
theorem d_Re_root_42 : decode b_Re_root 42 = .ok (.lload_n 2, 1) := by decide +kernel
theorem d_Re_root_43 : decode b_Re_root 43 = .ok (.l2i, 1) := by decide +kernel
theorem d_Re_root_44 : decode b_Re_root 44 = .ok (.ireturn, 1) := by decide +kernel
abbrev b_Re_copyBelow : ByteArray := prog_7_method_9_code
abbrev y_Re_copyBelow : MethodName := ⟨"CharOutlines$Reckoning", "copyBelow", "(ILCharOutlines$Values;)I"⟩
set_option maxRecDepth 100000 in
theorem cal_Re_copyBelow : CalS gd_tbl y_Re_copyBelow b_Re_copyBelow 2 (some .int) 2 := ⟨⟨List.mem_filter.mpr ⟨List.mem_of_getElem? (i := 685) rfl, rfl⟩, List.mem_filter.mpr ⟨List.mem_of_getElem? (i := 66) rfl, rfl⟩, ⟨by decide, by decide⟩, by decide +kernel⟩, List.mem_filter.mpr ⟨List.mem_of_getElem? (i := 684) rfl, rfl⟩⟩
theorem d_Re_copyBelow_0 : decode b_Re_copyBelow 0 = .ok (.iload_n 0, 1) := by decide +kernel
theorem d_Re_copyBelow_1 : decode b_Re_copyBelow 1 = .ok (.aload_n 1, 1) := by decide +kernel
theorem d_Re_copyBelow_2 : decode b_Re_copyBelow 2 = .ok (.invokevirtual 25, 3) := by decide +kernel
theorem d_Re_copyBelow_5 : decode b_Re_copyBelow 5 = .ok (.if_icmp .lt 8, 3) := by decide +kernel
theorem d_Re_copyBelow_8 : decode b_Re_copyBelow 8 = .ok (.bipush (-4), 2) := by decide +kernel
theorem d_Re_copyBelow_10 : decode b_Re_copyBelow 10 = .ok (.goto 19, 3) := by decide +kernel
theorem d_Re_copyBelow_13 : decode b_Re_copyBelow 13 = .ok (.aload_n 1, 1) := by decide +kernel
theorem d_Re_copyBelow_14 : decode b_Re_copyBelow 14 = .ok (.aload_n 1, 1) := by decide +kernel
theorem d_Re_copyBelow_15 : decode b_Re_copyBelow 15 = .ok (.aload_n 1, 1) := by decide +kernel
theorem d_Re_copyBelow_16 : decode b_Re_copyBelow 16 = .ok (.invokevirtual 25, 3) := by decide +kernel
theorem d_Re_copyBelow_19 : decode b_Re_copyBelow 19 = .ok (.iconst 1, 1) := by decide +kernel
theorem d_Re_copyBelow_20 : decode b_Re_copyBelow 20 = .ok (.isub, 1) := by decide +kernel
theorem d_Re_copyBelow_21 : decode b_Re_copyBelow 21 = .ok (.iload_n 0, 1) := by decide +kernel
theorem d_Re_copyBelow_22 : decode b_Re_copyBelow 22 = .ok (.isub, 1) := by decide +kernel
theorem d_Re_copyBelow_23 : decode b_Re_copyBelow 23 = .ok (.invokevirtual 44, 3) := by decide +kernel
theorem d_Re_copyBelow_26 : decode b_Re_copyBelow 26 = .ok (.invokevirtual 47, 3) := by decide +kernel
theorem d_Re_copyBelow_29 : decode b_Re_copyBelow 29 = .ok (.ireturn, 1) := by decide +kernel
abbrev b_Re_roll : ByteArray := prog_7_method_10_code
abbrev y_Re_roll : MethodName := ⟨"CharOutlines$Reckoning", "roll", "(IILCharOutlines$Values;)I"⟩
set_option maxRecDepth 100000 in
theorem cal_Re_roll : CalS gd_tbl y_Re_roll b_Re_roll 3 (some .int) 3 := ⟨⟨List.mem_filter.mpr ⟨List.mem_of_getElem? (i := 699) rfl, rfl⟩, List.mem_filter.mpr ⟨List.mem_of_getElem? (i := 66) rfl, rfl⟩, ⟨by decide, by decide⟩, by decide +kernel⟩, List.mem_filter.mpr ⟨List.mem_of_getElem? (i := 698) rfl, rfl⟩⟩
theorem d_Re_roll_0 : decode b_Re_roll 0 = .ok (.iload_n 0, 1) := by decide +kernel
theorem d_Re_roll_1 : decode b_Re_roll 1 = .ok (.ifCond .lt 11, 3) := by decide +kernel
theorem d_Re_roll_4 : decode b_Re_roll 4 = .ok (.iload_n 0, 1) := by decide +kernel
theorem d_Re_roll_5 : decode b_Re_roll 5 = .ok (.aload_n 2, 1) := by decide +kernel
theorem d_Re_roll_6 : decode b_Re_roll 6 = .ok (.invokevirtual 25, 3) := by decide +kernel
theorem d_Re_roll_9 : decode b_Re_roll 9 = .ok (.if_icmp .le 6, 3) := by decide +kernel
theorem d_Re_roll_12 : decode b_Re_roll 12 = .ok (.bipush (-4), 2) := by decide +kernel
theorem d_Re_roll_14 : decode b_Re_roll 14 = .ok (.ireturn, 1) := by decide +kernel
theorem d_Re_roll_15 : decode b_Re_roll 15 = .ok (.iload_n 0, 1) := by decide +kernel
theorem d_Re_roll_16 : decode b_Re_roll 16 = .ok (.ifCond .le 13, 3) := by decide +kernel
theorem d_Re_roll_19 : decode b_Re_roll 19 = .ok (.aload_n 2, 1) := by decide +kernel
theorem d_Re_roll_20 : decode b_Re_roll 20 = .ok (.iload_n 0, 1) := by decide +kernel
theorem d_Re_roll_21 : decode b_Re_roll 21 = .ok (.iload_n 1, 1) := by decide +kernel
theorem d_Re_roll_22 : decode b_Re_roll 22 = .ok (.iload_n 0, 1) := by decide +kernel
theorem d_Re_roll_23 : decode b_Re_roll 23 = .ok (.invokestatic 87, 3) := by decide +kernel
theorem d_Re_roll_26 : decode b_Re_roll 26 = .ok (.invokevirtual 90, 3) := by decide +kernel
theorem d_Re_roll_29 : decode b_Re_roll 29 = .ok (.iconst 0, 1) := by decide +kernel
theorem d_Re_roll_30 : decode b_Re_roll 30 = .ok (.ireturn, 1) := by decide +kernel
abbrev b_Re_choose : ByteArray := prog_7_method_7_code
abbrev y_Re_choose : MethodName := ⟨"CharOutlines$Reckoning", "choose", "(LCharOutlines$Values;)I"⟩
set_option maxRecDepth 100000 in
theorem cal_Re_choose : CalS gd_tbl y_Re_choose b_Re_choose 5 (some .int) 1 := ⟨⟨List.mem_filter.mpr ⟨List.mem_of_getElem? (i := 710) rfl, rfl⟩, List.mem_filter.mpr ⟨List.mem_of_getElem? (i := 66) rfl, rfl⟩, ⟨by decide, by decide⟩, by decide +kernel⟩, List.mem_filter.mpr ⟨List.mem_of_getElem? (i := 709) rfl, rfl⟩⟩
theorem d_Re_choose_0 : decode b_Re_choose 0 = .ok (.aload_n 0, 1) := by decide +kernel
theorem d_Re_choose_1 : decode b_Re_choose 1 = .ok (.invokevirtual 50, 3) := by decide +kernel
theorem d_Re_choose_4 : decode b_Re_choose 4 = .ok (.istore_n 1, 1) := by decide +kernel
theorem d_Re_choose_5 : decode b_Re_choose 5 = .ok (.aload_n 0, 1) := by decide +kernel
theorem d_Re_choose_6 : decode b_Re_choose 6 = .ok (.invokevirtual 50, 3) := by decide +kernel
theorem d_Re_choose_9 : decode b_Re_choose 9 = .ok (.istore_n 2, 1) := by decide +kernel
theorem d_Re_choose_10 : decode b_Re_choose 10 = .ok (.aload_n 0, 1) := by decide +kernel
theorem d_Re_choose_11 : decode b_Re_choose 11 = .ok (.invokevirtual 50, 3) := by decide +kernel
theorem d_Re_choose_14 : decode b_Re_choose 14 = .ok (.istore_n 3, 1) := by decide +kernel
theorem d_Re_choose_15 : decode b_Re_choose 15 = .ok (.aload_n 0, 1) := by decide +kernel
theorem d_Re_choose_16 : decode b_Re_choose 16 = .ok (.invokevirtual 50, 3) := by decide +kernel
theorem d_Re_choose_19 : decode b_Re_choose 19 = .ok (.istore 4, 2) := by decide +kernel
theorem d_Re_choose_21 : decode b_Re_choose 21 = .ok (.aload_n 0, 1) := by decide +kernel
theorem d_Re_choose_22 : decode b_Re_choose 22 = .ok (.iload_n 2, 1) := by decide +kernel
theorem d_Re_choose_23 : decode b_Re_choose 23 = .ok (.iload_n 1, 1) := by decide +kernel
theorem d_Re_choose_24 : decode b_Re_choose 24 = .ok (.if_icmp .gt 8, 3) := by decide +kernel
theorem d_Re_choose_27 : decode b_Re_choose 27 = .ok (.iload 4, 2) := by decide +kernel
theorem d_Re_choose_29 : decode b_Re_choose 29 = .ok (.goto 4, 3) := by decide +kernel
theorem d_Re_choose_32 : decode b_Re_choose 32 = .ok (.iload_n 3, 1) := by decide +kernel
theorem d_Re_choose_33 : decode b_Re_choose 33 = .ok (.invokevirtual 47, 3) := by decide +kernel
theorem d_Re_choose_36 : decode b_Re_choose 36 = .ok (.ireturn, 1) := by decide +kernel
abbrev b_Re_store : ByteArray := prog_7_method_11_code
abbrev y_Re_store : MethodName := ⟨"CharOutlines$Reckoning", "store", "(II)I"⟩
set_option maxRecDepth 100000 in
theorem cal_Re_store : CalV gd_tbl "CharOutlines$Reckoning" y_Re_store b_Re_store 3 (some .int) 2 := ⟨⟨List.mem_filter.mpr ⟨List.mem_of_getElem? (i := 696) rfl, rfl⟩, List.mem_filter.mpr ⟨List.mem_of_getElem? (i := 66) rfl, rfl⟩, ⟨by decide, by decide⟩, by decide +kernel⟩, List.mem_filter.mpr ⟨List.mem_of_getElem? (i := 695) rfl, rfl⟩, List.mem_filter.mpr ⟨List.mem_of_getElem? (i := 17) rfl, rfl⟩⟩
theorem d_Re_store_0 : decode b_Re_store 0 = .ok (.iload_n 2, 1) := by decide +kernel
theorem d_Re_store_1 : decode b_Re_store 1 = .ok (.ifCond .lt 9, 3) := by decide +kernel
theorem d_Re_store_4 : decode b_Re_store 4 = .ok (.iload_n 2, 1) := by decide +kernel
theorem d_Re_store_5 : decode b_Re_store 5 = .ok (.bipush 32, 2) := by decide +kernel
theorem d_Re_store_7 : decode b_Re_store 7 = .ok (.if_icmp .lt 6, 3) := by decide +kernel
theorem d_Re_store_10 : decode b_Re_store 10 = .ok (.bipush (-4), 2) := by decide +kernel
theorem d_Re_store_12 : decode b_Re_store 12 = .ok (.ireturn, 1) := by decide +kernel
theorem d_Re_store_13 : decode b_Re_store 13 = .ok (.aload_n 0, 1) := by decide +kernel
theorem d_Re_store_14 : decode b_Re_store 14 = .ok (.getfield 9, 3) := by decide +kernel
theorem d_Re_store_17 : decode b_Re_store 17 = .ok (.iload_n 2, 1) := by decide +kernel
theorem d_Re_store_18 : decode b_Re_store 18 = .ok (.iload_n 1, 1) := by decide +kernel
theorem d_Re_store_19 : decode b_Re_store 19 = .ok (.iastore, 1) := by decide +kernel
theorem d_Re_store_20 : decode b_Re_store 20 = .ok (.iconst 0, 1) := by decide +kernel
theorem d_Re_store_21 : decode b_Re_store 21 = .ok (.ireturn, 1) := by decide +kernel
abbrev b_Re_load : ByteArray := prog_7_method_12_code
abbrev y_Re_load : MethodName := ⟨"CharOutlines$Reckoning", "load", "(ILCharOutlines$Values;)I"⟩
set_option maxRecDepth 100000 in
theorem cal_Re_load : CalV gd_tbl "CharOutlines$Reckoning" y_Re_load b_Re_load 3 (some .int) 2 := ⟨⟨List.mem_filter.mpr ⟨List.mem_of_getElem? (i := 676) rfl, rfl⟩, List.mem_filter.mpr ⟨List.mem_of_getElem? (i := 66) rfl, rfl⟩, ⟨by decide, by decide⟩, by decide +kernel⟩, List.mem_filter.mpr ⟨List.mem_of_getElem? (i := 675) rfl, rfl⟩, List.mem_filter.mpr ⟨List.mem_of_getElem? (i := 15) rfl, rfl⟩⟩
theorem d_Re_load_0 : decode b_Re_load 0 = .ok (.iload_n 1, 1) := by decide +kernel
theorem d_Re_load_1 : decode b_Re_load 1 = .ok (.ifCond .lt 9, 3) := by decide +kernel
theorem d_Re_load_4 : decode b_Re_load 4 = .ok (.iload_n 1, 1) := by decide +kernel
theorem d_Re_load_5 : decode b_Re_load 5 = .ok (.bipush 32, 2) := by decide +kernel
theorem d_Re_load_7 : decode b_Re_load 7 = .ok (.if_icmp .lt 8, 3) := by decide +kernel
theorem d_Re_load_10 : decode b_Re_load 10 = .ok (.bipush (-4), 2) := by decide +kernel
theorem d_Re_load_12 : decode b_Re_load 12 = .ok (.goto 13, 3) := by decide +kernel
theorem d_Re_load_15 : decode b_Re_load 15 = .ok (.aload_n 2, 1) := by decide +kernel
theorem d_Re_load_16 : decode b_Re_load 16 = .ok (.aload_n 0, 1) := by decide +kernel
theorem d_Re_load_17 : decode b_Re_load 17 = .ok (.getfield 9, 3) := by decide +kernel
theorem d_Re_load_20 : decode b_Re_load 20 = .ok (.iload_n 1, 1) := by decide +kernel
theorem d_Re_load_21 : decode b_Re_load 21 = .ok (.iaload, 1) := by decide +kernel
theorem d_Re_load_22 : decode b_Re_load 22 = .ok (.invokevirtual 47, 3) := by decide +kernel
theorem d_Re_load_25 : decode b_Re_load 25 = .ok (.ireturn, 1) := by decide +kernel
abbrev b_Re_ofOne : ByteArray := prog_7_method_5_code
abbrev y_Re_ofOne : MethodName := ⟨"CharOutlines$Reckoning", "ofOne", "(ILCharOutlines$Values;)I"⟩
set_option maxRecDepth 100000 in
theorem cal_Re_ofOne : CalV gd_tbl "CharOutlines$Reckoning" y_Re_ofOne b_Re_ofOne 4 (some .int) 2 := ⟨⟨List.mem_filter.mpr ⟨List.mem_of_getElem? (i := 665) rfl, rfl⟩, List.mem_filter.mpr ⟨List.mem_of_getElem? (i := 66) rfl, rfl⟩, ⟨by decide, by decide⟩, by decide +kernel⟩, List.mem_filter.mpr ⟨List.mem_of_getElem? (i := 664) rfl, rfl⟩, List.mem_filter.mpr ⟨List.mem_of_getElem? (i := 14) rfl, rfl⟩⟩
theorem d_Re_ofOne_0 : decode b_Re_ofOne 0 = .ok (.iload_n 1, 1) := by decide +kernel
theorem d_Re_ofOne_1 : decode b_Re_ofOne 1 = .ok (.sipush 283, 3) := by decide +kernel
theorem d_Re_ofOne_4 : decode b_Re_ofOne 4 = .ok (.if_icmp .ne 18, 3) := by decide +kernel
theorem d_Re_ofOne_7 : decode b_Re_ofOne 7 = .ok (.aload_n 2, 1) := by decide +kernel
theorem d_Re_ofOne_8 : decode b_Re_ofOne 8 = .ok (.aload_n 2, 1) := by decide +kernel
theorem d_Re_ofOne_9 : decode b_Re_ofOne 9 = .ok (.aload_n 2, 1) := by decide +kernel
theorem d_Re_ofOne_10 : decode b_Re_ofOne 10 = .ok (.invokevirtual 25, 3) := by decide +kernel
theorem d_Re_ofOne_13 : decode b_Re_ofOne 13 = .ok (.iconst 1, 1) := by decide +kernel
theorem d_Re_ofOne_14 : decode b_Re_ofOne 14 = .ok (.isub, 1) := by decide +kernel
theorem d_Re_ofOne_15 : decode b_Re_ofOne 15 = .ok (.invokevirtual 44, 3) := by decide +kernel
theorem d_Re_ofOne_18 : decode b_Re_ofOne 18 = .ok (.invokevirtual 47, 3) := by decide +kernel
theorem d_Re_ofOne_21 : decode b_Re_ofOne 21 = .ok (.ireturn, 1) := by decide +kernel
theorem d_Re_ofOne_22 : decode b_Re_ofOne 22 = .ok (.aload_n 2, 1) := by decide +kernel
theorem d_Re_ofOne_23 : decode b_Re_ofOne 23 = .ok (.invokevirtual 50, 3) := by decide +kernel
theorem d_Re_ofOne_26 : decode b_Re_ofOne 26 = .ok (.istore_n 3, 1) := by decide +kernel
theorem d_Re_ofOne_27 : decode b_Re_ofOne 27 = .ok (.iload_n 1, 1) := by decide +kernel
theorem d_Re_ofOne_28 : decode b_Re_ofOne 28 = .ok (.lookupswitch 145 #[(261, 60), (265, 77), (270, 92), (277, 99), (282, 109), (285, 132)], 60) := by decide +kernel
theorem d_Re_ofOne_88 : decode b_Re_ofOne 88 = .ok (.aload_n 2, 1) := by decide +kernel
theorem d_Re_ofOne_89 : decode b_Re_ofOne 89 = .ok (.iload_n 3, 1) := by decide +kernel
theorem d_Re_ofOne_90 : decode b_Re_ofOne 90 = .ok (.ifCond .ne 7, 3) := by decide +kernel
theorem d_Re_ofOne_93 : decode b_Re_ofOne 93 = .ok (.iconst 1, 1) := by decide +kernel
theorem d_Re_ofOne_94 : decode b_Re_ofOne 94 = .ok (.goto 4, 3) := by decide +kernel
theorem d_Re_ofOne_97 : decode b_Re_ofOne 97 = .ok (.iconst 0, 1) := by decide +kernel
theorem d_Re_ofOne_98 : decode b_Re_ofOne 98 = .ok (.invokestatic 53, 3) := by decide +kernel
theorem d_Re_ofOne_101 : decode b_Re_ofOne 101 = .ok (.invokevirtual 47, 3) := by decide +kernel
theorem d_Re_ofOne_104 : decode b_Re_ofOne 104 = .ok (.ireturn, 1) := by decide +kernel
theorem d_Re_ofOne_105 : decode b_Re_ofOne 105 = .ok (.aload_n 2, 1) := by decide +kernel
theorem d_Re_ofOne_106 : decode b_Re_ofOne 106 = .ok (.iload_n 3, 1) := by decide +kernel
theorem d_Re_ofOne_107 : decode b_Re_ofOne 107 = .ok (.ifCond .ge 8, 3) := by decide +kernel
theorem d_Re_ofOne_110 : decode b_Re_ofOne 110 = .ok (.iload_n 3, 1) := by decide +kernel
theorem d_Re_ofOne_111 : decode b_Re_ofOne 111 = .ok (.ineg, 1) := by decide +kernel
theorem d_Re_ofOne_112 : decode b_Re_ofOne 112 = .ok (.goto 4, 3) := by decide +kernel
theorem d_Re_ofOne_115 : decode b_Re_ofOne 115 = .ok (.iload_n 3, 1) := by decide +kernel
theorem d_Re_ofOne_116 : decode b_Re_ofOne 116 = .ok (.invokevirtual 47, 3) := by decide +kernel
theorem d_Re_ofOne_119 : decode b_Re_ofOne 119 = .ok (.ireturn, 1) := by decide +kernel
theorem d_Re_ofOne_120 : decode b_Re_ofOne 120 = .ok (.aload_n 2, 1) := by decide +kernel
theorem d_Re_ofOne_121 : decode b_Re_ofOne 121 = .ok (.iload_n 3, 1) := by decide +kernel
theorem d_Re_ofOne_122 : decode b_Re_ofOne 122 = .ok (.ineg, 1) := by decide +kernel
theorem d_Re_ofOne_123 : decode b_Re_ofOne 123 = .ok (.invokevirtual 47, 3) := by decide +kernel
theorem d_Re_ofOne_126 : decode b_Re_ofOne 126 = .ok (.ireturn, 1) := by decide +kernel
theorem d_Re_ofOne_127 : decode b_Re_ofOne 127 = .ok (.aload_n 0, 1) := by decide +kernel
theorem d_Re_ofOne_128 : decode b_Re_ofOne 128 = .ok (.iload_n 3, 1) := by decide +kernel
theorem d_Re_ofOne_129 : decode b_Re_ofOne 129 = .ok (.bipush 16, 2) := by decide +kernel
theorem d_Re_ofOne_131 : decode b_Re_ofOne 131 = .ok (.ishr, 1) := by decide +kernel
theorem d_Re_ofOne_132 : decode b_Re_ofOne 132 = .ok (.aload_n 2, 1) := by decide +kernel
theorem d_Re_ofOne_133 : decode b_Re_ofOne 133 = .ok (.invokevirtual 57, 3) := by decide +kernel
theorem d_Re_ofOne_136 : decode b_Re_ofOne 136 = .ok (.ireturn, 1) := by decide +kernel
theorem d_Re_ofOne_137 : decode b_Re_ofOne 137 = .ok (.iload_n 3, 1) := by decide +kernel
theorem d_Re_ofOne_138 : decode b_Re_ofOne 138 = .ok (.ifCond .ge 8, 3) := by decide +kernel
theorem d_Re_ofOne_141 : decode b_Re_ofOne 141 = .ok (.bipush (-10), 2) := by decide +kernel
theorem d_Re_ofOne_143 : decode b_Re_ofOne 143 = .ok (.goto 16, 3) := by decide +kernel
theorem d_Re_ofOne_146 : decode b_Re_ofOne 146 = .ok (.aload_n 2, 1) := by decide +kernel
theorem d_Re_ofOne_147 : decode b_Re_ofOne 147 = .ok (.iload_n 3, 1) := by decide +kernel
theorem d_Re_ofOne_148 : decode b_Re_ofOne 148 = .ok (.i2l, 1) := by decide +kernel
theorem d_Re_ofOne_149 : decode b_Re_ofOne 149 = .ok (.ldc2_w 60, 3) := by decide +kernel
theorem d_Re_ofOne_152 : decode b_Re_ofOne 152 = .ok (.lmul, 1) := by decide +kernel
theorem d_Re_ofOne_153 : decode b_Re_ofOne 153 = .ok (.invokestatic 62, 3) := by decide +kernel
theorem d_Re_ofOne_156 : decode b_Re_ofOne 156 = .ok (.invokevirtual 47, 3) := by decide +kernel
theorem d_Re_ofOne_159 : decode b_Re_ofOne 159 = .ok (.ireturn, 1) := by decide +kernel
theorem d_Re_ofOne_160 : decode b_Re_ofOne 160 = .ok (.iload_n 3, 1) := by decide +kernel
theorem d_Re_ofOne_161 : decode b_Re_ofOne 161 = .ok (.bipush 16, 2) := by decide +kernel
theorem d_Re_ofOne_163 : decode b_Re_ofOne 163 = .ok (.ishr, 1) := by decide +kernel
theorem d_Re_ofOne_164 : decode b_Re_ofOne 164 = .ok (.iconst 0, 1) := by decide +kernel
theorem d_Re_ofOne_165 : decode b_Re_ofOne 165 = .ok (.invokestatic 66, 3) := by decide +kernel
theorem d_Re_ofOne_168 : decode b_Re_ofOne 168 = .ok (.aload_n 2, 1) := by decide +kernel
theorem d_Re_ofOne_169 : decode b_Re_ofOne 169 = .ok (.invokestatic 72, 3) := by decide +kernel
theorem d_Re_ofOne_172 : decode b_Re_ofOne 172 = .ok (.ireturn, 1) := by decide +kernel
theorem d_Re_ofOne_173 : decode b_Re_ofOne 173 = .ok (.iconst 0, 1) := by decide +kernel
theorem d_Re_ofOne_174 : decode b_Re_ofOne 174 = .ok (.ireturn, 1) := by decide +kernel
abbrev b_Re_ofTwo : ByteArray := prog_7_method_6_code
abbrev y_Re_ofTwo : MethodName := ⟨"CharOutlines$Reckoning", "ofTwo", "(ILCharOutlines$Values;)I"⟩
set_option maxRecDepth 100000 in
theorem cal_Re_ofTwo : CalV gd_tbl "CharOutlines$Reckoning" y_Re_ofTwo b_Re_ofTwo 5 (some .int) 2 := ⟨⟨List.mem_filter.mpr ⟨List.mem_of_getElem? (i := 689) rfl, rfl⟩, List.mem_filter.mpr ⟨List.mem_of_getElem? (i := 66) rfl, rfl⟩, ⟨by decide, by decide⟩, by decide +kernel⟩, List.mem_filter.mpr ⟨List.mem_of_getElem? (i := 688) rfl, rfl⟩, List.mem_filter.mpr ⟨List.mem_of_getElem? (i := 16) rfl, rfl⟩⟩
theorem d_Re_ofTwo_0 : decode b_Re_ofTwo 0 = .ok (.aload_n 2, 1) := by decide +kernel
theorem d_Re_ofTwo_1 : decode b_Re_ofTwo 1 = .ok (.invokevirtual 50, 3) := by decide +kernel
theorem d_Re_ofTwo_4 : decode b_Re_ofTwo 4 = .ok (.istore_n 3, 1) := by decide +kernel
theorem d_Re_ofTwo_5 : decode b_Re_ofTwo 5 = .ok (.aload_n 2, 1) := by decide +kernel
theorem d_Re_ofTwo_6 : decode b_Re_ofTwo 6 = .ok (.invokevirtual 50, 3) := by decide +kernel
theorem d_Re_ofTwo_9 : decode b_Re_ofTwo 9 = .ok (.istore 4, 2) := by decide +kernel
theorem d_Re_ofTwo_11 : decode b_Re_ofTwo 11 = .ok (.iload_n 1, 1) := by decide +kernel
theorem d_Re_ofTwo_12 : decode b_Re_ofTwo 12 = .ok (.tableswitch 267 259 284 #[120, 142, 267, 267, 267, 267, 267, 164, 173, 182, 267, 267, 209, 267, 267, 267, 267, 228, 267, 267, 267, 239, 267, 267, 267, 254], 120) := by decide +kernel
theorem d_Re_ofTwo_132 : decode b_Re_ofTwo 132 = .ok (.aload_n 2, 1) := by decide +kernel
theorem d_Re_ofTwo_133 : decode b_Re_ofTwo 133 = .ok (.iload 4, 2) := by decide +kernel
theorem d_Re_ofTwo_135 : decode b_Re_ofTwo 135 = .ok (.ifCond .eq 11, 3) := by decide +kernel
theorem d_Re_ofTwo_138 : decode b_Re_ofTwo 138 = .ok (.iload_n 3, 1) := by decide +kernel
theorem d_Re_ofTwo_139 : decode b_Re_ofTwo 139 = .ok (.ifCond .eq 7, 3) := by decide +kernel
theorem d_Re_ofTwo_142 : decode b_Re_ofTwo 142 = .ok (.iconst 1, 1) := by decide +kernel
theorem d_Re_ofTwo_143 : decode b_Re_ofTwo 143 = .ok (.goto 4, 3) := by decide +kernel
theorem d_Re_ofTwo_146 : decode b_Re_ofTwo 146 = .ok (.iconst 0, 1) := by decide +kernel
theorem d_Re_ofTwo_147 : decode b_Re_ofTwo 147 = .ok (.invokestatic 53, 3) := by decide +kernel
theorem d_Re_ofTwo_150 : decode b_Re_ofTwo 150 = .ok (.invokevirtual 47, 3) := by decide +kernel
theorem d_Re_ofTwo_153 : decode b_Re_ofTwo 153 = .ok (.ireturn, 1) := by decide +kernel
theorem d_Re_ofTwo_154 : decode b_Re_ofTwo 154 = .ok (.aload_n 2, 1) := by decide +kernel
theorem d_Re_ofTwo_155 : decode b_Re_ofTwo 155 = .ok (.iload 4, 2) := by decide +kernel
theorem d_Re_ofTwo_157 : decode b_Re_ofTwo 157 = .ok (.ifCond .ne 7, 3) := by decide +kernel
theorem d_Re_ofTwo_160 : decode b_Re_ofTwo 160 = .ok (.iload_n 3, 1) := by decide +kernel
theorem d_Re_ofTwo_161 : decode b_Re_ofTwo 161 = .ok (.ifCond .eq 7, 3) := by decide +kernel
theorem d_Re_ofTwo_164 : decode b_Re_ofTwo 164 = .ok (.iconst 1, 1) := by decide +kernel
theorem d_Re_ofTwo_165 : decode b_Re_ofTwo 165 = .ok (.goto 4, 3) := by decide +kernel
theorem d_Re_ofTwo_168 : decode b_Re_ofTwo 168 = .ok (.iconst 0, 1) := by decide +kernel
theorem d_Re_ofTwo_169 : decode b_Re_ofTwo 169 = .ok (.invokestatic 53, 3) := by decide +kernel
theorem d_Re_ofTwo_172 : decode b_Re_ofTwo 172 = .ok (.invokevirtual 47, 3) := by decide +kernel
theorem d_Re_ofTwo_175 : decode b_Re_ofTwo 175 = .ok (.ireturn, 1) := by decide +kernel
theorem d_Re_ofTwo_176 : decode b_Re_ofTwo 176 = .ok (.aload_n 2, 1) := by decide +kernel
theorem d_Re_ofTwo_177 : decode b_Re_ofTwo 177 = .ok (.iload 4, 2) := by decide +kernel
theorem d_Re_ofTwo_179 : decode b_Re_ofTwo 179 = .ok (.iload_n 3, 1) := by decide +kernel
theorem d_Re_ofTwo_180 : decode b_Re_ofTwo 180 = .ok (.iadd, 1) := by decide +kernel
theorem d_Re_ofTwo_181 : decode b_Re_ofTwo 181 = .ok (.invokevirtual 47, 3) := by decide +kernel
theorem d_Re_ofTwo_184 : decode b_Re_ofTwo 184 = .ok (.ireturn, 1) := by decide +kernel
theorem d_Re_ofTwo_185 : decode b_Re_ofTwo 185 = .ok (.aload_n 2, 1) := by decide +kernel
theorem d_Re_ofTwo_186 : decode b_Re_ofTwo 186 = .ok (.iload 4, 2) := by decide +kernel
theorem d_Re_ofTwo_188 : decode b_Re_ofTwo 188 = .ok (.iload_n 3, 1) := by decide +kernel
theorem d_Re_ofTwo_189 : decode b_Re_ofTwo 189 = .ok (.isub, 1) := by decide +kernel
theorem d_Re_ofTwo_190 : decode b_Re_ofTwo 190 = .ok (.invokevirtual 47, 3) := by decide +kernel
theorem d_Re_ofTwo_193 : decode b_Re_ofTwo 193 = .ok (.ireturn, 1) := by decide +kernel
theorem d_Re_ofTwo_194 : decode b_Re_ofTwo 194 = .ok (.iload_n 3, 1) := by decide +kernel
theorem d_Re_ofTwo_195 : decode b_Re_ofTwo 195 = .ok (.ifCond .ne 8, 3) := by decide +kernel
theorem d_Re_ofTwo_198 : decode b_Re_ofTwo 198 = .ok (.bipush (-10), 2) := by decide +kernel
theorem d_Re_ofTwo_200 : decode b_Re_ofTwo 200 = .ok (.goto 20, 3) := by decide +kernel
theorem d_Re_ofTwo_203 : decode b_Re_ofTwo 203 = .ok (.aload_n 2, 1) := by decide +kernel
theorem d_Re_ofTwo_204 : decode b_Re_ofTwo 204 = .ok (.iload 4, 2) := by decide +kernel
theorem d_Re_ofTwo_206 : decode b_Re_ofTwo 206 = .ok (.i2l, 1) := by decide +kernel
theorem d_Re_ofTwo_207 : decode b_Re_ofTwo 207 = .ok (.ldc2_w 60, 3) := by decide +kernel
theorem d_Re_ofTwo_210 : decode b_Re_ofTwo 210 = .ok (.lmul, 1) := by decide +kernel
theorem d_Re_ofTwo_211 : decode b_Re_ofTwo 211 = .ok (.iload_n 3, 1) := by decide +kernel
theorem d_Re_ofTwo_212 : decode b_Re_ofTwo 212 = .ok (.i2l, 1) := by decide +kernel
theorem d_Re_ofTwo_213 : decode b_Re_ofTwo 213 = .ok (.invokestatic 75, 3) := by decide +kernel
theorem d_Re_ofTwo_216 : decode b_Re_ofTwo 216 = .ok (.l2i, 1) := by decide +kernel
theorem d_Re_ofTwo_217 : decode b_Re_ofTwo 217 = .ok (.invokevirtual 47, 3) := by decide +kernel
theorem d_Re_ofTwo_220 : decode b_Re_ofTwo 220 = .ok (.ireturn, 1) := by decide +kernel
theorem d_Re_ofTwo_221 : decode b_Re_ofTwo 221 = .ok (.aload_n 2, 1) := by decide +kernel
theorem d_Re_ofTwo_222 : decode b_Re_ofTwo 222 = .ok (.iload 4, 2) := by decide +kernel
theorem d_Re_ofTwo_224 : decode b_Re_ofTwo 224 = .ok (.iload_n 3, 1) := by decide +kernel
theorem d_Re_ofTwo_225 : decode b_Re_ofTwo 225 = .ok (.if_icmp .ne 7, 3) := by decide +kernel
theorem d_Re_ofTwo_228 : decode b_Re_ofTwo 228 = .ok (.iconst 1, 1) := by decide +kernel
theorem d_Re_ofTwo_229 : decode b_Re_ofTwo 229 = .ok (.goto 4, 3) := by decide +kernel
theorem d_Re_ofTwo_232 : decode b_Re_ofTwo 232 = .ok (.iconst 0, 1) := by decide +kernel
theorem d_Re_ofTwo_233 : decode b_Re_ofTwo 233 = .ok (.invokestatic 53, 3) := by decide +kernel
theorem d_Re_ofTwo_236 : decode b_Re_ofTwo 236 = .ok (.invokevirtual 47, 3) := by decide +kernel
theorem d_Re_ofTwo_239 : decode b_Re_ofTwo 239 = .ok (.ireturn, 1) := by decide +kernel
theorem d_Re_ofTwo_240 : decode b_Re_ofTwo 240 = .ok (.aload_n 0, 1) := by decide +kernel
theorem d_Re_ofTwo_241 : decode b_Re_ofTwo 241 = .ok (.iload 4, 2) := by decide +kernel
theorem d_Re_ofTwo_243 : decode b_Re_ofTwo 243 = .ok (.iload_n 3, 1) := by decide +kernel
theorem d_Re_ofTwo_244 : decode b_Re_ofTwo 244 = .ok (.bipush 16, 2) := by decide +kernel
theorem d_Re_ofTwo_246 : decode b_Re_ofTwo 246 = .ok (.ishr, 1) := by decide +kernel
theorem d_Re_ofTwo_247 : decode b_Re_ofTwo 247 = .ok (.invokevirtual 79, 3) := by decide +kernel
theorem d_Re_ofTwo_250 : decode b_Re_ofTwo 250 = .ok (.ireturn, 1) := by decide +kernel
theorem d_Re_ofTwo_251 : decode b_Re_ofTwo 251 = .ok (.aload_n 2, 1) := by decide +kernel
theorem d_Re_ofTwo_252 : decode b_Re_ofTwo 252 = .ok (.iload 4, 2) := by decide +kernel
theorem d_Re_ofTwo_254 : decode b_Re_ofTwo 254 = .ok (.i2l, 1) := by decide +kernel
theorem d_Re_ofTwo_255 : decode b_Re_ofTwo 255 = .ok (.iload_n 3, 1) := by decide +kernel
theorem d_Re_ofTwo_256 : decode b_Re_ofTwo 256 = .ok (.i2l, 1) := by decide +kernel
theorem d_Re_ofTwo_257 : decode b_Re_ofTwo 257 = .ok (.lmul, 1) := by decide +kernel
theorem d_Re_ofTwo_258 : decode b_Re_ofTwo 258 = .ok (.bipush 16, 2) := by decide +kernel
theorem d_Re_ofTwo_260 : decode b_Re_ofTwo 260 = .ok (.lshr, 1) := by decide +kernel
theorem d_Re_ofTwo_261 : decode b_Re_ofTwo 261 = .ok (.l2i, 1) := by decide +kernel
theorem d_Re_ofTwo_262 : decode b_Re_ofTwo 262 = .ok (.invokevirtual 47, 3) := by decide +kernel
theorem d_Re_ofTwo_265 : decode b_Re_ofTwo 265 = .ok (.ireturn, 1) := by decide +kernel
theorem d_Re_ofTwo_266 : decode b_Re_ofTwo 266 = .ok (.aload_n 2, 1) := by decide +kernel
theorem d_Re_ofTwo_267 : decode b_Re_ofTwo 267 = .ok (.iload_n 3, 1) := by decide +kernel
theorem d_Re_ofTwo_268 : decode b_Re_ofTwo 268 = .ok (.invokevirtual 47, 3) := by decide +kernel
theorem d_Re_ofTwo_271 : decode b_Re_ofTwo 271 = .ok (.pop, 1) := by decide +kernel
theorem d_Re_ofTwo_272 : decode b_Re_ofTwo 272 = .ok (.aload_n 2, 1) := by decide +kernel
theorem d_Re_ofTwo_273 : decode b_Re_ofTwo 273 = .ok (.iload 4, 2) := by decide +kernel
theorem d_Re_ofTwo_275 : decode b_Re_ofTwo 275 = .ok (.invokevirtual 47, 3) := by decide +kernel
theorem d_Re_ofTwo_278 : decode b_Re_ofTwo 278 = .ok (.ireturn, 1) := by decide +kernel
theorem d_Re_ofTwo_279 : decode b_Re_ofTwo 279 = .ok (.iload 4, 2) := by decide +kernel
theorem d_Re_ofTwo_281 : decode b_Re_ofTwo 281 = .ok (.bipush 16, 2) := by decide +kernel
theorem d_Re_ofTwo_283 : decode b_Re_ofTwo 283 = .ok (.ishr, 1) := by decide +kernel
theorem d_Re_ofTwo_284 : decode b_Re_ofTwo 284 = .ok (.iload_n 3, 1) := by decide +kernel
theorem d_Re_ofTwo_285 : decode b_Re_ofTwo 285 = .ok (.bipush 16, 2) := by decide +kernel
theorem d_Re_ofTwo_287 : decode b_Re_ofTwo 287 = .ok (.ishr, 1) := by decide +kernel
theorem d_Re_ofTwo_288 : decode b_Re_ofTwo 288 = .ok (.aload_n 2, 1) := by decide +kernel
theorem d_Re_ofTwo_289 : decode b_Re_ofTwo 289 = .ok (.invokestatic 82, 3) := by decide +kernel
theorem d_Re_ofTwo_292 : decode b_Re_ofTwo 292 = .ok (.ireturn, 1) := by decide +kernel
abbrev b_Re_reckon : ByteArray := prog_7_method_3_code
abbrev y_Re_reckon : MethodName := ⟨"CharOutlines$Reckoning", "reckon", "(ILCharOutlines$Values;)I"⟩
set_option maxRecDepth 100000 in
theorem cal_Re_reckon : CalV gd_tbl "CharOutlines$Reckoning" y_Re_reckon b_Re_reckon 4 (some .int) 2 := ⟨⟨List.mem_filter.mpr ⟨List.mem_of_getElem? (i := 657) rfl, rfl⟩, List.mem_filter.mpr ⟨List.mem_of_getElem? (i := 66) rfl, rfl⟩, ⟨by decide, by decide⟩, by decide +kernel⟩, List.mem_filter.mpr ⟨List.mem_of_getElem? (i := 655) rfl, rfl⟩, List.mem_filter.mpr ⟨List.mem_of_getElem? (i := 656) rfl, rfl⟩⟩
theorem d_Re_reckon_0 : decode b_Re_reckon 0 = .ok (.iload_n 1, 1) := by decide +kernel
theorem d_Re_reckon_1 : decode b_Re_reckon 1 = .ok (.invokestatic 21, 3) := by decide +kernel
theorem d_Re_reckon_4 : decode b_Re_reckon 4 = .ok (.istore_n 3, 1) := by decide +kernel
theorem d_Re_reckon_5 : decode b_Re_reckon 5 = .ok (.iload_n 3, 1) := by decide +kernel
theorem d_Re_reckon_6 : decode b_Re_reckon 6 = .ok (.ifCond .ne 6, 3) := by decide +kernel
theorem d_Re_reckon_9 : decode b_Re_reckon 9 = .ok (.bipush (-5), 2) := by decide +kernel
theorem d_Re_reckon_11 : decode b_Re_reckon 11 = .ok (.ireturn, 1) := by decide +kernel
theorem d_Re_reckon_12 : decode b_Re_reckon 12 = .ok (.aload_n 2, 1) := by decide +kernel
theorem d_Re_reckon_13 : decode b_Re_reckon 13 = .ok (.invokevirtual 25, 3) := by decide +kernel
theorem d_Re_reckon_16 : decode b_Re_reckon 16 = .ok (.iload_n 3, 1) := by decide +kernel
theorem d_Re_reckon_17 : decode b_Re_reckon 17 = .ok (.if_icmp .ge 6, 3) := by decide +kernel
theorem d_Re_reckon_20 : decode b_Re_reckon 20 = .ok (.bipush (-4), 2) := by decide +kernel
theorem d_Re_reckon_22 : decode b_Re_reckon 22 = .ok (.ireturn, 1) := by decide +kernel
theorem d_Re_reckon_23 : decode b_Re_reckon 23 = .ok (.iload_n 3, 1) := by decide +kernel
theorem d_Re_reckon_24 : decode b_Re_reckon 24 = .ok (.lookupswitch 42 #[(1, 28), (2, 35)], 28) := by decide +kernel
theorem d_Re_reckon_52 : decode b_Re_reckon 52 = .ok (.aload_n 0, 1) := by decide +kernel
theorem d_Re_reckon_53 : decode b_Re_reckon 53 = .ok (.iload_n 1, 1) := by decide +kernel
theorem d_Re_reckon_54 : decode b_Re_reckon 54 = .ok (.aload_n 2, 1) := by decide +kernel
theorem d_Re_reckon_55 : decode b_Re_reckon 55 = .ok (.invokevirtual 31, 3) := by decide +kernel
theorem d_Re_reckon_58 : decode b_Re_reckon 58 = .ok (.ireturn, 1) := by decide +kernel
theorem d_Re_reckon_59 : decode b_Re_reckon 59 = .ok (.aload_n 0, 1) := by decide +kernel
theorem d_Re_reckon_60 : decode b_Re_reckon 60 = .ok (.iload_n 1, 1) := by decide +kernel
theorem d_Re_reckon_61 : decode b_Re_reckon 61 = .ok (.aload_n 2, 1) := by decide +kernel
theorem d_Re_reckon_62 : decode b_Re_reckon 62 = .ok (.invokevirtual 35, 3) := by decide +kernel
theorem d_Re_reckon_65 : decode b_Re_reckon 65 = .ok (.ireturn, 1) := by decide +kernel
theorem d_Re_reckon_66 : decode b_Re_reckon 66 = .ok (.aload_n 2, 1) := by decide +kernel
theorem d_Re_reckon_67 : decode b_Re_reckon 67 = .ok (.invokestatic 38, 3) := by decide +kernel
theorem d_Re_reckon_70 : decode b_Re_reckon 70 = .ok (.ireturn, 1) := by decide +kernel
set_option maxRecDepth 100000 in
theorem kc_Re_86 : (Jvm.Cond.constant "CharOutlines$Reckoning" (86 : Nat) (65536 : Int32)) ∈ gd_tbl := List.mem_filter.mpr ⟨List.mem_of_getElem? (i := 672) rfl, rfl⟩
set_option maxRecDepth 100000 in
theorem kl_Re_60 : (Jvm.Cond.constantLong "CharOutlines$Reckoning" (60 : Nat) (65536 : Int64)) ∈ gd_tbl := List.mem_filter.mpr ⟨List.mem_of_getElem? (i := 677) rfl, rfl⟩
set_option maxRecDepth 100000 in
theorem kl_Re_94 : (Jvm.Cond.constantLong "CharOutlines$Reckoning" (94 : Nat) (8388608 : Int64)) ∈ gd_tbl := List.mem_filter.mpr ⟨List.mem_of_getElem? (i := 681) rfl, rfl⟩
set_option maxRecDepth 100000 in
theorem ml_Dr_13 : (Jvm.Cond.methodLink "CharOutlines$Drawing" (13 : Nat) ({ cls := "CharOutlines$Drawing", name := "lines", desc := "(LCharOutlines$Values;IILCharOutlines$Outline;)Z" } : Jvm.MethodName)) ∈ gd_tbl := List.mem_filter.mpr ⟨List.mem_of_getElem? (i := 556) rfl, rfl⟩
set_option maxRecDepth 100000 in
theorem ml_Dr_21 : (Jvm.Cond.methodLink "CharOutlines$Drawing" (21 : Nat) ({ cls := "CharOutlines$Drawing", name := "linesInTurn", desc := "(LCharOutlines$Values;ZLCharOutlines$Outline;)Z" } : Jvm.MethodName)) ∈ gd_tbl := List.mem_filter.mpr ⟨List.mem_of_getElem? (i := 571) rfl, rfl⟩
set_option maxRecDepth 100000 in
theorem ml_Dr_25 : (Jvm.Cond.methodLink "CharOutlines$Drawing" (25 : Nat) ({ cls := "CharOutlines$Drawing", name := "curves", desc := "(LCharOutlines$Values;IILCharOutlines$Outline;)Z" } : Jvm.MethodName)) ∈ gd_tbl := List.mem_filter.mpr ⟨List.mem_of_getElem? (i := 574) rfl, rfl⟩
set_option maxRecDepth 100000 in
theorem ml_Dr_28 : (Jvm.Cond.methodLink "CharOutlines$Drawing" (28 : Nat) ({ cls := "CharOutlines$Drawing", name := "curvesAcross", desc := "(LCharOutlines$Values;LCharOutlines$Outline;)Z" } : Jvm.MethodName)) ∈ gd_tbl := List.mem_filter.mpr ⟨List.mem_of_getElem? (i := 581) rfl, rfl⟩
set_option maxRecDepth 100000 in
theorem ml_Dr_32 : (Jvm.Cond.methodLink "CharOutlines$Drawing" (32 : Nat) ({ cls := "CharOutlines$Drawing", name := "curvesUpright", desc := "(LCharOutlines$Values;LCharOutlines$Outline;)Z" } : Jvm.MethodName)) ∈ gd_tbl := List.mem_filter.mpr ⟨List.mem_of_getElem? (i := 584) rfl, rfl⟩
set_option maxRecDepth 100000 in
theorem ml_Dr_35 : (Jvm.Cond.methodLink "CharOutlines$Drawing" (35 : Nat) ({ cls := "CharOutlines$Drawing", name := "flexAcross", desc := "(LCharOutlines$Values;LCharOutlines$Outline;)Z" } : Jvm.MethodName)) ∈ gd_tbl := List.mem_filter.mpr ⟨List.mem_of_getElem? (i := 587) rfl, rfl⟩
set_option maxRecDepth 100000 in
theorem ml_Dr_38 : (Jvm.Cond.methodLink "CharOutlines$Drawing" (38 : Nat) ({ cls := "CharOutlines$Drawing", name := "flexBack", desc := "(LCharOutlines$Values;LCharOutlines$Outline;)Z" } : Jvm.MethodName)) ∈ gd_tbl := List.mem_filter.mpr ⟨List.mem_of_getElem? (i := 590) rfl, rfl⟩
set_option maxRecDepth 100000 in
theorem ml_Dr_41 : (Jvm.Cond.methodLink "CharOutlines$Drawing" (41 : Nat) ({ cls := "CharOutlines$Drawing", name := "flexEither", desc := "(LCharOutlines$Values;LCharOutlines$Outline;)Z" } : Jvm.MethodName)) ∈ gd_tbl := List.mem_filter.mpr ⟨List.mem_of_getElem? (i := 593) rfl, rfl⟩
set_option maxRecDepth 100000 in
theorem ml_Dr_44 : (Jvm.Cond.methodLink "CharOutlines$Drawing" (44 : Nat) ({ cls := "CharOutlines$Drawing", name := "curvesInTurn", desc := "(LCharOutlines$Values;ZLCharOutlines$Outline;)Z" } : Jvm.MethodName)) ∈ gd_tbl := List.mem_filter.mpr ⟨List.mem_of_getElem? (i := 599) rfl, rfl⟩
set_option maxRecDepth 100000 in
theorem ml_Dr_47 : (Jvm.Cond.methodLink "CharOutlines$Drawing" (47 : Nat) ({ cls := "CharOutlines$Values", name := "at", desc := "(I)I" } : Jvm.MethodName)) ∈ gd_tbl := List.mem_filter.mpr ⟨List.mem_of_getElem? (i := 559) rfl, rfl⟩
set_option maxRecDepth 100000 in
theorem ml_Dr_51 : (Jvm.Cond.methodLink "CharOutlines$Drawing" (51 : Nat) ({ cls := "CharOutlines$Outline", name := "line", desc := "(II)Z" } : Jvm.MethodName)) ∈ gd_tbl := List.mem_filter.mpr ⟨List.mem_of_getElem? (i := 563) rfl, rfl⟩
set_option maxRecDepth 100000 in
theorem ml_Dr_57 : (Jvm.Cond.methodLink "CharOutlines$Drawing" (57 : Nat) ({ cls := "CharOutlines$Outline", name := "curve", desc := "(IIIIII)Z" } : Jvm.MethodName)) ∈ gd_tbl := List.mem_filter.mpr ⟨List.mem_of_getElem? (i := 577) rfl, rfl⟩
set_option maxRecDepth 100000 in
theorem ml_Dr_61 : (Jvm.Cond.methodLink "CharOutlines$Drawing" (61 : Nat) ({ cls := "java/lang/Math", name := "abs", desc := "(J)J" } : Jvm.MethodName)) ∈ gd_tbl := List.mem_filter.mpr ⟨List.mem_of_getElem? (i := 596) rfl, rfl⟩
set_option maxRecDepth 100000 in
theorem ml_Dr_7 : (Jvm.Cond.methodLink "CharOutlines$Drawing" (7 : Nat) ({ cls := "CharOutlines$Values", name := "size", desc := "()I" } : Jvm.MethodName)) ∈ gd_tbl := List.mem_filter.mpr ⟨List.mem_of_getElem? (i := 555) rfl, rfl⟩
set_option maxRecDepth 100000 in
theorem ml_Re_21 : (Jvm.Cond.methodLink "CharOutlines$Reckoning" (21 : Nat) ({ cls := "CharOutlines$Reckoning", name := "valuesTaken", desc := "(I)I" } : Jvm.MethodName)) ∈ gd_tbl := List.mem_filter.mpr ⟨List.mem_of_getElem? (i := 658) rfl, rfl⟩
set_option maxRecDepth 100000 in
theorem ml_Re_25 : (Jvm.Cond.methodLink "CharOutlines$Reckoning" (25 : Nat) ({ cls := "CharOutlines$Values", name := "size", desc := "()I" } : Jvm.MethodName)) ∈ gd_tbl := List.mem_filter.mpr ⟨List.mem_of_getElem? (i := 661) rfl, rfl⟩
set_option maxRecDepth 100000 in
theorem ml_Re_31 : (Jvm.Cond.methodLink "CharOutlines$Reckoning" (31 : Nat) ({ cls := "CharOutlines$Reckoning", name := "ofOne", desc := "(ILCharOutlines$Values;)I" } : Jvm.MethodName)) ∈ gd_tbl := List.mem_filter.mpr ⟨List.mem_of_getElem? (i := 662) rfl, rfl⟩
set_option maxRecDepth 100000 in
theorem ml_Re_35 : (Jvm.Cond.methodLink "CharOutlines$Reckoning" (35 : Nat) ({ cls := "CharOutlines$Reckoning", name := "ofTwo", desc := "(ILCharOutlines$Values;)I" } : Jvm.MethodName)) ∈ gd_tbl := List.mem_filter.mpr ⟨List.mem_of_getElem? (i := 686) rfl, rfl⟩
set_option maxRecDepth 100000 in
theorem ml_Re_38 : (Jvm.Cond.methodLink "CharOutlines$Reckoning" (38 : Nat) ({ cls := "CharOutlines$Reckoning", name := "choose", desc := "(LCharOutlines$Values;)I" } : Jvm.MethodName)) ∈ gd_tbl := List.mem_filter.mpr ⟨List.mem_of_getElem? (i := 708) rfl, rfl⟩
set_option maxRecDepth 100000 in
theorem ml_Re_44 : (Jvm.Cond.methodLink "CharOutlines$Reckoning" (44 : Nat) ({ cls := "CharOutlines$Values", name := "at", desc := "(I)I" } : Jvm.MethodName)) ∈ gd_tbl := List.mem_filter.mpr ⟨List.mem_of_getElem? (i := 666) rfl, rfl⟩
set_option maxRecDepth 100000 in
theorem ml_Re_47 : (Jvm.Cond.methodLink "CharOutlines$Reckoning" (47 : Nat) ({ cls := "CharOutlines$Values", name := "push", desc := "(I)I" } : Jvm.MethodName)) ∈ gd_tbl := List.mem_filter.mpr ⟨List.mem_of_getElem? (i := 667) rfl, rfl⟩
set_option maxRecDepth 100000 in
theorem ml_Re_50 : (Jvm.Cond.methodLink "CharOutlines$Reckoning" (50 : Nat) ({ cls := "CharOutlines$Values", name := "pop", desc := "()I" } : Jvm.MethodName)) ∈ gd_tbl := List.mem_filter.mpr ⟨List.mem_of_getElem? (i := 668) rfl, rfl⟩
set_option maxRecDepth 100000 in
theorem ml_Re_53 : (Jvm.Cond.methodLink "CharOutlines$Reckoning" (53 : Nat) ({ cls := "CharOutlines$Reckoning", name := "truth", desc := "(Z)I" } : Jvm.MethodName)) ∈ gd_tbl := List.mem_filter.mpr ⟨List.mem_of_getElem? (i := 669) rfl, rfl⟩
set_option maxRecDepth 100000 in
theorem ml_Re_57 : (Jvm.Cond.methodLink "CharOutlines$Reckoning" (57 : Nat) ({ cls := "CharOutlines$Reckoning", name := "load", desc := "(ILCharOutlines$Values;)I" } : Jvm.MethodName)) ∈ gd_tbl := List.mem_filter.mpr ⟨List.mem_of_getElem? (i := 673) rfl, rfl⟩
set_option maxRecDepth 100000 in
theorem ml_Re_62 : (Jvm.Cond.methodLink "CharOutlines$Reckoning" (62 : Nat) ({ cls := "CharOutlines$Reckoning", name := "root", desc := "(J)I" } : Jvm.MethodName)) ∈ gd_tbl := List.mem_filter.mpr ⟨List.mem_of_getElem? (i := 678) rfl, rfl⟩
set_option maxRecDepth 100000 in
theorem ml_Re_66 : (Jvm.Cond.methodLink "CharOutlines$Reckoning" (66 : Nat) ({ cls := "java/lang/Math", name := "max", desc := "(II)I" } : Jvm.MethodName)) ∈ gd_tbl := List.mem_filter.mpr ⟨List.mem_of_getElem? (i := 682) rfl, rfl⟩
set_option maxRecDepth 100000 in
theorem ml_Re_72 : (Jvm.Cond.methodLink "CharOutlines$Reckoning" (72 : Nat) ({ cls := "CharOutlines$Reckoning", name := "copyBelow", desc := "(ILCharOutlines$Values;)I" } : Jvm.MethodName)) ∈ gd_tbl := List.mem_filter.mpr ⟨List.mem_of_getElem? (i := 683) rfl, rfl⟩
set_option maxRecDepth 100000 in
theorem ml_Re_75 : (Jvm.Cond.methodLink "CharOutlines$Reckoning" (75 : Nat) ({ cls := "java/lang/Math", name := "floorDiv", desc := "(JJ)J" } : Jvm.MethodName)) ∈ gd_tbl := List.mem_filter.mpr ⟨List.mem_of_getElem? (i := 690) rfl, rfl⟩
set_option maxRecDepth 100000 in
theorem ml_Re_79 : (Jvm.Cond.methodLink "CharOutlines$Reckoning" (79 : Nat) ({ cls := "CharOutlines$Reckoning", name := "store", desc := "(II)I" } : Jvm.MethodName)) ∈ gd_tbl := List.mem_filter.mpr ⟨List.mem_of_getElem? (i := 693) rfl, rfl⟩
set_option maxRecDepth 100000 in
theorem ml_Re_82 : (Jvm.Cond.methodLink "CharOutlines$Reckoning" (82 : Nat) ({ cls := "CharOutlines$Reckoning", name := "roll", desc := "(IILCharOutlines$Values;)I" } : Jvm.MethodName)) ∈ gd_tbl := List.mem_filter.mpr ⟨List.mem_of_getElem? (i := 697) rfl, rfl⟩
set_option maxRecDepth 100000 in
theorem ml_Re_87 : (Jvm.Cond.methodLink "CharOutlines$Reckoning" (87 : Nat) ({ cls := "java/lang/Math", name := "floorMod", desc := "(II)I" } : Jvm.MethodName)) ∈ gd_tbl := List.mem_filter.mpr ⟨List.mem_of_getElem? (i := 700) rfl, rfl⟩
set_option maxRecDepth 100000 in
theorem ml_Re_90 : (Jvm.Cond.methodLink "CharOutlines$Reckoning" (90 : Nat) ({ cls := "CharOutlines$Values", name := "turn", desc := "(II)V" } : Jvm.MethodName)) ∈ gd_tbl := List.mem_filter.mpr ⟨List.mem_of_getElem? (i := 703) rfl, rfl⟩
set_option maxHeartbeats 1000000 in
set_option maxRecDepth 100000 in
theorem c_Dr_lines (l : Launch) (D : va_G) (cB cI cJ : ClassId) (v va vb u ra oc : Nat) (n : Nat) (fa : Nat → Int32) (fb : Nat → Int32) (m : Nat) (x : Int32) (y : Int32) (fo : Nat → Int32) (i0 : Nat) (e1 : Nat) (hiVa : n ≤ 48) (hiOu : m ≤ 4000 ∧ 7 * m ≤ oc ∧ 336 ≤ oc ∧ oc ≤ 28000) (h0 : i0 ≤ 48) (h1 : e1 ≤ 48) (hie : i0 ≤ e1) (hroom : 7 * min 4000 (m + (e1 - i0)) ≤ oc) : Tr l D classes (TY cB cI cJ) gd_tbl nx_tbl y_Dr_lines b_Dr_lines 6 (some .boolean) ({ frames := 2, cells := 0, slots := 0, locals := 50 }) [.ref v, .int (nI i0), .int (nI e1), .ref u] [(v, .inr (3, [.ref va, .ref vb, .int (nI n)])), (va, .inl (cI, 48, .inl fa)), (vb, .inl (cI, 48, .inl fb)), (u, .inr (4, [.ref ra, .int (nI m), .int x, .int y])), (ra, .inl (cI, oc, .inl fo))] (pI0 (fun r w => ∃ (m' : Nat) (x' : Int32) (y' : Int32) (fo' : Nat → Int32), w = [(v, .inr (3, [.ref va, .ref vb, .int (nI n)])), (va, .inl (cI, 48, .inl fa)), (vb, .inl (cI, 48, .inl fb)), (u, .inr (4, [.ref ra, .int (nI m'), .int x', .int y'])), (ra, .inl (cI, oc, .inl fo'))] ∧ (m' ≤ 4000 ∧ 7 * m' ≤ oc ∧ 336 ≤ oc ∧ oc ≤ 28000) ∧ (zR r (uS m' x' y' fo') = drawAll (uS m x y fo) (cmdsL (linC (trunc n fa)) 2 i0 ((e1 - i0) / 2)) ∧ m' ≤ m + (e1 - i0)) ∧ (r = 0 ∨ r = 1))) := by
  refine Tr.intro (by decide +kernel) nx_ok (Nat.le_of_ble_eq_true rfl) ?_
  intro p_ e_ s_ m_ args_ below_ meth_ c_ A_ ls hx hb hml hown hts hr hlk hnm hZ hP hD hS hl
  have hl : lv_has ls 6 [(0, .ref v), (1, .int (nI i0)), (2, .int (nI e1)), (3, .ref u)] := hl
  refine lv_iconst (v := 1) hx hb d_Dr_lines_0 (by decide) ?_
  refine lv_istore (lv' := [(4, .int 1), (0, .ref v), (1, .int (nI i0)), (2, .int (nI e1)), (3, .ref u)]) hx hb d_Dr_lines_1 hl (by decide) rfl (fun ls hl => ?_)
  refine lv_iload_n hx hb d_Dr_lines_3 rfl (lv_at hl 2 rfl) ?_
  refine lv_istore (lv' := [(5, .int (nI i0)), (4, .int 1), (0, .ref v), (1, .int (nI i0)), (2, .int (nI e1)), (3, .ref u)]) hx hb d_Dr_lines_4 hl (by decide) rfl (fun ls hl => ?_)
  have lp_6 : ∀ (fu : Nat) (i : Nat) (rm : Int32) (mL : Nat) (xL : Int32) (yL : Int32) (foL : Nat → Int32) (H : Heap) (locs : List Loc) (ls : Array Slot), ((rm = 0 ∨ rm = 1) ∧ (mL ≤ 4000 ∧ 7 * mL ≤ oc ∧ 336 ≤ oc ∧ oc ≤ 28000) ∧ (i ≤ 60 ∧ i ≤ e1 ∧ i0 ≤ i ∧ mL + i0 ≤ m + i) ∧ zB7 rm (drawAll (uS mL xL yL foL) (cmdsL (linC (trunc n fa)) 2 i ((e1 - i) / 2))) = drawAll (uS m x y fo) (cmdsL (linC (trunc n fa)) 2 i0 ((e1 - i0) / 2))) → (70 - i) < fu → va_P D classes [(v, .inr (3, [.ref va, .ref vb, .int (nI n)])), (va, .inl (cI, 48, .inl fa)), (vb, .inl (cI, 48, .inl fb)), (u, .inr (4, [.ref ra, .int (nI mL), .int xL, .int yL])), (ra, .inl (cI, oc, .inl foL))] H → va_D A_ [(v, .inr (3, [.ref va, .ref vb, .int (nI n)])), (va, .inl (cI, 48, .inl fa)), (vb, .inl (cI, 48, .inl fb)), (u, .inr (4, [.ref ra, .int (nI mL), .int xL, .int yL])), (ra, .inl (cI, oc, .inl foL))] → va_S A_ s_.heap H locs → lv_has ls 6 [(0, .ref v), (1, .int (nI i0)), (2, .int (nI e1)), (3, .ref u), (4, .int rm), (5, .int (nI i))] → W p_ l e_ ({ frames := 2, cells := 0, slots := 0, locals := 50 }) s_ m_ args_ below_ meth_ c_ H locs (0) (0) (MQT below_ D classes A_ (pI0 (fun r w => ∃ (m' : Nat) (x' : Int32) (y' : Int32) (fo' : Nat → Int32), w = [(v, .inr (3, [.ref va, .ref vb, .int (nI n)])), (va, .inl (cI, 48, .inl fa)), (vb, .inl (cI, 48, .inl fb)), (u, .inr (4, [.ref ra, .int (nI m'), .int x', .int y'])), (ra, .inl (cI, oc, .inl fo'))] ∧ (m' ≤ 4000 ∧ 7 * m' ≤ oc ∧ 336 ≤ oc ∧ oc ≤ 28000) ∧ (zR r (uS m' x' y' fo') = drawAll (uS m x y fo) (cmdsL (linC (trunc n fa)) 2 i0 ((e1 - i0) / 2)) ∧ m' ≤ m + (e1 - i0)) ∧ (r = 0 ∨ r = 1))) s_) (F0 m_ 6 ls []) := by
    intro fu
    induction fu with
    | zero => intro i rm mL xL yL foL H locs ls hinv hfu; exact absurd hfu (Nat.not_lt_zero _)
    | succ fu ih_6 =>
      intro i rm mL xL yL foL H locs ls hinv hfu hP hD hS hl
      obtain ⟨hrm, hou, hib, hdr⟩ := hinv
      refine lv_iload hx hb d_Dr_lines_6 (lv_at hl 5 rfl) ?_
      refine lv_iconst (v := 2) hx hb d_Dr_lines_8 (by decide) ?_
      refine lv_iadd hx hb d_Dr_lines_9 ?_
      refine lv_tv (y := nI (i + 2)) (nI_add i 2) ?_
      refine lv_iload_n hx hb d_Dr_lines_10 rfl (lv_at hl 2 rfl) ?_
      refine lv_icmp_gt (tgt := 45) hx hb d_Dr_lines_11 (by decide) (fun c_11 => ?_) (fun c_11 => ?_)
      · have n_11 : (e1) < (i + 2) := (nI_ltI (a := e1) (b := i + 2) (by omega) (by omega)).mp c_11
        refine lv_iload hx hb d_Dr_lines_45 (lv_at hl 4 rfl) ?_
        exact t_zret hx hb hr hlk (by first | decide | exact nar01 (by assumption)) d_Dr_lines_47 (hP.subm (ws' := [(v, .inr (3, [.ref va, .ref vb, .int (nI n)])), (va, .inl (cI, 48, .inl fa)), (vb, .inl (cI, 48, .inl fb)), (u, .inr (4, [.ref ra, .int (nI mL), .int xL, .int yL])), (ra, .inl (cI, oc, .inl foL))]) [0, 1, 2, 3, 4] rfl) (hD.sub (ws' := [(v, .inr (3, [.ref va, .ref vb, .int (nI n)])), (va, .inl (cI, 48, .inl fa)), (vb, .inl (cI, 48, .inl fb)), (u, .inr (4, [.ref ra, .int (nI mL), .int xL, .int yL])), (ra, .inl (cI, oc, .inl foL))]) [0, 1, 2, 3, 4] rfl rfl) hS ⟨_, rfl, rfl, rfl, _, _, _, _, rfl, (by omega), ⟨(dr_end (Or.inr (by omega)) hdr), by omega⟩, (by first | decide | assumption)⟩
      · have n_11 : ¬ (e1) < (i + 2) := fun z => c_11 ((nI_ltI (a := e1) (b := i + 2) (by omega) (by omega)).mpr z)
        refine lv_iload hx hb d_Dr_lines_14 (lv_at hl 4 rfl) ?_
        refine lv_if_eq (tgt := 45) hx hb d_Dr_lines_16 (by decide) (fun c_16 => ?_) (fun c_16 => ?_)
        · refine lv_iload hx hb d_Dr_lines_45 (lv_at hl 4 rfl) ?_
          exact t_zret hx hb hr hlk (by first | decide | exact nar01 (by assumption)) d_Dr_lines_47 (hP.subm (ws' := [(v, .inr (3, [.ref va, .ref vb, .int (nI n)])), (va, .inl (cI, 48, .inl fa)), (vb, .inl (cI, 48, .inl fb)), (u, .inr (4, [.ref ra, .int (nI mL), .int xL, .int yL])), (ra, .inl (cI, oc, .inl foL))]) [0, 1, 2, 3, 4] rfl) (hD.sub (ws' := [(v, .inr (3, [.ref va, .ref vb, .int (nI n)])), (va, .inl (cI, 48, .inl fa)), (vb, .inl (cI, 48, .inl fb)), (u, .inr (4, [.ref ra, .int (nI mL), .int xL, .int yL])), (ra, .inl (cI, oc, .inl foL))]) [0, 1, 2, 3, 4] rfl rfl) hS ⟨_, rfl, rfl, rfl, _, _, _, _, rfl, (by omega), ⟨(dr_end (Or.inl c_16) hdr), by omega⟩, (by first | decide | assumption)⟩
        · refine lv_aload_n hx hb d_Dr_lines_19 rfl (lv_at hl 3 rfl) ?_
          refine lv_aload_n hx hb d_Dr_lines_20 rfl (lv_at hl 0 rfl) ?_
          refine lv_iload hx hb d_Dr_lines_21 (lv_at hl 5 rfl) ?_
          refine roV (As := [.int (nI i)]) (rest := [.ref u]) ⟨hx, hb, hml, hown, hts⟩ gd_good (c_Va_at l D cB cI cJ v va vb n fa (nI i) (by omega)) cal_Va_at ml_Dr_47 ⟨Nat.le_of_ble_eq_true rfl, Nat.le_of_ble_eq_true rfl⟩ hZ hP hD (isC := [0, 1]) ⟨rfl, rfl⟩ 0 (ci := 3) rfl rfl rfl rfl hl.1 rfl (Nat.le_of_ble_eq_true rfl) d_Dr_lines_23 ⟨Nat.le_of_ble_eq_true rfl, Nat.le_of_ble_eq_true rfl⟩ (fun v hv => ?_)
          have hv : v = .int (trunc n fa i) := hv.trans (congrArg Value.int (atV_N (j := i) (by omega) (by omega)))
          subst hv
          refine lv_aload_n hx hb d_Dr_lines_26 rfl (lv_at hl 0 rfl) ?_
          refine lv_iload hx hb d_Dr_lines_27 (lv_at hl 5 rfl) ?_
          refine lv_iconst (v := 1) hx hb d_Dr_lines_29 (by decide) ?_
          refine lv_iadd hx hb d_Dr_lines_30 ?_
          refine lv_tv (y := nI (i + 1)) (nI_add i 1) ?_
          refine roV (As := [.int (nI (i + 1))]) (rest := [.int (trunc n fa i), .ref u]) ⟨hx, hb, hml, hown, hts⟩ gd_good (c_Va_at l D cB cI cJ v va vb n fa (nI (i + 1)) (by omega)) cal_Va_at ml_Dr_47 ⟨Nat.le_of_ble_eq_true rfl, Nat.le_of_ble_eq_true rfl⟩ hZ hP hD (isC := [0, 1]) ⟨rfl, rfl⟩ 0 (ci := 3) rfl rfl rfl rfl hl.1 rfl (Nat.le_of_ble_eq_true rfl) d_Dr_lines_31 ⟨Nat.le_of_ble_eq_true rfl, Nat.le_of_ble_eq_true rfl⟩ (fun v hv => ?_)
          have hv : v = .int (trunc n fa (i + 1)) := hv.trans (congrArg Value.int (atV_N (j := i + 1) (by omega) (by omega)))
          subst hv
          have hC : Cut [(v, .inr (3, [.ref va, .ref vb, .int (nI n)])), (va, .inl (cI, 48, .inl fa)), (vb, .inl (cI, 48, .inl fb)), (u, .inr (4, [.ref ra, .int (nI mL), .int xL, .int yL])), (ra, .inl (cI, oc, .inl foL))] [(u, .inr (4, [.ref ra, .int (nI mL), .int xL, .int yL])), (ra, .inl (cI, oc, .inl foL))] [(v, .inr (3, [.ref va, .ref vb, .int (nI n)])), (va, .inl (cI, 48, .inl fa)), (vb, .inl (cI, 48, .inl fb))] [3, 4] [0, 1, 2] := ⟨rfl, rfl, rfl, rfl, by decide⟩
          refine goI0 (trV (As := [.int (trunc n fa i), .int (trunc n fa (i + 1))]) (rest := []) ⟨hx, hb, hml, hown, hts⟩ gd_good (c_Ou_line l D cB cI cJ u ra oc mL xL yL foL (trunc n fa i) (trunc n fa (i + 1)) (by omega) (fun _ => by omega)) cal_Ou_line ml_Dr_51 ⟨Nat.le_of_ble_eq_true rfl, Nat.le_of_ble_eq_true rfl⟩ hZ hP hD hC 3 (ci := 4) rfl rfl rfl rfl hl.1 rfl (Nat.le_of_ble_eq_true rfl) d_Dr_lines_34 ⟨Nat.le_of_ble_eq_true rfl, Nat.le_of_ble_eq_true rfl⟩) hZ hP hD hS hC (fun r_34 w1 H locs hq hP hD hS => ?_)
          obtain ⟨m_34, x_34, y_34, fo_34, rfl, hv0_34, hx_34, hz_34⟩ := hq
          have hP : va_P D classes [(v, .inr (3, [.ref va, .ref vb, .int (nI n)])), (va, .inl (cI, 48, .inl fa)), (vb, .inl (cI, 48, .inl fb)), (u, .inr (4, [.ref ra, .int (nI m_34), .int x_34, .int y_34])), (ra, .inl (cI, oc, .inl fo_34))] H := hP
          have hD : va_D A_ [(v, .inr (3, [.ref va, .ref vb, .int (nI n)])), (va, .inl (cI, 48, .inl fa)), (vb, .inl (cI, 48, .inl fb)), (u, .inr (4, [.ref ra, .int (nI m_34), .int x_34, .int y_34])), (ra, .inl (cI, oc, .inl fo_34))] := hD
          refine lv_istore (lv' := [(4, .int r_34), (0, .ref v), (1, .int (nI i0)), (2, .int (nI e1)), (3, .ref u), (5, .int (nI i))]) hx hb d_Dr_lines_37 hl (by decide) rfl (fun ls hl => ?_)
          refine lv_iinc (v := nI (i + 2)) (lv' := [(5, .int (nI (i + 2))), (4, .int r_34), (0, .ref v), (1, .int (nI i0)), (2, .int (nI e1)), (3, .ref u)]) hx hb d_Dr_lines_39 hl (k := 5) rfl (nI_add i 2) (by decide) rfl (fun ls hl => ?_)
          refine lv_goto (tgt := 6) hx hb d_Dr_lines_42 (by decide) ?_
          exact ih_6  (i + 2) r_34 m_34 x_34 y_34 fo_34 _ _ _ ⟨by first | decide | assumption, by omega, by omega, (dr_step hdr c_16 (by omega) hx_34.1)⟩ (by omega) (hP.subm [0, 1, 2, 3, 4] rfl) (hD.sub [0, 1, 2, 3, 4] rfl rfl) hS (lv_sub hl [2, 3, 4, 5, 1, 0] rfl)
  exact lp_6 _ i0 1 m x y fo _ _ _ ⟨by first | decide | assumption, by omega, by omega, (zB_1 _)⟩ (Nat.lt_succ_self _) (hP.subm [0, 1, 2, 3, 4] rfl) (hD.sub [0, 1, 2, 3, 4] rfl rfl) hS (lv_sub hl [2, 3, 4, 5, 1, 0] rfl)
set_option maxHeartbeats 1000000 in
set_option maxRecDepth 100000 in
theorem c_Dr_curves (l : Launch) (D : va_G) (cB cI cJ : ClassId) (v va vb u ra oc : Nat) (n : Nat) (fa : Nat → Int32) (fb : Nat → Int32) (m : Nat) (x : Int32) (y : Int32) (fo : Nat → Int32) (i0 : Nat) (e1 : Nat) (hiVa : n ≤ 48) (hiOu : m ≤ 4000 ∧ 7 * m ≤ oc ∧ 336 ≤ oc ∧ oc ≤ 28000) (h0 : i0 ≤ 48) (h1 : e1 ≤ 48) (hie : i0 ≤ e1) (hroom : 7 * min 4000 (m + (e1 - i0)) ≤ oc) : Tr l D classes (TY cB cI cJ) gd_tbl nx_tbl y_Dr_curves b_Dr_curves 6 (some .boolean) ({ frames := 2, cells := 0, slots := 0, locals := 58 }) [.ref v, .int (nI i0), .int (nI e1), .ref u] [(v, .inr (3, [.ref va, .ref vb, .int (nI n)])), (va, .inl (cI, 48, .inl fa)), (vb, .inl (cI, 48, .inl fb)), (u, .inr (4, [.ref ra, .int (nI m), .int x, .int y])), (ra, .inl (cI, oc, .inl fo))] (pI0 (fun r w => ∃ (m' : Nat) (x' : Int32) (y' : Int32) (fo' : Nat → Int32), w = [(v, .inr (3, [.ref va, .ref vb, .int (nI n)])), (va, .inl (cI, 48, .inl fa)), (vb, .inl (cI, 48, .inl fb)), (u, .inr (4, [.ref ra, .int (nI m'), .int x', .int y'])), (ra, .inl (cI, oc, .inl fo'))] ∧ (m' ≤ 4000 ∧ 7 * m' ≤ oc ∧ 336 ≤ oc ∧ oc ≤ 28000) ∧ (zR r (uS m' x' y' fo') = drawAll (uS m x y fo) (cmdsL (sixC (trunc n fa)) 6 i0 ((e1 - i0) / 6)) ∧ m' ≤ m + (e1 - i0)) ∧ (r = 0 ∨ r = 1))) := by
  refine Tr.intro (by decide +kernel) nx_ok (Nat.le_of_ble_eq_true rfl) ?_
  intro p_ e_ s_ m_ args_ below_ meth_ c_ A_ ls hx hb hml hown hts hr hlk hnm hZ hP hD hS hl
  have hl : lv_has ls 6 [(0, .ref v), (1, .int (nI i0)), (2, .int (nI e1)), (3, .ref u)] := hl
  refine lv_iconst (v := 1) hx hb d_Dr_curves_0 (by decide) ?_
  refine lv_istore (lv' := [(4, .int 1), (0, .ref v), (1, .int (nI i0)), (2, .int (nI e1)), (3, .ref u)]) hx hb d_Dr_curves_1 hl (by decide) rfl (fun ls hl => ?_)
  refine lv_iload_n hx hb d_Dr_curves_3 rfl (lv_at hl 2 rfl) ?_
  refine lv_istore (lv' := [(5, .int (nI i0)), (4, .int 1), (0, .ref v), (1, .int (nI i0)), (2, .int (nI e1)), (3, .ref u)]) hx hb d_Dr_curves_4 hl (by decide) rfl (fun ls hl => ?_)
  have lp_6 : ∀ (fu : Nat) (i : Nat) (rm : Int32) (mL : Nat) (xL : Int32) (yL : Int32) (foL : Nat → Int32) (H : Heap) (locs : List Loc) (ls : Array Slot), ((rm = 0 ∨ rm = 1) ∧ (mL ≤ 4000 ∧ 7 * mL ≤ oc ∧ 336 ≤ oc ∧ oc ≤ 28000) ∧ (i ≤ 60 ∧ i ≤ e1 ∧ i0 ≤ i ∧ mL + i0 ≤ m + i) ∧ zB7 rm (drawAll (uS mL xL yL foL) (cmdsL (sixC (trunc n fa)) 6 i ((e1 - i) / 6))) = drawAll (uS m x y fo) (cmdsL (sixC (trunc n fa)) 6 i0 ((e1 - i0) / 6))) → (70 - i) < fu → va_P D classes [(v, .inr (3, [.ref va, .ref vb, .int (nI n)])), (va, .inl (cI, 48, .inl fa)), (vb, .inl (cI, 48, .inl fb)), (u, .inr (4, [.ref ra, .int (nI mL), .int xL, .int yL])), (ra, .inl (cI, oc, .inl foL))] H → va_D A_ [(v, .inr (3, [.ref va, .ref vb, .int (nI n)])), (va, .inl (cI, 48, .inl fa)), (vb, .inl (cI, 48, .inl fb)), (u, .inr (4, [.ref ra, .int (nI mL), .int xL, .int yL])), (ra, .inl (cI, oc, .inl foL))] → va_S A_ s_.heap H locs → lv_has ls 6 [(0, .ref v), (1, .int (nI i0)), (2, .int (nI e1)), (3, .ref u), (4, .int rm), (5, .int (nI i))] → W p_ l e_ ({ frames := 2, cells := 0, slots := 0, locals := 58 }) s_ m_ args_ below_ meth_ c_ H locs (0) (0) (MQT below_ D classes A_ (pI0 (fun r w => ∃ (m' : Nat) (x' : Int32) (y' : Int32) (fo' : Nat → Int32), w = [(v, .inr (3, [.ref va, .ref vb, .int (nI n)])), (va, .inl (cI, 48, .inl fa)), (vb, .inl (cI, 48, .inl fb)), (u, .inr (4, [.ref ra, .int (nI m'), .int x', .int y'])), (ra, .inl (cI, oc, .inl fo'))] ∧ (m' ≤ 4000 ∧ 7 * m' ≤ oc ∧ 336 ≤ oc ∧ oc ≤ 28000) ∧ (zR r (uS m' x' y' fo') = drawAll (uS m x y fo) (cmdsL (sixC (trunc n fa)) 6 i0 ((e1 - i0) / 6)) ∧ m' ≤ m + (e1 - i0)) ∧ (r = 0 ∨ r = 1))) s_) (F0 m_ 6 ls []) := by
    intro fu
    induction fu with
    | zero => intro i rm mL xL yL foL H locs ls hinv hfu; exact absurd hfu (Nat.not_lt_zero _)
    | succ fu ih_6 =>
      intro i rm mL xL yL foL H locs ls hinv hfu hP hD hS hl
      obtain ⟨hrm, hou, hib, hdr⟩ := hinv
      refine lv_iload hx hb d_Dr_curves_6 (lv_at hl 5 rfl) ?_
      refine lv_bipush (v := 6) hx hb d_Dr_curves_8 (by decide) ?_
      refine lv_iadd hx hb d_Dr_curves_10 ?_
      refine lv_tv (y := nI (i + 6)) (nI_add i 6) ?_
      refine lv_iload_n hx hb d_Dr_curves_11 rfl (lv_at hl 2 rfl) ?_
      refine lv_icmp_gt (tgt := 78) hx hb d_Dr_curves_12 (by decide) (fun c_12 => ?_) (fun c_12 => ?_)
      · have n_12 : (e1) < (i + 6) := (nI_ltI (a := e1) (b := i + 6) (by omega) (by omega)).mp c_12
        refine lv_iload hx hb d_Dr_curves_78 (lv_at hl 4 rfl) ?_
        exact t_zret hx hb hr hlk (by first | decide | exact nar01 (by assumption)) d_Dr_curves_80 (hP.subm (ws' := [(v, .inr (3, [.ref va, .ref vb, .int (nI n)])), (va, .inl (cI, 48, .inl fa)), (vb, .inl (cI, 48, .inl fb)), (u, .inr (4, [.ref ra, .int (nI mL), .int xL, .int yL])), (ra, .inl (cI, oc, .inl foL))]) [0, 1, 2, 3, 4] rfl) (hD.sub (ws' := [(v, .inr (3, [.ref va, .ref vb, .int (nI n)])), (va, .inl (cI, 48, .inl fa)), (vb, .inl (cI, 48, .inl fb)), (u, .inr (4, [.ref ra, .int (nI mL), .int xL, .int yL])), (ra, .inl (cI, oc, .inl foL))]) [0, 1, 2, 3, 4] rfl rfl) hS ⟨_, rfl, rfl, rfl, _, _, _, _, rfl, (by omega), ⟨(dr_end (Or.inr (by omega)) hdr), by omega⟩, (by first | decide | assumption)⟩
      · have n_12 : ¬ (e1) < (i + 6) := fun z => c_12 ((nI_ltI (a := e1) (b := i + 6) (by omega) (by omega)).mpr z)
        refine lv_iload hx hb d_Dr_curves_15 (lv_at hl 4 rfl) ?_
        refine lv_if_eq (tgt := 78) hx hb d_Dr_curves_17 (by decide) (fun c_17 => ?_) (fun c_17 => ?_)
        · refine lv_iload hx hb d_Dr_curves_78 (lv_at hl 4 rfl) ?_
          exact t_zret hx hb hr hlk (by first | decide | exact nar01 (by assumption)) d_Dr_curves_80 (hP.subm (ws' := [(v, .inr (3, [.ref va, .ref vb, .int (nI n)])), (va, .inl (cI, 48, .inl fa)), (vb, .inl (cI, 48, .inl fb)), (u, .inr (4, [.ref ra, .int (nI mL), .int xL, .int yL])), (ra, .inl (cI, oc, .inl foL))]) [0, 1, 2, 3, 4] rfl) (hD.sub (ws' := [(v, .inr (3, [.ref va, .ref vb, .int (nI n)])), (va, .inl (cI, 48, .inl fa)), (vb, .inl (cI, 48, .inl fb)), (u, .inr (4, [.ref ra, .int (nI mL), .int xL, .int yL])), (ra, .inl (cI, oc, .inl foL))]) [0, 1, 2, 3, 4] rfl rfl) hS ⟨_, rfl, rfl, rfl, _, _, _, _, rfl, (by omega), ⟨(dr_end (Or.inl c_17) hdr), by omega⟩, (by first | decide | assumption)⟩
        · refine lv_aload_n hx hb d_Dr_curves_20 rfl (lv_at hl 3 rfl) ?_
          refine lv_aload_n hx hb d_Dr_curves_21 rfl (lv_at hl 0 rfl) ?_
          refine lv_iload hx hb d_Dr_curves_22 (lv_at hl 5 rfl) ?_
          refine roV (As := [.int (nI i)]) (rest := [.ref u]) ⟨hx, hb, hml, hown, hts⟩ gd_good (c_Va_at l D cB cI cJ v va vb n fa (nI i) (by omega)) cal_Va_at ml_Dr_47 ⟨Nat.le_of_ble_eq_true rfl, Nat.le_of_ble_eq_true rfl⟩ hZ hP hD (isC := [0, 1]) ⟨rfl, rfl⟩ 0 (ci := 3) rfl rfl rfl rfl hl.1 rfl (Nat.le_of_ble_eq_true rfl) d_Dr_curves_24 ⟨Nat.le_of_ble_eq_true rfl, Nat.le_of_ble_eq_true rfl⟩ (fun v hv => ?_)
          have hv : v = .int (trunc n fa i) := hv.trans (congrArg Value.int (atV_N (j := i) (by omega) (by omega)))
          subst hv
          refine lv_aload_n hx hb d_Dr_curves_27 rfl (lv_at hl 0 rfl) ?_
          refine lv_iload hx hb d_Dr_curves_28 (lv_at hl 5 rfl) ?_
          refine lv_iconst (v := 1) hx hb d_Dr_curves_30 (by decide) ?_
          refine lv_iadd hx hb d_Dr_curves_31 ?_
          refine lv_tv (y := nI (i + 1)) (nI_add i 1) ?_
          refine roV (As := [.int (nI (i + 1))]) (rest := [.int (trunc n fa i), .ref u]) ⟨hx, hb, hml, hown, hts⟩ gd_good (c_Va_at l D cB cI cJ v va vb n fa (nI (i + 1)) (by omega)) cal_Va_at ml_Dr_47 ⟨Nat.le_of_ble_eq_true rfl, Nat.le_of_ble_eq_true rfl⟩ hZ hP hD (isC := [0, 1]) ⟨rfl, rfl⟩ 0 (ci := 3) rfl rfl rfl rfl hl.1 rfl (Nat.le_of_ble_eq_true rfl) d_Dr_curves_32 ⟨Nat.le_of_ble_eq_true rfl, Nat.le_of_ble_eq_true rfl⟩ (fun v hv => ?_)
          have hv : v = .int (trunc n fa (i + 1)) := hv.trans (congrArg Value.int (atV_N (j := i + 1) (by omega) (by omega)))
          subst hv
          refine lv_aload_n hx hb d_Dr_curves_35 rfl (lv_at hl 0 rfl) ?_
          refine lv_iload hx hb d_Dr_curves_36 (lv_at hl 5 rfl) ?_
          refine lv_iconst (v := 2) hx hb d_Dr_curves_38 (by decide) ?_
          refine lv_iadd hx hb d_Dr_curves_39 ?_
          refine lv_tv (y := nI (i + 2)) (nI_add i 2) ?_
          refine roV (As := [.int (nI (i + 2))]) (rest := [.int (trunc n fa (i + 1)), .int (trunc n fa i), .ref u]) ⟨hx, hb, hml, hown, hts⟩ gd_good (c_Va_at l D cB cI cJ v va vb n fa (nI (i + 2)) (by omega)) cal_Va_at ml_Dr_47 ⟨Nat.le_of_ble_eq_true rfl, Nat.le_of_ble_eq_true rfl⟩ hZ hP hD (isC := [0, 1]) ⟨rfl, rfl⟩ 0 (ci := 3) rfl rfl rfl rfl hl.1 rfl (Nat.le_of_ble_eq_true rfl) d_Dr_curves_40 ⟨Nat.le_of_ble_eq_true rfl, Nat.le_of_ble_eq_true rfl⟩ (fun v hv => ?_)
          have hv : v = .int (trunc n fa (i + 2)) := hv.trans (congrArg Value.int (atV_N (j := i + 2) (by omega) (by omega)))
          subst hv
          refine lv_aload_n hx hb d_Dr_curves_43 rfl (lv_at hl 0 rfl) ?_
          refine lv_iload hx hb d_Dr_curves_44 (lv_at hl 5 rfl) ?_
          refine lv_iconst (v := 3) hx hb d_Dr_curves_46 (by decide) ?_
          refine lv_iadd hx hb d_Dr_curves_47 ?_
          refine lv_tv (y := nI (i + 3)) (nI_add i 3) ?_
          refine roV (As := [.int (nI (i + 3))]) (rest := [.int (trunc n fa (i + 2)), .int (trunc n fa (i + 1)), .int (trunc n fa i), .ref u]) ⟨hx, hb, hml, hown, hts⟩ gd_good (c_Va_at l D cB cI cJ v va vb n fa (nI (i + 3)) (by omega)) cal_Va_at ml_Dr_47 ⟨Nat.le_of_ble_eq_true rfl, Nat.le_of_ble_eq_true rfl⟩ hZ hP hD (isC := [0, 1]) ⟨rfl, rfl⟩ 0 (ci := 3) rfl rfl rfl rfl hl.1 rfl (Nat.le_of_ble_eq_true rfl) d_Dr_curves_48 ⟨Nat.le_of_ble_eq_true rfl, Nat.le_of_ble_eq_true rfl⟩ (fun v hv => ?_)
          have hv : v = .int (trunc n fa (i + 3)) := hv.trans (congrArg Value.int (atV_N (j := i + 3) (by omega) (by omega)))
          subst hv
          refine lv_aload_n hx hb d_Dr_curves_51 rfl (lv_at hl 0 rfl) ?_
          refine lv_iload hx hb d_Dr_curves_52 (lv_at hl 5 rfl) ?_
          refine lv_iconst (v := 4) hx hb d_Dr_curves_54 (by decide) ?_
          refine lv_iadd hx hb d_Dr_curves_55 ?_
          refine lv_tv (y := nI (i + 4)) (nI_add i 4) ?_
          refine roV (As := [.int (nI (i + 4))]) (rest := [.int (trunc n fa (i + 3)), .int (trunc n fa (i + 2)), .int (trunc n fa (i + 1)), .int (trunc n fa i), .ref u]) ⟨hx, hb, hml, hown, hts⟩ gd_good (c_Va_at l D cB cI cJ v va vb n fa (nI (i + 4)) (by omega)) cal_Va_at ml_Dr_47 ⟨Nat.le_of_ble_eq_true rfl, Nat.le_of_ble_eq_true rfl⟩ hZ hP hD (isC := [0, 1]) ⟨rfl, rfl⟩ 0 (ci := 3) rfl rfl rfl rfl hl.1 rfl (Nat.le_of_ble_eq_true rfl) d_Dr_curves_56 ⟨Nat.le_of_ble_eq_true rfl, Nat.le_of_ble_eq_true rfl⟩ (fun v hv => ?_)
          have hv : v = .int (trunc n fa (i + 4)) := hv.trans (congrArg Value.int (atV_N (j := i + 4) (by omega) (by omega)))
          subst hv
          refine lv_aload_n hx hb d_Dr_curves_59 rfl (lv_at hl 0 rfl) ?_
          refine lv_iload hx hb d_Dr_curves_60 (lv_at hl 5 rfl) ?_
          refine lv_iconst (v := 5) hx hb d_Dr_curves_62 (by decide) ?_
          refine lv_iadd hx hb d_Dr_curves_63 ?_
          refine lv_tv (y := nI (i + 5)) (nI_add i 5) ?_
          refine roV (As := [.int (nI (i + 5))]) (rest := [.int (trunc n fa (i + 4)), .int (trunc n fa (i + 3)), .int (trunc n fa (i + 2)), .int (trunc n fa (i + 1)), .int (trunc n fa i), .ref u]) ⟨hx, hb, hml, hown, hts⟩ gd_good (c_Va_at l D cB cI cJ v va vb n fa (nI (i + 5)) (by omega)) cal_Va_at ml_Dr_47 ⟨Nat.le_of_ble_eq_true rfl, Nat.le_of_ble_eq_true rfl⟩ hZ hP hD (isC := [0, 1]) ⟨rfl, rfl⟩ 0 (ci := 3) rfl rfl rfl rfl hl.1 rfl (Nat.le_of_ble_eq_true rfl) d_Dr_curves_64 ⟨Nat.le_of_ble_eq_true rfl, Nat.le_of_ble_eq_true rfl⟩ (fun v hv => ?_)
          have hv : v = .int (trunc n fa (i + 5)) := hv.trans (congrArg Value.int (atV_N (j := i + 5) (by omega) (by omega)))
          subst hv
          have hC : Cut [(v, .inr (3, [.ref va, .ref vb, .int (nI n)])), (va, .inl (cI, 48, .inl fa)), (vb, .inl (cI, 48, .inl fb)), (u, .inr (4, [.ref ra, .int (nI mL), .int xL, .int yL])), (ra, .inl (cI, oc, .inl foL))] [(u, .inr (4, [.ref ra, .int (nI mL), .int xL, .int yL])), (ra, .inl (cI, oc, .inl foL))] [(v, .inr (3, [.ref va, .ref vb, .int (nI n)])), (va, .inl (cI, 48, .inl fa)), (vb, .inl (cI, 48, .inl fb))] [3, 4] [0, 1, 2] := ⟨rfl, rfl, rfl, rfl, by decide⟩
          refine goI0 (trV (As := [.int (trunc n fa i), .int (trunc n fa (i + 1)), .int (trunc n fa (i + 2)), .int (trunc n fa (i + 3)), .int (trunc n fa (i + 4)), .int (trunc n fa (i + 5))]) (rest := []) ⟨hx, hb, hml, hown, hts⟩ gd_good (c_Ou_curve l D cB cI cJ u ra oc mL xL yL foL (trunc n fa i) (trunc n fa (i + 1)) (trunc n fa (i + 2)) (trunc n fa (i + 3)) (trunc n fa (i + 4)) (trunc n fa (i + 5)) (by omega) (fun _ => by omega)) cal_Ou_curve ml_Dr_57 ⟨Nat.le_of_ble_eq_true rfl, Nat.le_of_ble_eq_true rfl⟩ hZ hP hD hC 3 (ci := 4) rfl rfl rfl rfl hl.1 rfl (Nat.le_of_ble_eq_true rfl) d_Dr_curves_67 ⟨Nat.le_of_ble_eq_true rfl, Nat.le_of_ble_eq_true rfl⟩) hZ hP hD hS hC (fun r_67 w1 H locs hq hP hD hS => ?_)
          obtain ⟨m_67, x_67, y_67, fo_67, rfl, hv0_67, hx_67, hz_67⟩ := hq
          have hP : va_P D classes [(v, .inr (3, [.ref va, .ref vb, .int (nI n)])), (va, .inl (cI, 48, .inl fa)), (vb, .inl (cI, 48, .inl fb)), (u, .inr (4, [.ref ra, .int (nI m_67), .int x_67, .int y_67])), (ra, .inl (cI, oc, .inl fo_67))] H := hP
          have hD : va_D A_ [(v, .inr (3, [.ref va, .ref vb, .int (nI n)])), (va, .inl (cI, 48, .inl fa)), (vb, .inl (cI, 48, .inl fb)), (u, .inr (4, [.ref ra, .int (nI m_67), .int x_67, .int y_67])), (ra, .inl (cI, oc, .inl fo_67))] := hD
          refine lv_istore (lv' := [(4, .int r_67), (0, .ref v), (1, .int (nI i0)), (2, .int (nI e1)), (3, .ref u), (5, .int (nI i))]) hx hb d_Dr_curves_70 hl (by decide) rfl (fun ls hl => ?_)
          refine lv_iinc (v := nI (i + 6)) (lv' := [(5, .int (nI (i + 6))), (4, .int r_67), (0, .ref v), (1, .int (nI i0)), (2, .int (nI e1)), (3, .ref u)]) hx hb d_Dr_curves_72 hl (k := 5) rfl (nI_add i 6) (by decide) rfl (fun ls hl => ?_)
          refine lv_goto (tgt := 6) hx hb d_Dr_curves_75 (by decide) ?_
          exact ih_6  (i + 6) r_67 m_67 x_67 y_67 fo_67 _ _ _ ⟨by first | decide | assumption, by omega, by omega, (dr_step hdr c_17 (by omega) hx_67.1)⟩ (by omega) (hP.subm [0, 1, 2, 3, 4] rfl) (hD.sub [0, 1, 2, 3, 4] rfl rfl) hS (lv_sub hl [2, 3, 4, 5, 1, 0] rfl)
  exact lp_6 _ i0 1 m x y fo _ _ _ ⟨by first | decide | assumption, by omega, by omega, (zB_1 _)⟩ (Nat.lt_succ_self _) (hP.subm [0, 1, 2, 3, 4] rfl) (hD.sub [0, 1, 2, 3, 4] rfl rfl) hS (lv_sub hl [2, 3, 4, 5, 1, 0] rfl)
set_option maxHeartbeats 1000000 in
set_option maxRecDepth 100000 in
theorem c_Dr_linesInTurn (l : Launch) (D : va_G) (cB cI cJ : ClassId) (v va vb u ra oc : Nat) (n : Nat) (fa : Nat → Int32) (fb : Nat → Int32) (m : Nat) (x : Int32) (y : Int32) (fo : Nat → Int32) (z : Int32) (hiVa : n ≤ 48) (hiOu : m ≤ 4000 ∧ 7 * m ≤ oc ∧ 336 ≤ oc ∧ oc ≤ 28000) (zb : Bool) (hzb : z = (if zb = true then 1 else 0)) (hroom : 7 * min 4000 (m + n) ≤ oc) : Tr l D classes (TY cB cI cJ) gd_tbl nx_tbl y_Dr_linesInTurn b_Dr_linesInTurn 6 (some .boolean) ({ frames := 2, cells := 0, slots := 0, locals := 50 }) [.ref v, .int z, .ref u] [(v, .inr (3, [.ref va, .ref vb, .int (nI n)])), (va, .inl (cI, 48, .inl fa)), (vb, .inl (cI, 48, .inl fb)), (u, .inr (4, [.ref ra, .int (nI m), .int x, .int y])), (ra, .inl (cI, oc, .inl fo))] (pI0 (fun r w => ∃ (m' : Nat) (x' : Int32) (y' : Int32) (fo' : Nat → Int32), w = [(v, .inr (3, [.ref va, .ref vb, .int (nI n)])), (va, .inl (cI, 48, .inl fa)), (vb, .inl (cI, 48, .inl fb)), (u, .inr (4, [.ref ra, .int (nI m'), .int x', .int y'])), (ra, .inl (cI, oc, .inl fo'))] ∧ (m' ≤ 4000 ∧ 7 * m' ≤ oc ∧ 336 ≤ oc ∧ oc ≤ 28000) ∧ (zR r (uS m' x' y' fo') = drawAll (uS m x y fo) (cmdsL (turC (trunc n fa) zb) 1 0 (n - 0))) ∧ (r = 0 ∨ r = 1))) := by
  refine Tr.intro (by decide +kernel) nx_ok (Nat.le_of_ble_eq_true rfl) ?_
  intro p_ e_ s_ m_ args_ below_ meth_ c_ A_ ls hx hb hml hown hts hr hlk hnm hZ hP hD hS hl
  have hl : lv_has ls 6 [(0, .ref v), (1, .int z), (2, .ref u)] := hl
  refine lv_iconst (v := 1) hx hb d_Dr_linesInTurn_0 (by decide) ?_
  refine lv_istore_n (lv' := [(3, .int 1), (0, .ref v), (1, .int z), (2, .ref u)]) hx hb d_Dr_linesInTurn_1 rfl hl (by decide) rfl (fun ls hl => ?_)
  refine lv_iload_n hx hb d_Dr_linesInTurn_2 rfl (lv_at hl 2 rfl) ?_
  refine lv_istore (lv' := [(4, .int z), (3, .int 1), (0, .ref v), (1, .int z), (2, .ref u)]) hx hb d_Dr_linesInTurn_3 hl (by decide) rfl (fun ls hl => ?_)
  refine lv_iconst (v := 0) hx hb d_Dr_linesInTurn_5 (by decide) ?_
  refine lv_istore (lv' := [(5, .int 0), (4, .int z), (3, .int 1), (0, .ref v), (1, .int z), (2, .ref u)]) hx hb d_Dr_linesInTurn_6 hl (by decide) rfl (fun ls hl => ?_)
  have lp_8 : ∀ (fu : Nat) (i : Nat) (rm : Int32) (ac : Int32) (mL : Nat) (xL : Int32) (yL : Int32) (foL : Nat → Int32) (H : Heap) (locs : List Loc) (ls : Array Slot), ((rm = 0 ∨ rm = 1) ∧ (mL ≤ 4000 ∧ 7 * mL ≤ oc ∧ 336 ≤ oc ∧ oc ≤ 28000) ∧ (i ≤ 60 ∧ 0 ≤ i ∧ mL + 0 ≤ m + i) ∧ zB7 rm (drawAll (uS mL xL yL foL) (cmdsL (turC (trunc n fa) zb) 1 i (n - i))) = drawAll (uS m x y fo) (cmdsL (turC (trunc n fa) zb) 1 0 (n - 0)) ∧ (ac = 0 ↔ ¬ decide (i % 2 = 0) = zb) ∧ (i % 1 = 0)) → (70 - i) < fu → va_P D classes [(v, .inr (3, [.ref va, .ref vb, .int (nI n)])), (va, .inl (cI, 48, .inl fa)), (vb, .inl (cI, 48, .inl fb)), (u, .inr (4, [.ref ra, .int (nI mL), .int xL, .int yL])), (ra, .inl (cI, oc, .inl foL))] H → va_D A_ [(v, .inr (3, [.ref va, .ref vb, .int (nI n)])), (va, .inl (cI, 48, .inl fa)), (vb, .inl (cI, 48, .inl fb)), (u, .inr (4, [.ref ra, .int (nI mL), .int xL, .int yL])), (ra, .inl (cI, oc, .inl foL))] → va_S A_ s_.heap H locs → lv_has ls 6 [(0, .ref v), (1, .int z), (2, .ref u), (3, .int rm), (4, .int ac), (5, .int (nI i))] → W p_ l e_ ({ frames := 2, cells := 0, slots := 0, locals := 50 }) s_ m_ args_ below_ meth_ c_ H locs (0) (0) (MQT below_ D classes A_ (pI0 (fun r w => ∃ (m' : Nat) (x' : Int32) (y' : Int32) (fo' : Nat → Int32), w = [(v, .inr (3, [.ref va, .ref vb, .int (nI n)])), (va, .inl (cI, 48, .inl fa)), (vb, .inl (cI, 48, .inl fb)), (u, .inr (4, [.ref ra, .int (nI m'), .int x', .int y'])), (ra, .inl (cI, oc, .inl fo'))] ∧ (m' ≤ 4000 ∧ 7 * m' ≤ oc ∧ 336 ≤ oc ∧ oc ≤ 28000) ∧ (zR r (uS m' x' y' fo') = drawAll (uS m x y fo) (cmdsL (turC (trunc n fa) zb) 1 0 (n - 0))) ∧ (r = 0 ∨ r = 1))) s_) (F0 m_ 8 ls []) := by
    intro fu
    induction fu with
    | zero => intro i rm ac mL xL yL foL H locs ls hinv hfu; exact absurd hfu (Nat.not_lt_zero _)
    | succ fu ih_8 =>
      intro i rm ac mL xL yL foL H locs ls hinv hfu hP hD hS hl
      obtain ⟨hrm, hou, hib, hdr, hac, him⟩ := hinv
      refine lv_iload hx hb d_Dr_linesInTurn_8 (lv_at hl 5 rfl) ?_
      refine lv_aload_n hx hb d_Dr_linesInTurn_10 rfl (lv_at hl 0 rfl) ?_
      refine roV (As := []) (rest := [.int (nI i)]) ⟨hx, hb, hml, hown, hts⟩ gd_good (c_Va_size l D cB cI cJ v va vb n) cal_Va_size ml_Dr_7 ⟨Nat.le_of_ble_eq_true rfl, Nat.le_of_ble_eq_true rfl⟩ hZ hP hD (isC := [0]) ⟨rfl, rfl⟩ 0 (ci := 3) rfl rfl rfl rfl hl.1 rfl (Nat.le_of_ble_eq_true rfl) d_Dr_linesInTurn_11 ⟨Nat.le_of_ble_eq_true rfl, Nat.le_of_ble_eq_true rfl⟩ (fun v hv => ?_)
      subst hv
      refine lv_icmp_ge (tgt := 70) hx hb d_Dr_linesInTurn_14 (by decide) (fun c_14 => ?_) (fun c_14 => ?_)
      · have n_14 : (n) ≤ (i) := (nI_leI (a := n) (b := i) (by omega) (by omega)).mp c_14
        refine lv_iload_n hx hb d_Dr_linesInTurn_70 rfl (lv_at hl 3 rfl) ?_
        exact t_zret hx hb hr hlk (by first | decide | exact nar01 (by assumption)) d_Dr_linesInTurn_71 (hP.subm (ws' := [(v, .inr (3, [.ref va, .ref vb, .int (nI n)])), (va, .inl (cI, 48, .inl fa)), (vb, .inl (cI, 48, .inl fb)), (u, .inr (4, [.ref ra, .int (nI mL), .int xL, .int yL])), (ra, .inl (cI, oc, .inl foL))]) [0, 1, 2, 3, 4] rfl) (hD.sub (ws' := [(v, .inr (3, [.ref va, .ref vb, .int (nI n)])), (va, .inl (cI, 48, .inl fa)), (vb, .inl (cI, 48, .inl fb)), (u, .inr (4, [.ref ra, .int (nI mL), .int xL, .int yL])), (ra, .inl (cI, oc, .inl foL))]) [0, 1, 2, 3, 4] rfl rfl) hS ⟨_, rfl, rfl, rfl, _, _, _, _, rfl, (by omega), (dr_end (Or.inr (by omega)) hdr), (by first | decide | assumption)⟩
      · have n_14 : ¬ (n) ≤ (i) := fun z => c_14 ((nI_leI (a := n) (b := i) (by omega) (by omega)).mpr z)
        refine lv_iload_n hx hb d_Dr_linesInTurn_17 rfl (lv_at hl 3 rfl) ?_
        refine lv_if_eq (tgt := 70) hx hb d_Dr_linesInTurn_18 (by decide) (fun c_18 => ?_) (fun c_18 => ?_)
        · refine lv_iload_n hx hb d_Dr_linesInTurn_70 rfl (lv_at hl 3 rfl) ?_
          exact t_zret hx hb hr hlk (by first | decide | exact nar01 (by assumption)) d_Dr_linesInTurn_71 (hP.subm (ws' := [(v, .inr (3, [.ref va, .ref vb, .int (nI n)])), (va, .inl (cI, 48, .inl fa)), (vb, .inl (cI, 48, .inl fb)), (u, .inr (4, [.ref ra, .int (nI mL), .int xL, .int yL])), (ra, .inl (cI, oc, .inl foL))]) [0, 1, 2, 3, 4] rfl) (hD.sub (ws' := [(v, .inr (3, [.ref va, .ref vb, .int (nI n)])), (va, .inl (cI, 48, .inl fa)), (vb, .inl (cI, 48, .inl fb)), (u, .inr (4, [.ref ra, .int (nI mL), .int xL, .int yL])), (ra, .inl (cI, oc, .inl foL))]) [0, 1, 2, 3, 4] rfl rfl) hS ⟨_, rfl, rfl, rfl, _, _, _, _, rfl, (by omega), (dr_end (Or.inl c_18) hdr), (by first | decide | assumption)⟩
        · refine lv_iload hx hb d_Dr_linesInTurn_21 (lv_at hl 4 rfl) ?_
          refine lv_if_eq (tgt := 40) hx hb d_Dr_linesInTurn_23 (by decide) (fun c_23 => ?_) (fun c_23 => ?_)
          · refine lv_aload_n hx hb d_Dr_linesInTurn_40 rfl (lv_at hl 2 rfl) ?_
            refine lv_iconst (v := 0) hx hb d_Dr_linesInTurn_41 (by decide) ?_
            refine lv_aload_n hx hb d_Dr_linesInTurn_42 rfl (lv_at hl 0 rfl) ?_
            refine lv_iload hx hb d_Dr_linesInTurn_43 (lv_at hl 5 rfl) ?_
            refine roV (As := [.int (nI i)]) (rest := [.int 0, .ref u]) ⟨hx, hb, hml, hown, hts⟩ gd_good (c_Va_at l D cB cI cJ v va vb n fa (nI i) (by omega)) cal_Va_at ml_Dr_47 ⟨Nat.le_of_ble_eq_true rfl, Nat.le_of_ble_eq_true rfl⟩ hZ hP hD (isC := [0, 1]) ⟨rfl, rfl⟩ 0 (ci := 3) rfl rfl rfl rfl hl.1 rfl (Nat.le_of_ble_eq_true rfl) d_Dr_linesInTurn_45 ⟨Nat.le_of_ble_eq_true rfl, Nat.le_of_ble_eq_true rfl⟩ (fun v hv => ?_)
            have hv : v = .int (trunc n fa i) := hv.trans (congrArg Value.int (atV_N (j := i) (by omega) (by omega)))
            subst hv
            have hC : Cut [(v, .inr (3, [.ref va, .ref vb, .int (nI n)])), (va, .inl (cI, 48, .inl fa)), (vb, .inl (cI, 48, .inl fb)), (u, .inr (4, [.ref ra, .int (nI mL), .int xL, .int yL])), (ra, .inl (cI, oc, .inl foL))] [(u, .inr (4, [.ref ra, .int (nI mL), .int xL, .int yL])), (ra, .inl (cI, oc, .inl foL))] [(v, .inr (3, [.ref va, .ref vb, .int (nI n)])), (va, .inl (cI, 48, .inl fa)), (vb, .inl (cI, 48, .inl fb))] [3, 4] [0, 1, 2] := ⟨rfl, rfl, rfl, rfl, by decide⟩
            refine goI0 (trV (As := [.int 0, .int (trunc n fa i)]) (rest := []) ⟨hx, hb, hml, hown, hts⟩ gd_good (c_Ou_line l D cB cI cJ u ra oc mL xL yL foL 0 (trunc n fa i) (by omega) (fun _ => by omega)) cal_Ou_line ml_Dr_51 ⟨Nat.le_of_ble_eq_true rfl, Nat.le_of_ble_eq_true rfl⟩ hZ hP hD hC 3 (ci := 4) rfl rfl rfl rfl hl.1 rfl (Nat.le_of_ble_eq_true rfl) d_Dr_linesInTurn_48 ⟨Nat.le_of_ble_eq_true rfl, Nat.le_of_ble_eq_true rfl⟩) hZ hP hD hS hC (fun r_48 w1 H locs hq hP hD hS => ?_)
            obtain ⟨m_48, x_48, y_48, fo_48, rfl, hv0_48, hx_48, hz_48⟩ := hq
            have hP : va_P D classes [(v, .inr (3, [.ref va, .ref vb, .int (nI n)])), (va, .inl (cI, 48, .inl fa)), (vb, .inl (cI, 48, .inl fb)), (u, .inr (4, [.ref ra, .int (nI m_48), .int x_48, .int y_48])), (ra, .inl (cI, oc, .inl fo_48))] H := hP
            have hD : va_D A_ [(v, .inr (3, [.ref va, .ref vb, .int (nI n)])), (va, .inl (cI, 48, .inl fa)), (vb, .inl (cI, 48, .inl fb)), (u, .inr (4, [.ref ra, .int (nI m_48), .int x_48, .int y_48])), (ra, .inl (cI, oc, .inl fo_48))] := hD
            refine lv_istore_n (lv' := [(3, .int r_48), (0, .ref v), (1, .int z), (2, .ref u), (4, .int ac), (5, .int (nI i))]) hx hb d_Dr_linesInTurn_51 rfl hl (by decide) rfl (fun ls hl => ?_)
            refine lv_iload hx hb d_Dr_linesInTurn_52 (lv_at hl 4 rfl) ?_
            refine lv_if_ne (tgt := 61) hx hb d_Dr_linesInTurn_54 (by decide) (fun c_54 => absurd c_54 (fun z => z c_23)) (fun c_54 => ?_)
            refine lv_iconst (v := 1) hx hb d_Dr_linesInTurn_57 (by decide) ?_
            refine lv_goto (tgt := 62) hx hb d_Dr_linesInTurn_58 (by decide) ?_
            refine lv_istore (lv' := [(4, .int 1), (3, .int r_48), (0, .ref v), (1, .int z), (2, .ref u), (5, .int (nI i))]) hx hb d_Dr_linesInTurn_62 hl (by decide) rfl (fun ls hl => ?_)
            refine lv_iinc (v := nI (i + 1)) (lv' := [(5, .int (nI (i + 1))), (4, .int 1), (3, .int r_48), (0, .ref v), (1, .int z), (2, .ref u)]) hx hb d_Dr_linesInTurn_64 hl (k := 5) rfl (nI_add i 1) (by decide) rfl (fun ls hl => ?_)
            refine lv_goto (tgt := 8) hx hb d_Dr_linesInTurn_67 (by decide) ?_
            exact ih_8  (i + 1) r_48 1 m_48 x_48 y_48 fo_48 _ _ _ ⟨by first | decide | assumption, by omega, by omega, (dr_stepC hdr c_18 (tur_0 hac c_23) (by omega) hx_48.1), ac_2a hac c_23, by omega⟩ (by omega) (hP.subm [0, 1, 2, 3, 4] rfl) (hD.sub [0, 1, 2, 3, 4] rfl rfl) hS (lv_sub hl [3, 4, 5, 2, 1, 0] rfl)
          · refine lv_aload_n hx hb d_Dr_linesInTurn_26 rfl (lv_at hl 2 rfl) ?_
            refine lv_aload_n hx hb d_Dr_linesInTurn_27 rfl (lv_at hl 0 rfl) ?_
            refine lv_iload hx hb d_Dr_linesInTurn_28 (lv_at hl 5 rfl) ?_
            refine roV (As := [.int (nI i)]) (rest := [.ref u]) ⟨hx, hb, hml, hown, hts⟩ gd_good (c_Va_at l D cB cI cJ v va vb n fa (nI i) (by omega)) cal_Va_at ml_Dr_47 ⟨Nat.le_of_ble_eq_true rfl, Nat.le_of_ble_eq_true rfl⟩ hZ hP hD (isC := [0, 1]) ⟨rfl, rfl⟩ 0 (ci := 3) rfl rfl rfl rfl hl.1 rfl (Nat.le_of_ble_eq_true rfl) d_Dr_linesInTurn_30 ⟨Nat.le_of_ble_eq_true rfl, Nat.le_of_ble_eq_true rfl⟩ (fun v hv => ?_)
            have hv : v = .int (trunc n fa i) := hv.trans (congrArg Value.int (atV_N (j := i) (by omega) (by omega)))
            subst hv
            refine lv_iconst (v := 0) hx hb d_Dr_linesInTurn_33 (by decide) ?_
            have hC : Cut [(v, .inr (3, [.ref va, .ref vb, .int (nI n)])), (va, .inl (cI, 48, .inl fa)), (vb, .inl (cI, 48, .inl fb)), (u, .inr (4, [.ref ra, .int (nI mL), .int xL, .int yL])), (ra, .inl (cI, oc, .inl foL))] [(u, .inr (4, [.ref ra, .int (nI mL), .int xL, .int yL])), (ra, .inl (cI, oc, .inl foL))] [(v, .inr (3, [.ref va, .ref vb, .int (nI n)])), (va, .inl (cI, 48, .inl fa)), (vb, .inl (cI, 48, .inl fb))] [3, 4] [0, 1, 2] := ⟨rfl, rfl, rfl, rfl, by decide⟩
            refine goI0 (trV (As := [.int (trunc n fa i), .int 0]) (rest := []) ⟨hx, hb, hml, hown, hts⟩ gd_good (c_Ou_line l D cB cI cJ u ra oc mL xL yL foL (trunc n fa i) 0 (by omega) (fun _ => by omega)) cal_Ou_line ml_Dr_51 ⟨Nat.le_of_ble_eq_true rfl, Nat.le_of_ble_eq_true rfl⟩ hZ hP hD hC 3 (ci := 4) rfl rfl rfl rfl hl.1 rfl (Nat.le_of_ble_eq_true rfl) d_Dr_linesInTurn_34 ⟨Nat.le_of_ble_eq_true rfl, Nat.le_of_ble_eq_true rfl⟩) hZ hP hD hS hC (fun r_34 w1 H locs hq hP hD hS => ?_)
            obtain ⟨m_34, x_34, y_34, fo_34, rfl, hv0_34, hx_34, hz_34⟩ := hq
            have hP : va_P D classes [(v, .inr (3, [.ref va, .ref vb, .int (nI n)])), (va, .inl (cI, 48, .inl fa)), (vb, .inl (cI, 48, .inl fb)), (u, .inr (4, [.ref ra, .int (nI m_34), .int x_34, .int y_34])), (ra, .inl (cI, oc, .inl fo_34))] H := hP
            have hD : va_D A_ [(v, .inr (3, [.ref va, .ref vb, .int (nI n)])), (va, .inl (cI, 48, .inl fa)), (vb, .inl (cI, 48, .inl fb)), (u, .inr (4, [.ref ra, .int (nI m_34), .int x_34, .int y_34])), (ra, .inl (cI, oc, .inl fo_34))] := hD
            refine lv_goto (tgt := 51) hx hb d_Dr_linesInTurn_37 (by decide) ?_
            refine lv_istore_n (lv' := [(3, .int r_34), (0, .ref v), (1, .int z), (2, .ref u), (4, .int ac), (5, .int (nI i))]) hx hb d_Dr_linesInTurn_51 rfl hl (by decide) rfl (fun ls hl => ?_)
            refine lv_iload hx hb d_Dr_linesInTurn_52 (lv_at hl 4 rfl) ?_
            refine lv_if_ne (tgt := 61) hx hb d_Dr_linesInTurn_54 (by decide) (fun c_54 => ?_) (fun c_54 => absurd c_54 c_23)
            refine lv_iconst (v := 0) hx hb d_Dr_linesInTurn_61 (by decide) ?_
            refine lv_istore (lv' := [(4, .int 0), (3, .int r_34), (0, .ref v), (1, .int z), (2, .ref u), (5, .int (nI i))]) hx hb d_Dr_linesInTurn_62 hl (by decide) rfl (fun ls hl => ?_)
            refine lv_iinc (v := nI (i + 1)) (lv' := [(5, .int (nI (i + 1))), (4, .int 0), (3, .int r_34), (0, .ref v), (1, .int z), (2, .ref u)]) hx hb d_Dr_linesInTurn_64 hl (k := 5) rfl (nI_add i 1) (by decide) rfl (fun ls hl => ?_)
            refine lv_goto (tgt := 8) hx hb d_Dr_linesInTurn_67 (by decide) ?_
            exact ih_8  (i + 1) r_34 0 m_34 x_34 y_34 fo_34 _ _ _ ⟨by first | decide | assumption, by omega, by omega, (dr_stepC hdr c_18 (tur_1 hac c_23) (by omega) hx_34.1), ac_2b hac c_23, by omega⟩ (by omega) (hP.subm [0, 1, 2, 3, 4] rfl) (hD.sub [0, 1, 2, 3, 4] rfl rfl) hS (lv_sub hl [3, 4, 5, 2, 1, 0] rfl)
  exact lp_8 _ 0 1 z m x y fo _ _ _ ⟨by first | decide | assumption, by omega, by omega, (zB_1 _), ac_ini hzb, by omega⟩ (Nat.lt_succ_self _) (hP.subm [0, 1, 2, 3, 4] rfl) (hD.sub [0, 1, 2, 3, 4] rfl rfl) hS (lv_sub hl [3, 4, 5, 2, 1, 0] rfl)
set_option maxHeartbeats 1000000 in
set_option maxRecDepth 100000 in
theorem c_Dr_curvesInTurn (l : Launch) (D : va_G) (cB cI cJ : ClassId) (v va vb u ra oc : Nat) (n : Nat) (fa : Nat → Int32) (fb : Nat → Int32) (m : Nat) (x : Int32) (y : Int32) (fo : Nat → Int32) (z : Int32) (hiVa : n ≤ 48) (hiOu : m ≤ 4000 ∧ 7 * m ≤ oc ∧ 336 ≤ oc ∧ oc ≤ 28000) (zb : Bool) (hzb : z = (if zb = true then 1 else 0)) (hroom : 7 * min 4000 (m + n) ≤ oc) : Tr l D classes (TY cB cI cJ) gd_tbl nx_tbl y_Dr_curvesInTurn b_Dr_curvesInTurn 7 (some .boolean) ({ frames := 2, cells := 0, slots := 0, locals := 58 }) [.ref v, .int z, .ref u] [(v, .inr (3, [.ref va, .ref vb, .int (nI n)])), (va, .inl (cI, 48, .inl fa)), (vb, .inl (cI, 48, .inl fb)), (u, .inr (4, [.ref ra, .int (nI m), .int x, .int y])), (ra, .inl (cI, oc, .inl fo))] (pI0 (fun r w => ∃ (m' : Nat) (x' : Int32) (y' : Int32) (fo' : Nat → Int32), w = [(v, .inr (3, [.ref va, .ref vb, .int (nI n)])), (va, .inl (cI, 48, .inl fa)), (vb, .inl (cI, 48, .inl fb)), (u, .inr (4, [.ref ra, .int (nI m'), .int x', .int y'])), (ra, .inl (cI, oc, .inl fo'))] ∧ (m' ≤ 4000 ∧ 7 * m' ≤ oc ∧ 336 ≤ oc ∧ oc ≤ 28000) ∧ (zR r (uS m' x' y' fo') = drawAll (uS m x y fo) (cmdsL (wavC (trunc n fa) n zb) 4 0 ((n - 0) / 4))) ∧ (r = 0 ∨ r = 1))) := by
  refine Tr.intro (by decide +kernel) nx_ok (Nat.le_of_ble_eq_true rfl) ?_
  intro p_ e_ s_ m_ args_ below_ meth_ c_ A_ ls hx hb hml hown hts hr hlk hnm hZ hP hD hS hl
  have hl : lv_has ls 7 [(0, .ref v), (1, .int z), (2, .ref u)] := hl
  refine lv_iconst (v := 1) hx hb d_Dr_curvesInTurn_0 (by decide) ?_
  refine lv_istore_n (lv' := [(3, .int 1), (0, .ref v), (1, .int z), (2, .ref u)]) hx hb d_Dr_curvesInTurn_1 rfl hl (by decide) rfl (fun ls hl => ?_)
  refine lv_iload_n hx hb d_Dr_curvesInTurn_2 rfl (lv_at hl 2 rfl) ?_
  refine lv_istore (lv' := [(4, .int z), (3, .int 1), (0, .ref v), (1, .int z), (2, .ref u)]) hx hb d_Dr_curvesInTurn_3 hl (by decide) rfl (fun ls hl => ?_)
  refine lv_iconst (v := 0) hx hb d_Dr_curvesInTurn_5 (by decide) ?_
  refine lv_istore (lv' := [(5, .int 0), (4, .int z), (3, .int 1), (0, .ref v), (1, .int z), (2, .ref u)]) hx hb d_Dr_curvesInTurn_6 hl (by decide) rfl (fun ls hl => ?_)
  have lp_8 : ∀ (fu : Nat) (i : Nat) (rm : Int32) (ac : Int32) (mL : Nat) (xL : Int32) (yL : Int32) (foL : Nat → Int32) (H : Heap) (locs : List Loc) (ls : Array Slot), ((rm = 0 ∨ rm = 1) ∧ (mL ≤ 4000 ∧ 7 * mL ≤ oc ∧ 336 ≤ oc ∧ oc ≤ 28000) ∧ (i ≤ 60 ∧ 0 ≤ i ∧ mL + 0 ≤ m + i) ∧ zB7 rm (drawAll (uS mL xL yL foL) (cmdsL (wavC (trunc n fa) n zb) 4 i ((n - i) / 4))) = drawAll (uS m x y fo) (cmdsL (wavC (trunc n fa) n zb) 4 0 ((n - 0) / 4)) ∧ (ac = 0 ↔ ¬ decide (i % 8 = 0) = zb) ∧ (i % 4 = 0)) → (70 - i) < fu → va_P D classes [(v, .inr (3, [.ref va, .ref vb, .int (nI n)])), (va, .inl (cI, 48, .inl fa)), (vb, .inl (cI, 48, .inl fb)), (u, .inr (4, [.ref ra, .int (nI mL), .int xL, .int yL])), (ra, .inl (cI, oc, .inl foL))] H → va_D A_ [(v, .inr (3, [.ref va, .ref vb, .int (nI n)])), (va, .inl (cI, 48, .inl fa)), (vb, .inl (cI, 48, .inl fb)), (u, .inr (4, [.ref ra, .int (nI mL), .int xL, .int yL])), (ra, .inl (cI, oc, .inl foL))] → va_S A_ s_.heap H locs → lv_has ls 7 [(0, .ref v), (1, .int z), (2, .ref u), (3, .int rm), (4, .int ac), (5, .int (nI i))] → W p_ l e_ ({ frames := 2, cells := 0, slots := 0, locals := 58 }) s_ m_ args_ below_ meth_ c_ H locs (0) (0) (MQT below_ D classes A_ (pI0 (fun r w => ∃ (m' : Nat) (x' : Int32) (y' : Int32) (fo' : Nat → Int32), w = [(v, .inr (3, [.ref va, .ref vb, .int (nI n)])), (va, .inl (cI, 48, .inl fa)), (vb, .inl (cI, 48, .inl fb)), (u, .inr (4, [.ref ra, .int (nI m'), .int x', .int y'])), (ra, .inl (cI, oc, .inl fo'))] ∧ (m' ≤ 4000 ∧ 7 * m' ≤ oc ∧ 336 ≤ oc ∧ oc ≤ 28000) ∧ (zR r (uS m' x' y' fo') = drawAll (uS m x y fo) (cmdsL (wavC (trunc n fa) n zb) 4 0 ((n - 0) / 4))) ∧ (r = 0 ∨ r = 1))) s_) (F0 m_ 8 ls []) := by
    intro fu
    induction fu with
    | zero => intro i rm ac mL xL yL foL H locs ls hinv hfu; exact absurd hfu (Nat.not_lt_zero _)
    | succ fu ih_8 =>
      intro i rm ac mL xL yL foL H locs ls hinv hfu hP hD hS hl
      obtain ⟨hrm, hou, hib, hdr, hac, him⟩ := hinv
      refine lv_iload hx hb d_Dr_curvesInTurn_8 (lv_at hl 5 rfl) ?_
      refine lv_iconst (v := 4) hx hb d_Dr_curvesInTurn_10 (by decide) ?_
      refine lv_iadd hx hb d_Dr_curvesInTurn_11 ?_
      refine lv_tv (y := nI (i + 4)) (nI_add i 4) ?_
      refine lv_aload_n hx hb d_Dr_curvesInTurn_12 rfl (lv_at hl 0 rfl) ?_
      refine roV (As := []) (rest := [.int (nI (i + 4))]) ⟨hx, hb, hml, hown, hts⟩ gd_good (c_Va_size l D cB cI cJ v va vb n) cal_Va_size ml_Dr_7 ⟨Nat.le_of_ble_eq_true rfl, Nat.le_of_ble_eq_true rfl⟩ hZ hP hD (isC := [0]) ⟨rfl, rfl⟩ 0 (ci := 3) rfl rfl rfl rfl hl.1 rfl (Nat.le_of_ble_eq_true rfl) d_Dr_curvesInTurn_13 ⟨Nat.le_of_ble_eq_true rfl, Nat.le_of_ble_eq_true rfl⟩ (fun v hv => ?_)
      subst hv
      refine lv_icmp_gt (tgt := 149) hx hb d_Dr_curvesInTurn_16 (by decide) (fun c_16 => ?_) (fun c_16 => ?_)
      · have n_16 : (n) < (i + 4) := (nI_ltI (a := n) (b := i + 4) (by omega) (by omega)).mp c_16
        refine lv_iload_n hx hb d_Dr_curvesInTurn_149 rfl (lv_at hl 3 rfl) ?_
        exact t_zret hx hb hr hlk (by first | decide | exact nar01 (by assumption)) d_Dr_curvesInTurn_150 (hP.subm (ws' := [(v, .inr (3, [.ref va, .ref vb, .int (nI n)])), (va, .inl (cI, 48, .inl fa)), (vb, .inl (cI, 48, .inl fb)), (u, .inr (4, [.ref ra, .int (nI mL), .int xL, .int yL])), (ra, .inl (cI, oc, .inl foL))]) [0, 1, 2, 3, 4] rfl) (hD.sub (ws' := [(v, .inr (3, [.ref va, .ref vb, .int (nI n)])), (va, .inl (cI, 48, .inl fa)), (vb, .inl (cI, 48, .inl fb)), (u, .inr (4, [.ref ra, .int (nI mL), .int xL, .int yL])), (ra, .inl (cI, oc, .inl foL))]) [0, 1, 2, 3, 4] rfl rfl) hS ⟨_, rfl, rfl, rfl, _, _, _, _, rfl, (by omega), (dr_end (Or.inr (by omega)) hdr), (by first | decide | assumption)⟩
      · have n_16 : ¬ (n) < (i + 4) := fun z => c_16 ((nI_ltI (a := n) (b := i + 4) (by omega) (by omega)).mpr z)
        refine lv_iload_n hx hb d_Dr_curvesInTurn_19 rfl (lv_at hl 3 rfl) ?_
        refine lv_if_eq (tgt := 149) hx hb d_Dr_curvesInTurn_20 (by decide) (fun c_20 => ?_) (fun c_20 => ?_)
        · refine lv_iload_n hx hb d_Dr_curvesInTurn_149 rfl (lv_at hl 3 rfl) ?_
          exact t_zret hx hb hr hlk (by first | decide | exact nar01 (by assumption)) d_Dr_curvesInTurn_150 (hP.subm (ws' := [(v, .inr (3, [.ref va, .ref vb, .int (nI n)])), (va, .inl (cI, 48, .inl fa)), (vb, .inl (cI, 48, .inl fb)), (u, .inr (4, [.ref ra, .int (nI mL), .int xL, .int yL])), (ra, .inl (cI, oc, .inl foL))]) [0, 1, 2, 3, 4] rfl) (hD.sub (ws' := [(v, .inr (3, [.ref va, .ref vb, .int (nI n)])), (va, .inl (cI, 48, .inl fa)), (vb, .inl (cI, 48, .inl fb)), (u, .inr (4, [.ref ra, .int (nI mL), .int xL, .int yL])), (ra, .inl (cI, oc, .inl foL))]) [0, 1, 2, 3, 4] rfl rfl) hS ⟨_, rfl, rfl, rfl, _, _, _, _, rfl, (by omega), (dr_end (Or.inl c_20) hdr), (by first | decide | assumption)⟩
        · refine lv_iload hx hb d_Dr_curvesInTurn_23 (lv_at hl 5 rfl) ?_
          refine lv_iconst (v := 5) hx hb d_Dr_curvesInTurn_25 (by decide) ?_
          refine lv_iadd hx hb d_Dr_curvesInTurn_26 ?_
          refine lv_tv (y := nI (i + 5)) (nI_add i 5) ?_
          refine lv_aload_n hx hb d_Dr_curvesInTurn_27 rfl (lv_at hl 0 rfl) ?_
          refine roV (As := []) (rest := [.int (nI (i + 5))]) ⟨hx, hb, hml, hown, hts⟩ gd_good (c_Va_size l D cB cI cJ v va vb n) cal_Va_size ml_Dr_7 ⟨Nat.le_of_ble_eq_true rfl, Nat.le_of_ble_eq_true rfl⟩ hZ hP hD (isC := [0]) ⟨rfl, rfl⟩ 0 (ci := 3) rfl rfl rfl rfl hl.1 rfl (Nat.le_of_ble_eq_true rfl) d_Dr_curvesInTurn_28 ⟨Nat.le_of_ble_eq_true rfl, Nat.le_of_ble_eq_true rfl⟩ (fun v hv => ?_)
          subst hv
          refine lv_icmp_ne (tgt := 45) hx hb d_Dr_curvesInTurn_31 (by decide) (fun c_31 => ?_) (fun c_31 => ?_)
          · have n_31 : ¬ (i + 5) = (n) := fun z => c_31 ((nI_eq (a := i + 5) (b := n) (by omega) (by omega)).mpr z)
            refine lv_iconst (v := 0) hx hb d_Dr_curvesInTurn_45 (by decide) ?_
            refine lv_istore (lv' := [(6, .int 0), (0, .ref v), (1, .int z), (2, .ref u), (3, .int rm), (4, .int ac), (5, .int (nI i))]) hx hb d_Dr_curvesInTurn_46 hl (by decide) rfl (fun ls hl => ?_)
            refine lv_iload hx hb d_Dr_curvesInTurn_48 (lv_at hl 5 rfl) ?_
            refine lv_if_eq (tgt := 93) hx hb d_Dr_curvesInTurn_50 (by decide) (fun c_50 => ?_) (fun c_50 => ?_)
            · refine lv_aload_n hx hb d_Dr_curvesInTurn_93 rfl (lv_at hl 3 rfl) ?_
              refine lv_iconst (v := 0) hx hb d_Dr_curvesInTurn_94 (by decide) ?_
              refine lv_aload_n hx hb d_Dr_curvesInTurn_95 rfl (lv_at hl 1 rfl) ?_
              refine lv_iload hx hb d_Dr_curvesInTurn_96 (lv_at hl 6 rfl) ?_
              refine roV (As := [.int (nI i)]) (rest := [.int 0, .ref u]) ⟨hx, hb, hml, hown, hts⟩ gd_good (c_Va_at l D cB cI cJ v va vb n fa (nI i) (by omega)) cal_Va_at ml_Dr_47 ⟨Nat.le_of_ble_eq_true rfl, Nat.le_of_ble_eq_true rfl⟩ hZ hP hD (isC := [0, 1]) ⟨rfl, rfl⟩ 0 (ci := 3) rfl rfl rfl rfl hl.1 rfl (Nat.le_of_ble_eq_true rfl) d_Dr_curvesInTurn_98 ⟨Nat.le_of_ble_eq_true rfl, Nat.le_of_ble_eq_true rfl⟩ (fun v hv => ?_)
              have hv : v = .int (trunc n fa i) := hv.trans (congrArg Value.int (atV_N (j := i) (by omega) (by omega)))
              subst hv
              refine lv_aload_n hx hb d_Dr_curvesInTurn_101 rfl (lv_at hl 1 rfl) ?_
              refine lv_iload hx hb d_Dr_curvesInTurn_102 (lv_at hl 6 rfl) ?_
              refine lv_iconst (v := 1) hx hb d_Dr_curvesInTurn_104 (by decide) ?_
              refine lv_iadd hx hb d_Dr_curvesInTurn_105 ?_
              refine lv_tv (y := nI (i + 1)) (nI_add i 1) ?_
              refine roV (As := [.int (nI (i + 1))]) (rest := [.int (trunc n fa i), .int 0, .ref u]) ⟨hx, hb, hml, hown, hts⟩ gd_good (c_Va_at l D cB cI cJ v va vb n fa (nI (i + 1)) (by omega)) cal_Va_at ml_Dr_47 ⟨Nat.le_of_ble_eq_true rfl, Nat.le_of_ble_eq_true rfl⟩ hZ hP hD (isC := [0, 1]) ⟨rfl, rfl⟩ 0 (ci := 3) rfl rfl rfl rfl hl.1 rfl (Nat.le_of_ble_eq_true rfl) d_Dr_curvesInTurn_106 ⟨Nat.le_of_ble_eq_true rfl, Nat.le_of_ble_eq_true rfl⟩ (fun v hv => ?_)
              have hv : v = .int (trunc n fa (i + 1)) := hv.trans (congrArg Value.int (atV_N (j := i + 1) (by omega) (by omega)))
              subst hv
              refine lv_aload_n hx hb d_Dr_curvesInTurn_109 rfl (lv_at hl 1 rfl) ?_
              refine lv_iload hx hb d_Dr_curvesInTurn_110 (lv_at hl 6 rfl) ?_
              refine lv_iconst (v := 2) hx hb d_Dr_curvesInTurn_112 (by decide) ?_
              refine lv_iadd hx hb d_Dr_curvesInTurn_113 ?_
              refine lv_tv (y := nI (i + 2)) (nI_add i 2) ?_
              refine roV (As := [.int (nI (i + 2))]) (rest := [.int (trunc n fa (i + 1)), .int (trunc n fa i), .int 0, .ref u]) ⟨hx, hb, hml, hown, hts⟩ gd_good (c_Va_at l D cB cI cJ v va vb n fa (nI (i + 2)) (by omega)) cal_Va_at ml_Dr_47 ⟨Nat.le_of_ble_eq_true rfl, Nat.le_of_ble_eq_true rfl⟩ hZ hP hD (isC := [0, 1]) ⟨rfl, rfl⟩ 0 (ci := 3) rfl rfl rfl rfl hl.1 rfl (Nat.le_of_ble_eq_true rfl) d_Dr_curvesInTurn_114 ⟨Nat.le_of_ble_eq_true rfl, Nat.le_of_ble_eq_true rfl⟩ (fun v hv => ?_)
              have hv : v = .int (trunc n fa (i + 2)) := hv.trans (congrArg Value.int (atV_N (j := i + 2) (by omega) (by omega)))
              subst hv
              refine lv_aload_n hx hb d_Dr_curvesInTurn_117 rfl (lv_at hl 1 rfl) ?_
              refine lv_iload hx hb d_Dr_curvesInTurn_118 (lv_at hl 6 rfl) ?_
              refine lv_iconst (v := 3) hx hb d_Dr_curvesInTurn_120 (by decide) ?_
              refine lv_iadd hx hb d_Dr_curvesInTurn_121 ?_
              refine lv_tv (y := nI (i + 3)) (nI_add i 3) ?_
              refine roV (As := [.int (nI (i + 3))]) (rest := [.int (trunc n fa (i + 2)), .int (trunc n fa (i + 1)), .int (trunc n fa i), .int 0, .ref u]) ⟨hx, hb, hml, hown, hts⟩ gd_good (c_Va_at l D cB cI cJ v va vb n fa (nI (i + 3)) (by omega)) cal_Va_at ml_Dr_47 ⟨Nat.le_of_ble_eq_true rfl, Nat.le_of_ble_eq_true rfl⟩ hZ hP hD (isC := [0, 1]) ⟨rfl, rfl⟩ 0 (ci := 3) rfl rfl rfl rfl hl.1 rfl (Nat.le_of_ble_eq_true rfl) d_Dr_curvesInTurn_122 ⟨Nat.le_of_ble_eq_true rfl, Nat.le_of_ble_eq_true rfl⟩ (fun v hv => ?_)
              have hv : v = .int (trunc n fa (i + 3)) := hv.trans (congrArg Value.int (atV_N (j := i + 3) (by omega) (by omega)))
              subst hv
              refine lv_iload hx hb d_Dr_curvesInTurn_125 (lv_at hl 0 rfl) ?_
              have hC : Cut [(v, .inr (3, [.ref va, .ref vb, .int (nI n)])), (va, .inl (cI, 48, .inl fa)), (vb, .inl (cI, 48, .inl fb)), (u, .inr (4, [.ref ra, .int (nI mL), .int xL, .int yL])), (ra, .inl (cI, oc, .inl foL))] [(u, .inr (4, [.ref ra, .int (nI mL), .int xL, .int yL])), (ra, .inl (cI, oc, .inl foL))] [(v, .inr (3, [.ref va, .ref vb, .int (nI n)])), (va, .inl (cI, 48, .inl fa)), (vb, .inl (cI, 48, .inl fb))] [3, 4] [0, 1, 2] := ⟨rfl, rfl, rfl, rfl, by decide⟩
              refine goI0 (trV (As := [.int 0, .int (trunc n fa i), .int (trunc n fa (i + 1)), .int (trunc n fa (i + 2)), .int (trunc n fa (i + 3)), .int 0]) (rest := []) ⟨hx, hb, hml, hown, hts⟩ gd_good (c_Ou_curve l D cB cI cJ u ra oc mL xL yL foL 0 (trunc n fa i) (trunc n fa (i + 1)) (trunc n fa (i + 2)) (trunc n fa (i + 3)) 0 (by omega) (fun _ => by omega)) cal_Ou_curve ml_Dr_57 ⟨Nat.le_of_ble_eq_true rfl, Nat.le_of_ble_eq_true rfl⟩ hZ hP hD hC 3 (ci := 4) rfl rfl rfl rfl hl.1 rfl (Nat.le_of_ble_eq_true rfl) d_Dr_curvesInTurn_127 ⟨Nat.le_of_ble_eq_true rfl, Nat.le_of_ble_eq_true rfl⟩) hZ hP hD hS hC (fun r_127 w1 H locs hq hP hD hS => ?_)
              obtain ⟨m_127, x_127, y_127, fo_127, rfl, hv0_127, hx_127, hz_127⟩ := hq
              have hP : va_P D classes [(v, .inr (3, [.ref va, .ref vb, .int (nI n)])), (va, .inl (cI, 48, .inl fa)), (vb, .inl (cI, 48, .inl fb)), (u, .inr (4, [.ref ra, .int (nI m_127), .int x_127, .int y_127])), (ra, .inl (cI, oc, .inl fo_127))] H := hP
              have hD : va_D A_ [(v, .inr (3, [.ref va, .ref vb, .int (nI n)])), (va, .inl (cI, 48, .inl fa)), (vb, .inl (cI, 48, .inl fb)), (u, .inr (4, [.ref ra, .int (nI m_127), .int x_127, .int y_127])), (ra, .inl (cI, oc, .inl fo_127))] := hD
              refine lv_istore_n (lv' := [(3, .int r_127), (6, .int 0), (0, .ref v), (1, .int z), (2, .ref u), (4, .int ac), (5, .int (nI i))]) hx hb d_Dr_curvesInTurn_130 rfl hl (by decide) rfl (fun ls hl => ?_)
              refine lv_iload hx hb d_Dr_curvesInTurn_131 (lv_at hl 5 rfl) ?_
              refine lv_if_ne (tgt := 140) hx hb d_Dr_curvesInTurn_133 (by decide) (fun c_133 => absurd c_133 (fun z => z c_50)) (fun c_133 => ?_)
              refine lv_iconst (v := 1) hx hb d_Dr_curvesInTurn_136 (by decide) ?_
              refine lv_goto (tgt := 141) hx hb d_Dr_curvesInTurn_137 (by decide) ?_
              refine lv_istore (lv' := [(4, .int 1), (3, .int r_127), (6, .int 0), (0, .ref v), (1, .int z), (2, .ref u), (5, .int (nI i))]) hx hb d_Dr_curvesInTurn_141 hl (by decide) rfl (fun ls hl => ?_)
              refine lv_iinc (v := nI (i + 4)) (lv' := [(5, .int (nI (i + 4))), (4, .int 1), (3, .int r_127), (6, .int 0), (0, .ref v), (1, .int z), (2, .ref u)]) hx hb d_Dr_curvesInTurn_143 hl (k := 6) rfl (nI_add i 4) (by decide) rfl (fun ls hl => ?_)
              refine lv_goto (tgt := 8) hx hb d_Dr_curvesInTurn_146 (by decide) ?_
              exact ih_8  (i + 4) r_127 1 m_127 x_127 y_127 fo_127 _ _ _ ⟨by first | decide | assumption, by omega, by omega, (dr_stepC hdr c_20 (wav_0 hac c_50 (if_neg n_31)) (by omega) hx_127.1), ac_8a hac c_50 him, by omega⟩ (by omega) (hP.subm [0, 1, 2, 3, 4] rfl) (hD.sub [0, 1, 2, 3, 4] rfl rfl) hS (lv_sub hl [4, 5, 6, 2, 1, 0] rfl)
            · refine lv_aload_n hx hb d_Dr_curvesInTurn_53 rfl (lv_at hl 3 rfl) ?_
              refine lv_aload_n hx hb d_Dr_curvesInTurn_54 rfl (lv_at hl 1 rfl) ?_
              refine lv_iload hx hb d_Dr_curvesInTurn_55 (lv_at hl 6 rfl) ?_
              refine roV (As := [.int (nI i)]) (rest := [.ref u]) ⟨hx, hb, hml, hown, hts⟩ gd_good (c_Va_at l D cB cI cJ v va vb n fa (nI i) (by omega)) cal_Va_at ml_Dr_47 ⟨Nat.le_of_ble_eq_true rfl, Nat.le_of_ble_eq_true rfl⟩ hZ hP hD (isC := [0, 1]) ⟨rfl, rfl⟩ 0 (ci := 3) rfl rfl rfl rfl hl.1 rfl (Nat.le_of_ble_eq_true rfl) d_Dr_curvesInTurn_57 ⟨Nat.le_of_ble_eq_true rfl, Nat.le_of_ble_eq_true rfl⟩ (fun v hv => ?_)
              have hv : v = .int (trunc n fa i) := hv.trans (congrArg Value.int (atV_N (j := i) (by omega) (by omega)))
              subst hv
              refine lv_iconst (v := 0) hx hb d_Dr_curvesInTurn_60 (by decide) ?_
              refine lv_aload_n hx hb d_Dr_curvesInTurn_61 rfl (lv_at hl 1 rfl) ?_
              refine lv_iload hx hb d_Dr_curvesInTurn_62 (lv_at hl 6 rfl) ?_
              refine lv_iconst (v := 1) hx hb d_Dr_curvesInTurn_64 (by decide) ?_
              refine lv_iadd hx hb d_Dr_curvesInTurn_65 ?_
              refine lv_tv (y := nI (i + 1)) (nI_add i 1) ?_
              refine roV (As := [.int (nI (i + 1))]) (rest := [.int 0, .int (trunc n fa i), .ref u]) ⟨hx, hb, hml, hown, hts⟩ gd_good (c_Va_at l D cB cI cJ v va vb n fa (nI (i + 1)) (by omega)) cal_Va_at ml_Dr_47 ⟨Nat.le_of_ble_eq_true rfl, Nat.le_of_ble_eq_true rfl⟩ hZ hP hD (isC := [0, 1]) ⟨rfl, rfl⟩ 0 (ci := 3) rfl rfl rfl rfl hl.1 rfl (Nat.le_of_ble_eq_true rfl) d_Dr_curvesInTurn_66 ⟨Nat.le_of_ble_eq_true rfl, Nat.le_of_ble_eq_true rfl⟩ (fun v hv => ?_)
              have hv : v = .int (trunc n fa (i + 1)) := hv.trans (congrArg Value.int (atV_N (j := i + 1) (by omega) (by omega)))
              subst hv
              refine lv_aload_n hx hb d_Dr_curvesInTurn_69 rfl (lv_at hl 1 rfl) ?_
              refine lv_iload hx hb d_Dr_curvesInTurn_70 (lv_at hl 6 rfl) ?_
              refine lv_iconst (v := 2) hx hb d_Dr_curvesInTurn_72 (by decide) ?_
              refine lv_iadd hx hb d_Dr_curvesInTurn_73 ?_
              refine lv_tv (y := nI (i + 2)) (nI_add i 2) ?_
              refine roV (As := [.int (nI (i + 2))]) (rest := [.int (trunc n fa (i + 1)), .int 0, .int (trunc n fa i), .ref u]) ⟨hx, hb, hml, hown, hts⟩ gd_good (c_Va_at l D cB cI cJ v va vb n fa (nI (i + 2)) (by omega)) cal_Va_at ml_Dr_47 ⟨Nat.le_of_ble_eq_true rfl, Nat.le_of_ble_eq_true rfl⟩ hZ hP hD (isC := [0, 1]) ⟨rfl, rfl⟩ 0 (ci := 3) rfl rfl rfl rfl hl.1 rfl (Nat.le_of_ble_eq_true rfl) d_Dr_curvesInTurn_74 ⟨Nat.le_of_ble_eq_true rfl, Nat.le_of_ble_eq_true rfl⟩ (fun v hv => ?_)
              have hv : v = .int (trunc n fa (i + 2)) := hv.trans (congrArg Value.int (atV_N (j := i + 2) (by omega) (by omega)))
              subst hv
              refine lv_iload hx hb d_Dr_curvesInTurn_77 (lv_at hl 0 rfl) ?_
              refine lv_aload_n hx hb d_Dr_curvesInTurn_79 rfl (lv_at hl 1 rfl) ?_
              refine lv_iload hx hb d_Dr_curvesInTurn_80 (lv_at hl 6 rfl) ?_
              refine lv_iconst (v := 3) hx hb d_Dr_curvesInTurn_82 (by decide) ?_
              refine lv_iadd hx hb d_Dr_curvesInTurn_83 ?_
              refine lv_tv (y := nI (i + 3)) (nI_add i 3) ?_
              refine roV (As := [.int (nI (i + 3))]) (rest := [.int 0, .int (trunc n fa (i + 2)), .int (trunc n fa (i + 1)), .int 0, .int (trunc n fa i), .ref u]) ⟨hx, hb, hml, hown, hts⟩ gd_good (c_Va_at l D cB cI cJ v va vb n fa (nI (i + 3)) (by omega)) cal_Va_at ml_Dr_47 ⟨Nat.le_of_ble_eq_true rfl, Nat.le_of_ble_eq_true rfl⟩ hZ hP hD (isC := [0, 1]) ⟨rfl, rfl⟩ 0 (ci := 3) rfl rfl rfl rfl hl.1 rfl (Nat.le_of_ble_eq_true rfl) d_Dr_curvesInTurn_84 ⟨Nat.le_of_ble_eq_true rfl, Nat.le_of_ble_eq_true rfl⟩ (fun v hv => ?_)
              have hv : v = .int (trunc n fa (i + 3)) := hv.trans (congrArg Value.int (atV_N (j := i + 3) (by omega) (by omega)))
              subst hv
              have hC : Cut [(v, .inr (3, [.ref va, .ref vb, .int (nI n)])), (va, .inl (cI, 48, .inl fa)), (vb, .inl (cI, 48, .inl fb)), (u, .inr (4, [.ref ra, .int (nI mL), .int xL, .int yL])), (ra, .inl (cI, oc, .inl foL))] [(u, .inr (4, [.ref ra, .int (nI mL), .int xL, .int yL])), (ra, .inl (cI, oc, .inl foL))] [(v, .inr (3, [.ref va, .ref vb, .int (nI n)])), (va, .inl (cI, 48, .inl fa)), (vb, .inl (cI, 48, .inl fb))] [3, 4] [0, 1, 2] := ⟨rfl, rfl, rfl, rfl, by decide⟩
              refine goI0 (trV (As := [.int (trunc n fa i), .int 0, .int (trunc n fa (i + 1)), .int (trunc n fa (i + 2)), .int 0, .int (trunc n fa (i + 3))]) (rest := []) ⟨hx, hb, hml, hown, hts⟩ gd_good (c_Ou_curve l D cB cI cJ u ra oc mL xL yL foL (trunc n fa i) 0 (trunc n fa (i + 1)) (trunc n fa (i + 2)) 0 (trunc n fa (i + 3)) (by omega) (fun _ => by omega)) cal_Ou_curve ml_Dr_57 ⟨Nat.le_of_ble_eq_true rfl, Nat.le_of_ble_eq_true rfl⟩ hZ hP hD hC 3 (ci := 4) rfl rfl rfl rfl hl.1 rfl (Nat.le_of_ble_eq_true rfl) d_Dr_curvesInTurn_87 ⟨Nat.le_of_ble_eq_true rfl, Nat.le_of_ble_eq_true rfl⟩) hZ hP hD hS hC (fun r_87 w1 H locs hq hP hD hS => ?_)
              obtain ⟨m_87, x_87, y_87, fo_87, rfl, hv0_87, hx_87, hz_87⟩ := hq
              have hP : va_P D classes [(v, .inr (3, [.ref va, .ref vb, .int (nI n)])), (va, .inl (cI, 48, .inl fa)), (vb, .inl (cI, 48, .inl fb)), (u, .inr (4, [.ref ra, .int (nI m_87), .int x_87, .int y_87])), (ra, .inl (cI, oc, .inl fo_87))] H := hP
              have hD : va_D A_ [(v, .inr (3, [.ref va, .ref vb, .int (nI n)])), (va, .inl (cI, 48, .inl fa)), (vb, .inl (cI, 48, .inl fb)), (u, .inr (4, [.ref ra, .int (nI m_87), .int x_87, .int y_87])), (ra, .inl (cI, oc, .inl fo_87))] := hD
              refine lv_goto (tgt := 130) hx hb d_Dr_curvesInTurn_90 (by decide) ?_
              refine lv_istore_n (lv' := [(3, .int r_87), (6, .int 0), (0, .ref v), (1, .int z), (2, .ref u), (4, .int ac), (5, .int (nI i))]) hx hb d_Dr_curvesInTurn_130 rfl hl (by decide) rfl (fun ls hl => ?_)
              refine lv_iload hx hb d_Dr_curvesInTurn_131 (lv_at hl 5 rfl) ?_
              refine lv_if_ne (tgt := 140) hx hb d_Dr_curvesInTurn_133 (by decide) (fun c_133 => ?_) (fun c_133 => absurd c_133 c_50)
              refine lv_iconst (v := 0) hx hb d_Dr_curvesInTurn_140 (by decide) ?_
              refine lv_istore (lv' := [(4, .int 0), (3, .int r_87), (6, .int 0), (0, .ref v), (1, .int z), (2, .ref u), (5, .int (nI i))]) hx hb d_Dr_curvesInTurn_141 hl (by decide) rfl (fun ls hl => ?_)
              refine lv_iinc (v := nI (i + 4)) (lv' := [(5, .int (nI (i + 4))), (4, .int 0), (3, .int r_87), (6, .int 0), (0, .ref v), (1, .int z), (2, .ref u)]) hx hb d_Dr_curvesInTurn_143 hl (k := 6) rfl (nI_add i 4) (by decide) rfl (fun ls hl => ?_)
              refine lv_goto (tgt := 8) hx hb d_Dr_curvesInTurn_146 (by decide) ?_
              exact ih_8  (i + 4) r_87 0 m_87 x_87 y_87 fo_87 _ _ _ ⟨by first | decide | assumption, by omega, by omega, (dr_stepC hdr c_20 (wav_1 hac c_50 (if_neg n_31)) (by omega) hx_87.1), ac_8b hac c_50 him, by omega⟩ (by omega) (hP.subm [0, 1, 2, 3, 4] rfl) (hD.sub [0, 1, 2, 3, 4] rfl rfl) hS (lv_sub hl [4, 5, 6, 2, 1, 0] rfl)
          · have n_31 : (i + 5) = (n) := (nI_eq (a := i + 5) (b := n) (by omega) (by omega)).mp c_31
            refine lv_aload_n hx hb d_Dr_curvesInTurn_34 rfl (lv_at hl 0 rfl) ?_
            refine lv_iload hx hb d_Dr_curvesInTurn_35 (lv_at hl 5 rfl) ?_
            refine lv_iconst (v := 4) hx hb d_Dr_curvesInTurn_37 (by decide) ?_
            refine lv_iadd hx hb d_Dr_curvesInTurn_38 ?_
            refine lv_tv (y := nI (i + 4)) (nI_add i 4) ?_
            refine roV (As := [.int (nI (i + 4))]) (rest := []) ⟨hx, hb, hml, hown, hts⟩ gd_good (c_Va_at l D cB cI cJ v va vb n fa (nI (i + 4)) (by omega)) cal_Va_at ml_Dr_47 ⟨Nat.le_of_ble_eq_true rfl, Nat.le_of_ble_eq_true rfl⟩ hZ hP hD (isC := [0, 1]) ⟨rfl, rfl⟩ 0 (ci := 3) rfl rfl rfl rfl hl.1 rfl (Nat.le_of_ble_eq_true rfl) d_Dr_curvesInTurn_39 ⟨Nat.le_of_ble_eq_true rfl, Nat.le_of_ble_eq_true rfl⟩ (fun v hv => ?_)
            have hv : v = .int (trunc n fa (i + 4)) := hv.trans (congrArg Value.int (atV_N (j := i + 4) (by omega) (by omega)))
            subst hv
            refine lv_goto (tgt := 46) hx hb d_Dr_curvesInTurn_42 (by decide) ?_
            refine lv_istore (lv' := [(6, .int (trunc n fa (i + 4))), (0, .ref v), (1, .int z), (2, .ref u), (3, .int rm), (4, .int ac), (5, .int (nI i))]) hx hb d_Dr_curvesInTurn_46 hl (by decide) rfl (fun ls hl => ?_)
            refine lv_iload hx hb d_Dr_curvesInTurn_48 (lv_at hl 5 rfl) ?_
            refine lv_if_eq (tgt := 93) hx hb d_Dr_curvesInTurn_50 (by decide) (fun c_50 => ?_) (fun c_50 => ?_)
            · refine lv_aload_n hx hb d_Dr_curvesInTurn_93 rfl (lv_at hl 3 rfl) ?_
              refine lv_iconst (v := 0) hx hb d_Dr_curvesInTurn_94 (by decide) ?_
              refine lv_aload_n hx hb d_Dr_curvesInTurn_95 rfl (lv_at hl 1 rfl) ?_
              refine lv_iload hx hb d_Dr_curvesInTurn_96 (lv_at hl 6 rfl) ?_
              refine roV (As := [.int (nI i)]) (rest := [.int 0, .ref u]) ⟨hx, hb, hml, hown, hts⟩ gd_good (c_Va_at l D cB cI cJ v va vb n fa (nI i) (by omega)) cal_Va_at ml_Dr_47 ⟨Nat.le_of_ble_eq_true rfl, Nat.le_of_ble_eq_true rfl⟩ hZ hP hD (isC := [0, 1]) ⟨rfl, rfl⟩ 0 (ci := 3) rfl rfl rfl rfl hl.1 rfl (Nat.le_of_ble_eq_true rfl) d_Dr_curvesInTurn_98 ⟨Nat.le_of_ble_eq_true rfl, Nat.le_of_ble_eq_true rfl⟩ (fun v hv => ?_)
              have hv : v = .int (trunc n fa i) := hv.trans (congrArg Value.int (atV_N (j := i) (by omega) (by omega)))
              subst hv
              refine lv_aload_n hx hb d_Dr_curvesInTurn_101 rfl (lv_at hl 1 rfl) ?_
              refine lv_iload hx hb d_Dr_curvesInTurn_102 (lv_at hl 6 rfl) ?_
              refine lv_iconst (v := 1) hx hb d_Dr_curvesInTurn_104 (by decide) ?_
              refine lv_iadd hx hb d_Dr_curvesInTurn_105 ?_
              refine lv_tv (y := nI (i + 1)) (nI_add i 1) ?_
              refine roV (As := [.int (nI (i + 1))]) (rest := [.int (trunc n fa i), .int 0, .ref u]) ⟨hx, hb, hml, hown, hts⟩ gd_good (c_Va_at l D cB cI cJ v va vb n fa (nI (i + 1)) (by omega)) cal_Va_at ml_Dr_47 ⟨Nat.le_of_ble_eq_true rfl, Nat.le_of_ble_eq_true rfl⟩ hZ hP hD (isC := [0, 1]) ⟨rfl, rfl⟩ 0 (ci := 3) rfl rfl rfl rfl hl.1 rfl (Nat.le_of_ble_eq_true rfl) d_Dr_curvesInTurn_106 ⟨Nat.le_of_ble_eq_true rfl, Nat.le_of_ble_eq_true rfl⟩ (fun v hv => ?_)
              have hv : v = .int (trunc n fa (i + 1)) := hv.trans (congrArg Value.int (atV_N (j := i + 1) (by omega) (by omega)))
              subst hv
              refine lv_aload_n hx hb d_Dr_curvesInTurn_109 rfl (lv_at hl 1 rfl) ?_
              refine lv_iload hx hb d_Dr_curvesInTurn_110 (lv_at hl 6 rfl) ?_
              refine lv_iconst (v := 2) hx hb d_Dr_curvesInTurn_112 (by decide) ?_
              refine lv_iadd hx hb d_Dr_curvesInTurn_113 ?_
              refine lv_tv (y := nI (i + 2)) (nI_add i 2) ?_
              refine roV (As := [.int (nI (i + 2))]) (rest := [.int (trunc n fa (i + 1)), .int (trunc n fa i), .int 0, .ref u]) ⟨hx, hb, hml, hown, hts⟩ gd_good (c_Va_at l D cB cI cJ v va vb n fa (nI (i + 2)) (by omega)) cal_Va_at ml_Dr_47 ⟨Nat.le_of_ble_eq_true rfl, Nat.le_of_ble_eq_true rfl⟩ hZ hP hD (isC := [0, 1]) ⟨rfl, rfl⟩ 0 (ci := 3) rfl rfl rfl rfl hl.1 rfl (Nat.le_of_ble_eq_true rfl) d_Dr_curvesInTurn_114 ⟨Nat.le_of_ble_eq_true rfl, Nat.le_of_ble_eq_true rfl⟩ (fun v hv => ?_)
              have hv : v = .int (trunc n fa (i + 2)) := hv.trans (congrArg Value.int (atV_N (j := i + 2) (by omega) (by omega)))
              subst hv
              refine lv_aload_n hx hb d_Dr_curvesInTurn_117 rfl (lv_at hl 1 rfl) ?_
              refine lv_iload hx hb d_Dr_curvesInTurn_118 (lv_at hl 6 rfl) ?_
              refine lv_iconst (v := 3) hx hb d_Dr_curvesInTurn_120 (by decide) ?_
              refine lv_iadd hx hb d_Dr_curvesInTurn_121 ?_
              refine lv_tv (y := nI (i + 3)) (nI_add i 3) ?_
              refine roV (As := [.int (nI (i + 3))]) (rest := [.int (trunc n fa (i + 2)), .int (trunc n fa (i + 1)), .int (trunc n fa i), .int 0, .ref u]) ⟨hx, hb, hml, hown, hts⟩ gd_good (c_Va_at l D cB cI cJ v va vb n fa (nI (i + 3)) (by omega)) cal_Va_at ml_Dr_47 ⟨Nat.le_of_ble_eq_true rfl, Nat.le_of_ble_eq_true rfl⟩ hZ hP hD (isC := [0, 1]) ⟨rfl, rfl⟩ 0 (ci := 3) rfl rfl rfl rfl hl.1 rfl (Nat.le_of_ble_eq_true rfl) d_Dr_curvesInTurn_122 ⟨Nat.le_of_ble_eq_true rfl, Nat.le_of_ble_eq_true rfl⟩ (fun v hv => ?_)
              have hv : v = .int (trunc n fa (i + 3)) := hv.trans (congrArg Value.int (atV_N (j := i + 3) (by omega) (by omega)))
              subst hv
              refine lv_iload hx hb d_Dr_curvesInTurn_125 (lv_at hl 0 rfl) ?_
              have hC : Cut [(v, .inr (3, [.ref va, .ref vb, .int (nI n)])), (va, .inl (cI, 48, .inl fa)), (vb, .inl (cI, 48, .inl fb)), (u, .inr (4, [.ref ra, .int (nI mL), .int xL, .int yL])), (ra, .inl (cI, oc, .inl foL))] [(u, .inr (4, [.ref ra, .int (nI mL), .int xL, .int yL])), (ra, .inl (cI, oc, .inl foL))] [(v, .inr (3, [.ref va, .ref vb, .int (nI n)])), (va, .inl (cI, 48, .inl fa)), (vb, .inl (cI, 48, .inl fb))] [3, 4] [0, 1, 2] := ⟨rfl, rfl, rfl, rfl, by decide⟩
              refine goI0 (trV (As := [.int 0, .int (trunc n fa i), .int (trunc n fa (i + 1)), .int (trunc n fa (i + 2)), .int (trunc n fa (i + 3)), .int (trunc n fa (i + 4))]) (rest := []) ⟨hx, hb, hml, hown, hts⟩ gd_good (c_Ou_curve l D cB cI cJ u ra oc mL xL yL foL 0 (trunc n fa i) (trunc n fa (i + 1)) (trunc n fa (i + 2)) (trunc n fa (i + 3)) (trunc n fa (i + 4)) (by omega) (fun _ => by omega)) cal_Ou_curve ml_Dr_57 ⟨Nat.le_of_ble_eq_true rfl, Nat.le_of_ble_eq_true rfl⟩ hZ hP hD hC 3 (ci := 4) rfl rfl rfl rfl hl.1 rfl (Nat.le_of_ble_eq_true rfl) d_Dr_curvesInTurn_127 ⟨Nat.le_of_ble_eq_true rfl, Nat.le_of_ble_eq_true rfl⟩) hZ hP hD hS hC (fun r_127 w1 H locs hq hP hD hS => ?_)
              obtain ⟨m_127, x_127, y_127, fo_127, rfl, hv0_127, hx_127, hz_127⟩ := hq
              have hP : va_P D classes [(v, .inr (3, [.ref va, .ref vb, .int (nI n)])), (va, .inl (cI, 48, .inl fa)), (vb, .inl (cI, 48, .inl fb)), (u, .inr (4, [.ref ra, .int (nI m_127), .int x_127, .int y_127])), (ra, .inl (cI, oc, .inl fo_127))] H := hP
              have hD : va_D A_ [(v, .inr (3, [.ref va, .ref vb, .int (nI n)])), (va, .inl (cI, 48, .inl fa)), (vb, .inl (cI, 48, .inl fb)), (u, .inr (4, [.ref ra, .int (nI m_127), .int x_127, .int y_127])), (ra, .inl (cI, oc, .inl fo_127))] := hD
              refine lv_istore_n (lv' := [(3, .int r_127), (6, .int (trunc n fa (i + 4))), (0, .ref v), (1, .int z), (2, .ref u), (4, .int ac), (5, .int (nI i))]) hx hb d_Dr_curvesInTurn_130 rfl hl (by decide) rfl (fun ls hl => ?_)
              refine lv_iload hx hb d_Dr_curvesInTurn_131 (lv_at hl 5 rfl) ?_
              refine lv_if_ne (tgt := 140) hx hb d_Dr_curvesInTurn_133 (by decide) (fun c_133 => absurd c_133 (fun z => z c_50)) (fun c_133 => ?_)
              refine lv_iconst (v := 1) hx hb d_Dr_curvesInTurn_136 (by decide) ?_
              refine lv_goto (tgt := 141) hx hb d_Dr_curvesInTurn_137 (by decide) ?_
              refine lv_istore (lv' := [(4, .int 1), (3, .int r_127), (6, .int (trunc n fa (i + 4))), (0, .ref v), (1, .int z), (2, .ref u), (5, .int (nI i))]) hx hb d_Dr_curvesInTurn_141 hl (by decide) rfl (fun ls hl => ?_)
              refine lv_iinc (v := nI (i + 4)) (lv' := [(5, .int (nI (i + 4))), (4, .int 1), (3, .int r_127), (6, .int (trunc n fa (i + 4))), (0, .ref v), (1, .int z), (2, .ref u)]) hx hb d_Dr_curvesInTurn_143 hl (k := 6) rfl (nI_add i 4) (by decide) rfl (fun ls hl => ?_)
              refine lv_goto (tgt := 8) hx hb d_Dr_curvesInTurn_146 (by decide) ?_
              exact ih_8  (i + 4) r_127 1 m_127 x_127 y_127 fo_127 _ _ _ ⟨by first | decide | assumption, by omega, by omega, (dr_stepC hdr c_20 (wav_0 hac c_50 (if_pos n_31)) (by omega) hx_127.1), ac_8a hac c_50 him, by omega⟩ (by omega) (hP.subm [0, 1, 2, 3, 4] rfl) (hD.sub [0, 1, 2, 3, 4] rfl rfl) hS (lv_sub hl [4, 5, 6, 2, 1, 0] rfl)
            · refine lv_aload_n hx hb d_Dr_curvesInTurn_53 rfl (lv_at hl 3 rfl) ?_
              refine lv_aload_n hx hb d_Dr_curvesInTurn_54 rfl (lv_at hl 1 rfl) ?_
              refine lv_iload hx hb d_Dr_curvesInTurn_55 (lv_at hl 6 rfl) ?_
              refine roV (As := [.int (nI i)]) (rest := [.ref u]) ⟨hx, hb, hml, hown, hts⟩ gd_good (c_Va_at l D cB cI cJ v va vb n fa (nI i) (by omega)) cal_Va_at ml_Dr_47 ⟨Nat.le_of_ble_eq_true rfl, Nat.le_of_ble_eq_true rfl⟩ hZ hP hD (isC := [0, 1]) ⟨rfl, rfl⟩ 0 (ci := 3) rfl rfl rfl rfl hl.1 rfl (Nat.le_of_ble_eq_true rfl) d_Dr_curvesInTurn_57 ⟨Nat.le_of_ble_eq_true rfl, Nat.le_of_ble_eq_true rfl⟩ (fun v hv => ?_)
              have hv : v = .int (trunc n fa i) := hv.trans (congrArg Value.int (atV_N (j := i) (by omega) (by omega)))
              subst hv
              refine lv_iconst (v := 0) hx hb d_Dr_curvesInTurn_60 (by decide) ?_
              refine lv_aload_n hx hb d_Dr_curvesInTurn_61 rfl (lv_at hl 1 rfl) ?_
              refine lv_iload hx hb d_Dr_curvesInTurn_62 (lv_at hl 6 rfl) ?_
              refine lv_iconst (v := 1) hx hb d_Dr_curvesInTurn_64 (by decide) ?_
              refine lv_iadd hx hb d_Dr_curvesInTurn_65 ?_
              refine lv_tv (y := nI (i + 1)) (nI_add i 1) ?_
              refine roV (As := [.int (nI (i + 1))]) (rest := [.int 0, .int (trunc n fa i), .ref u]) ⟨hx, hb, hml, hown, hts⟩ gd_good (c_Va_at l D cB cI cJ v va vb n fa (nI (i + 1)) (by omega)) cal_Va_at ml_Dr_47 ⟨Nat.le_of_ble_eq_true rfl, Nat.le_of_ble_eq_true rfl⟩ hZ hP hD (isC := [0, 1]) ⟨rfl, rfl⟩ 0 (ci := 3) rfl rfl rfl rfl hl.1 rfl (Nat.le_of_ble_eq_true rfl) d_Dr_curvesInTurn_66 ⟨Nat.le_of_ble_eq_true rfl, Nat.le_of_ble_eq_true rfl⟩ (fun v hv => ?_)
              have hv : v = .int (trunc n fa (i + 1)) := hv.trans (congrArg Value.int (atV_N (j := i + 1) (by omega) (by omega)))
              subst hv
              refine lv_aload_n hx hb d_Dr_curvesInTurn_69 rfl (lv_at hl 1 rfl) ?_
              refine lv_iload hx hb d_Dr_curvesInTurn_70 (lv_at hl 6 rfl) ?_
              refine lv_iconst (v := 2) hx hb d_Dr_curvesInTurn_72 (by decide) ?_
              refine lv_iadd hx hb d_Dr_curvesInTurn_73 ?_
              refine lv_tv (y := nI (i + 2)) (nI_add i 2) ?_
              refine roV (As := [.int (nI (i + 2))]) (rest := [.int (trunc n fa (i + 1)), .int 0, .int (trunc n fa i), .ref u]) ⟨hx, hb, hml, hown, hts⟩ gd_good (c_Va_at l D cB cI cJ v va vb n fa (nI (i + 2)) (by omega)) cal_Va_at ml_Dr_47 ⟨Nat.le_of_ble_eq_true rfl, Nat.le_of_ble_eq_true rfl⟩ hZ hP hD (isC := [0, 1]) ⟨rfl, rfl⟩ 0 (ci := 3) rfl rfl rfl rfl hl.1 rfl (Nat.le_of_ble_eq_true rfl) d_Dr_curvesInTurn_74 ⟨Nat.le_of_ble_eq_true rfl, Nat.le_of_ble_eq_true rfl⟩ (fun v hv => ?_)
              have hv : v = .int (trunc n fa (i + 2)) := hv.trans (congrArg Value.int (atV_N (j := i + 2) (by omega) (by omega)))
              subst hv
              refine lv_iload hx hb d_Dr_curvesInTurn_77 (lv_at hl 0 rfl) ?_
              refine lv_aload_n hx hb d_Dr_curvesInTurn_79 rfl (lv_at hl 1 rfl) ?_
              refine lv_iload hx hb d_Dr_curvesInTurn_80 (lv_at hl 6 rfl) ?_
              refine lv_iconst (v := 3) hx hb d_Dr_curvesInTurn_82 (by decide) ?_
              refine lv_iadd hx hb d_Dr_curvesInTurn_83 ?_
              refine lv_tv (y := nI (i + 3)) (nI_add i 3) ?_
              refine roV (As := [.int (nI (i + 3))]) (rest := [.int (trunc n fa (i + 4)), .int (trunc n fa (i + 2)), .int (trunc n fa (i + 1)), .int 0, .int (trunc n fa i), .ref u]) ⟨hx, hb, hml, hown, hts⟩ gd_good (c_Va_at l D cB cI cJ v va vb n fa (nI (i + 3)) (by omega)) cal_Va_at ml_Dr_47 ⟨Nat.le_of_ble_eq_true rfl, Nat.le_of_ble_eq_true rfl⟩ hZ hP hD (isC := [0, 1]) ⟨rfl, rfl⟩ 0 (ci := 3) rfl rfl rfl rfl hl.1 rfl (Nat.le_of_ble_eq_true rfl) d_Dr_curvesInTurn_84 ⟨Nat.le_of_ble_eq_true rfl, Nat.le_of_ble_eq_true rfl⟩ (fun v hv => ?_)
              have hv : v = .int (trunc n fa (i + 3)) := hv.trans (congrArg Value.int (atV_N (j := i + 3) (by omega) (by omega)))
              subst hv
              have hC : Cut [(v, .inr (3, [.ref va, .ref vb, .int (nI n)])), (va, .inl (cI, 48, .inl fa)), (vb, .inl (cI, 48, .inl fb)), (u, .inr (4, [.ref ra, .int (nI mL), .int xL, .int yL])), (ra, .inl (cI, oc, .inl foL))] [(u, .inr (4, [.ref ra, .int (nI mL), .int xL, .int yL])), (ra, .inl (cI, oc, .inl foL))] [(v, .inr (3, [.ref va, .ref vb, .int (nI n)])), (va, .inl (cI, 48, .inl fa)), (vb, .inl (cI, 48, .inl fb))] [3, 4] [0, 1, 2] := ⟨rfl, rfl, rfl, rfl, by decide⟩
              refine goI0 (trV (As := [.int (trunc n fa i), .int 0, .int (trunc n fa (i + 1)), .int (trunc n fa (i + 2)), .int (trunc n fa (i + 4)), .int (trunc n fa (i + 3))]) (rest := []) ⟨hx, hb, hml, hown, hts⟩ gd_good (c_Ou_curve l D cB cI cJ u ra oc mL xL yL foL (trunc n fa i) 0 (trunc n fa (i + 1)) (trunc n fa (i + 2)) (trunc n fa (i + 4)) (trunc n fa (i + 3)) (by omega) (fun _ => by omega)) cal_Ou_curve ml_Dr_57 ⟨Nat.le_of_ble_eq_true rfl, Nat.le_of_ble_eq_true rfl⟩ hZ hP hD hC 3 (ci := 4) rfl rfl rfl rfl hl.1 rfl (Nat.le_of_ble_eq_true rfl) d_Dr_curvesInTurn_87 ⟨Nat.le_of_ble_eq_true rfl, Nat.le_of_ble_eq_true rfl⟩) hZ hP hD hS hC (fun r_87 w1 H locs hq hP hD hS => ?_)
              obtain ⟨m_87, x_87, y_87, fo_87, rfl, hv0_87, hx_87, hz_87⟩ := hq
              have hP : va_P D classes [(v, .inr (3, [.ref va, .ref vb, .int (nI n)])), (va, .inl (cI, 48, .inl fa)), (vb, .inl (cI, 48, .inl fb)), (u, .inr (4, [.ref ra, .int (nI m_87), .int x_87, .int y_87])), (ra, .inl (cI, oc, .inl fo_87))] H := hP
              have hD : va_D A_ [(v, .inr (3, [.ref va, .ref vb, .int (nI n)])), (va, .inl (cI, 48, .inl fa)), (vb, .inl (cI, 48, .inl fb)), (u, .inr (4, [.ref ra, .int (nI m_87), .int x_87, .int y_87])), (ra, .inl (cI, oc, .inl fo_87))] := hD
              refine lv_goto (tgt := 130) hx hb d_Dr_curvesInTurn_90 (by decide) ?_
              refine lv_istore_n (lv' := [(3, .int r_87), (6, .int (trunc n fa (i + 4))), (0, .ref v), (1, .int z), (2, .ref u), (4, .int ac), (5, .int (nI i))]) hx hb d_Dr_curvesInTurn_130 rfl hl (by decide) rfl (fun ls hl => ?_)
              refine lv_iload hx hb d_Dr_curvesInTurn_131 (lv_at hl 5 rfl) ?_
              refine lv_if_ne (tgt := 140) hx hb d_Dr_curvesInTurn_133 (by decide) (fun c_133 => ?_) (fun c_133 => absurd c_133 c_50)
              refine lv_iconst (v := 0) hx hb d_Dr_curvesInTurn_140 (by decide) ?_
              refine lv_istore (lv' := [(4, .int 0), (3, .int r_87), (6, .int (trunc n fa (i + 4))), (0, .ref v), (1, .int z), (2, .ref u), (5, .int (nI i))]) hx hb d_Dr_curvesInTurn_141 hl (by decide) rfl (fun ls hl => ?_)
              refine lv_iinc (v := nI (i + 4)) (lv' := [(5, .int (nI (i + 4))), (4, .int 0), (3, .int r_87), (6, .int (trunc n fa (i + 4))), (0, .ref v), (1, .int z), (2, .ref u)]) hx hb d_Dr_curvesInTurn_143 hl (k := 6) rfl (nI_add i 4) (by decide) rfl (fun ls hl => ?_)
              refine lv_goto (tgt := 8) hx hb d_Dr_curvesInTurn_146 (by decide) ?_
              exact ih_8  (i + 4) r_87 0 m_87 x_87 y_87 fo_87 _ _ _ ⟨by first | decide | assumption, by omega, by omega, (dr_stepC hdr c_20 (wav_1 hac c_50 (if_pos n_31)) (by omega) hx_87.1), ac_8b hac c_50 him, by omega⟩ (by omega) (hP.subm [0, 1, 2, 3, 4] rfl) (hD.sub [0, 1, 2, 3, 4] rfl rfl) hS (lv_sub hl [4, 5, 6, 2, 1, 0] rfl)
  exact lp_8 _ 0 1 z m x y fo _ _ _ ⟨by first | decide | assumption, by omega, by omega, (zB_1 _), ac_ini hzb, by omega⟩ (Nat.lt_succ_self _) (hP.subm [0, 1, 2, 3, 4] rfl) (hD.sub [0, 1, 2, 3, 4] rfl rfl) hS (lv_sub hl [3, 4, 5, 2, 1, 0] rfl)
set_option maxHeartbeats 1000000 in
set_option maxRecDepth 100000 in
theorem c_Dr_curvesAcross (l : Launch) (D : va_G) (cB cI cJ : ClassId) (v va vb u ra oc : Nat) (n : Nat) (fa : Nat → Int32) (fb : Nat → Int32) (m : Nat) (x : Int32) (y : Int32) (fo : Nat → Int32)  (hiVa : n ≤ 48) (hiOu : m ≤ 4000 ∧ 7 * m ≤ oc ∧ 336 ≤ oc ∧ oc ≤ 28000) (hroom : 7 * min 4000 (m + n) ≤ oc) : Tr l D classes (TY cB cI cJ) gd_tbl nx_tbl y_Dr_curvesAcross b_Dr_curvesAcross 6 (some .boolean) ({ frames := 2, cells := 0, slots := 0, locals := 58 }) [.ref v, .ref u] [(v, .inr (3, [.ref va, .ref vb, .int (nI n)])), (va, .inl (cI, 48, .inl fa)), (vb, .inl (cI, 48, .inl fb)), (u, .inr (4, [.ref ra, .int (nI m), .int x, .int y])), (ra, .inl (cI, oc, .inl fo))] (pI0 (fun r w => ∃ (m' : Nat) (x' : Int32) (y' : Int32) (fo' : Nat → Int32), w = [(v, .inr (3, [.ref va, .ref vb, .int (nI n)])), (va, .inl (cI, 48, .inl fa)), (vb, .inl (cI, 48, .inl fb)), (u, .inr (4, [.ref ra, .int (nI m'), .int x', .int y'])), (ra, .inl (cI, oc, .inl fo'))] ∧ (m' ≤ 4000 ∧ 7 * m' ≤ oc ∧ 336 ≤ oc ∧ oc ≤ 28000) ∧ (zR r (uS m' x' y' fo') = drawAll (uS m x y fo) (cmdsL (acrC (trunc n fa)) 4 (n % 4) (n / 4))) ∧ (r = 0 ∨ r = 1))) := by
  refine Tr.intro (by decide +kernel) nx_ok (Nat.le_of_ble_eq_true rfl) ?_
  intro p_ e_ s_ m_ args_ below_ meth_ c_ A_ ls hx hb hml hown hts hr hlk hnm hZ hP hD hS hl
  have hl : lv_has ls 6 [(0, .ref v), (1, .ref u)] := hl
  refine lv_iconst (v := 1) hx hb d_Dr_curvesAcross_0 (by decide) ?_
  refine lv_istore_n (lv' := [(2, .int 1), (0, .ref v), (1, .ref u)]) hx hb d_Dr_curvesAcross_1 rfl hl (by decide) rfl (fun ls hl => ?_)
  refine lv_aload_n hx hb d_Dr_curvesAcross_2 rfl (lv_at hl 1 rfl) ?_
  refine roV (As := []) (rest := []) ⟨hx, hb, hml, hown, hts⟩ gd_good (c_Va_size l D cB cI cJ v va vb n) cal_Va_size ml_Dr_7 ⟨Nat.le_of_ble_eq_true rfl, Nat.le_of_ble_eq_true rfl⟩ hZ hP hD (isC := [0]) ⟨rfl, rfl⟩ 0 (ci := 3) rfl rfl rfl rfl hl.1 rfl (Nat.le_of_ble_eq_true rfl) d_Dr_curvesAcross_3 ⟨Nat.le_of_ble_eq_true rfl, Nat.le_of_ble_eq_true rfl⟩ (fun v hv => ?_)
  subst hv
  refine lv_iconst (v := 4) hx hb d_Dr_curvesAcross_6 (by decide) ?_
  refine lv_irem hx hb d_Dr_curvesAcross_7 (by decide) ?_
  refine lv_tv (y := nI (n % 4)) (pk_rem (a := n) (d := 4) (by omega) (by omega) (by omega)) ?_
  refine lv_istore_n (lv' := [(3, .int (nI (n % 4))), (2, .int 1), (0, .ref v), (1, .ref u)]) hx hb d_Dr_curvesAcross_8 rfl hl (by decide) rfl (fun ls hl => ?_)
  refine lv_iload_n hx hb d_Dr_curvesAcross_9 rfl (lv_at hl 0 rfl) ?_
  refine lv_istore (lv' := [(4, .int (nI (n % 4))), (3, .int (nI (n % 4))), (2, .int 1), (0, .ref v), (1, .ref u)]) hx hb d_Dr_curvesAcross_10 hl (by decide) rfl (fun ls hl => ?_)
  have lp_12 : ∀ (fu : Nat) (i : Nat) (rm : Int32) (mL : Nat) (xL : Int32) (yL : Int32) (foL : Nat → Int32) (H : Heap) (locs : List Loc) (ls : Array Slot), ((rm = 0 ∨ rm = 1) ∧ (mL ≤ 4000 ∧ 7 * mL ≤ oc ∧ 336 ≤ oc ∧ oc ≤ 28000) ∧ (i ≤ 60 ∧ n % 4 ≤ i ∧ mL + n % 4 ≤ m + i) ∧ zB7 rm (drawAll (uS mL xL yL foL) (cmdsL (acrC (trunc n fa)) 4 i ((n - i) / 4))) = drawAll (uS m x y fo) (cmdsL (acrC (trunc n fa)) 4 (n % 4) ((n - (n % 4)) / 4)) ∧ i % 4 = n % 4) → (70 - i) < fu → va_P D classes [(v, .inr (3, [.ref va, .ref vb, .int (nI n)])), (va, .inl (cI, 48, .inl fa)), (vb, .inl (cI, 48, .inl fb)), (u, .inr (4, [.ref ra, .int (nI mL), .int xL, .int yL])), (ra, .inl (cI, oc, .inl foL))] H → va_D A_ [(v, .inr (3, [.ref va, .ref vb, .int (nI n)])), (va, .inl (cI, 48, .inl fa)), (vb, .inl (cI, 48, .inl fb)), (u, .inr (4, [.ref ra, .int (nI mL), .int xL, .int yL])), (ra, .inl (cI, oc, .inl foL))] → va_S A_ s_.heap H locs → lv_has ls 6 [(0, .ref v), (1, .ref u), (2, .int rm), (3, .int (nI (n % 4))), (4, .int (nI i))] → W p_ l e_ ({ frames := 2, cells := 0, slots := 0, locals := 58 }) s_ m_ args_ below_ meth_ c_ H locs (0) (0) (MQT below_ D classes A_ (pI0 (fun r w => ∃ (m' : Nat) (x' : Int32) (y' : Int32) (fo' : Nat → Int32), w = [(v, .inr (3, [.ref va, .ref vb, .int (nI n)])), (va, .inl (cI, 48, .inl fa)), (vb, .inl (cI, 48, .inl fb)), (u, .inr (4, [.ref ra, .int (nI m'), .int x', .int y'])), (ra, .inl (cI, oc, .inl fo'))] ∧ (m' ≤ 4000 ∧ 7 * m' ≤ oc ∧ 336 ≤ oc ∧ oc ≤ 28000) ∧ (zR r (uS m' x' y' fo') = drawAll (uS m x y fo) (cmdsL (acrC (trunc n fa)) 4 (n % 4) (n / 4))) ∧ (r = 0 ∨ r = 1))) s_) (F0 m_ 12 ls []) := by
    intro fu
    induction fu with
    | zero => intro i rm mL xL yL foL H locs ls hinv hfu; exact absurd hfu (Nat.not_lt_zero _)
    | succ fu ih_12 =>
      intro i rm mL xL yL foL H locs ls hinv hfu hP hD hS hl
      obtain ⟨hrm, hou, hib, hdr, him⟩ := hinv
      refine lv_iload hx hb d_Dr_curvesAcross_12 (lv_at hl 4 rfl) ?_
      refine lv_iconst (v := 4) hx hb d_Dr_curvesAcross_14 (by decide) ?_
      refine lv_iadd hx hb d_Dr_curvesAcross_15 ?_
      refine lv_tv (y := nI (i + 4)) (nI_add i 4) ?_
      refine lv_aload_n hx hb d_Dr_curvesAcross_16 rfl (lv_at hl 0 rfl) ?_
      refine roV (As := []) (rest := [.int (nI (i + 4))]) ⟨hx, hb, hml, hown, hts⟩ gd_good (c_Va_size l D cB cI cJ v va vb n) cal_Va_size ml_Dr_7 ⟨Nat.le_of_ble_eq_true rfl, Nat.le_of_ble_eq_true rfl⟩ hZ hP hD (isC := [0]) ⟨rfl, rfl⟩ 0 (ci := 3) rfl rfl rfl rfl hl.1 rfl (Nat.le_of_ble_eq_true rfl) d_Dr_curvesAcross_17 ⟨Nat.le_of_ble_eq_true rfl, Nat.le_of_ble_eq_true rfl⟩ (fun v hv => ?_)
      subst hv
      refine lv_icmp_gt (tgt := 93) hx hb d_Dr_curvesAcross_20 (by decide) (fun c_20 => ?_) (fun c_20 => ?_)
      · have n_20 : (n) < (i + 4) := (nI_ltI (a := n) (b := i + 4) (by omega) (by omega)).mp c_20
        refine lv_iload_n hx hb d_Dr_curvesAcross_93 rfl (lv_at hl 2 rfl) ?_
        exact t_zret hx hb hr hlk (by first | decide | exact nar01 (by assumption)) d_Dr_curvesAcross_94 (hP.subm (ws' := [(v, .inr (3, [.ref va, .ref vb, .int (nI n)])), (va, .inl (cI, 48, .inl fa)), (vb, .inl (cI, 48, .inl fb)), (u, .inr (4, [.ref ra, .int (nI mL), .int xL, .int yL])), (ra, .inl (cI, oc, .inl foL))]) [0, 1, 2, 3, 4] rfl) (hD.sub (ws' := [(v, .inr (3, [.ref va, .ref vb, .int (nI n)])), (va, .inl (cI, 48, .inl fa)), (vb, .inl (cI, 48, .inl fb)), (u, .inr (4, [.ref ra, .int (nI mL), .int xL, .int yL])), (ra, .inl (cI, oc, .inl foL))]) [0, 1, 2, 3, 4] rfl rfl) hS ⟨_, rfl, rfl, rfl, _, _, _, _, rfl, (by omega), (dr_end (Or.inr (by omega)) (hdr.trans (by rw [(by omega : (n - n % 4) / 4 = n / 4)]))), (by first | decide | assumption)⟩
      · have n_20 : ¬ (n) < (i + 4) := fun z => c_20 ((nI_ltI (a := n) (b := i + 4) (by omega) (by omega)).mpr z)
        refine lv_iload_n hx hb d_Dr_curvesAcross_23 rfl (lv_at hl 2 rfl) ?_
        refine lv_if_eq (tgt := 93) hx hb d_Dr_curvesAcross_24 (by decide) (fun c_24 => ?_) (fun c_24 => ?_)
        · refine lv_iload_n hx hb d_Dr_curvesAcross_93 rfl (lv_at hl 2 rfl) ?_
          exact t_zret hx hb hr hlk (by first | decide | exact nar01 (by assumption)) d_Dr_curvesAcross_94 (hP.subm (ws' := [(v, .inr (3, [.ref va, .ref vb, .int (nI n)])), (va, .inl (cI, 48, .inl fa)), (vb, .inl (cI, 48, .inl fb)), (u, .inr (4, [.ref ra, .int (nI mL), .int xL, .int yL])), (ra, .inl (cI, oc, .inl foL))]) [0, 1, 2, 3, 4] rfl) (hD.sub (ws' := [(v, .inr (3, [.ref va, .ref vb, .int (nI n)])), (va, .inl (cI, 48, .inl fa)), (vb, .inl (cI, 48, .inl fb)), (u, .inr (4, [.ref ra, .int (nI mL), .int xL, .int yL])), (ra, .inl (cI, oc, .inl foL))]) [0, 1, 2, 3, 4] rfl rfl) hS ⟨_, rfl, rfl, rfl, _, _, _, _, rfl, (by omega), (dr_end (Or.inl c_24) (hdr.trans (by rw [(by omega : (n - n % 4) / 4 = n / 4)]))), (by first | decide | assumption)⟩
        · refine lv_iload_n hx hb d_Dr_curvesAcross_27 rfl (lv_at hl 3 rfl) ?_
          refine lv_iconst (v := 1) hx hb d_Dr_curvesAcross_28 (by decide) ?_
          refine lv_icmp_ne (tgt := 46) hx hb d_Dr_curvesAcross_29 (by decide) (fun c_29 => ?_) (fun c_29 => ?_)
          · have n_29 : ¬ (n % 4) = (1) := fun z => c_29 ((nI_eq (a := n % 4) (b := 1) (by omega) (by omega)).mpr z)
            refine lv_iconst (v := 0) hx hb d_Dr_curvesAcross_46 (by decide) ?_
            refine lv_istore (lv' := [(5, .int 0), (0, .ref v), (1, .ref u), (2, .int rm), (3, .int (nI (n % 4))), (4, .int (nI i))]) hx hb d_Dr_curvesAcross_47 hl (by decide) rfl (fun ls hl => ?_)
            refine lv_aload_n hx hb d_Dr_curvesAcross_49 rfl (lv_at hl 2 rfl) ?_
            refine lv_aload_n hx hb d_Dr_curvesAcross_50 rfl (lv_at hl 1 rfl) ?_
            refine lv_iload hx hb d_Dr_curvesAcross_51 (lv_at hl 5 rfl) ?_
            refine roV (As := [.int (nI i)]) (rest := [.ref u]) ⟨hx, hb, hml, hown, hts⟩ gd_good (c_Va_at l D cB cI cJ v va vb n fa (nI i) (by omega)) cal_Va_at ml_Dr_47 ⟨Nat.le_of_ble_eq_true rfl, Nat.le_of_ble_eq_true rfl⟩ hZ hP hD (isC := [0, 1]) ⟨rfl, rfl⟩ 0 (ci := 3) rfl rfl rfl rfl hl.1 rfl (Nat.le_of_ble_eq_true rfl) d_Dr_curvesAcross_53 ⟨Nat.le_of_ble_eq_true rfl, Nat.le_of_ble_eq_true rfl⟩ (fun v hv => ?_)
            have hv : v = .int (trunc n fa i) := hv.trans (congrArg Value.int (atV_N (j := i) (by omega) (by omega)))
            subst hv
            refine lv_iload hx hb d_Dr_curvesAcross_56 (lv_at hl 0 rfl) ?_
            refine lv_aload_n hx hb d_Dr_curvesAcross_58 rfl (lv_at hl 1 rfl) ?_
            refine lv_iload hx hb d_Dr_curvesAcross_59 (lv_at hl 5 rfl) ?_
            refine lv_iconst (v := 1) hx hb d_Dr_curvesAcross_61 (by decide) ?_
            refine lv_iadd hx hb d_Dr_curvesAcross_62 ?_
            refine lv_tv (y := nI (i + 1)) (nI_add i 1) ?_
            refine roV (As := [.int (nI (i + 1))]) (rest := [.int 0, .int (trunc n fa i), .ref u]) ⟨hx, hb, hml, hown, hts⟩ gd_good (c_Va_at l D cB cI cJ v va vb n fa (nI (i + 1)) (by omega)) cal_Va_at ml_Dr_47 ⟨Nat.le_of_ble_eq_true rfl, Nat.le_of_ble_eq_true rfl⟩ hZ hP hD (isC := [0, 1]) ⟨rfl, rfl⟩ 0 (ci := 3) rfl rfl rfl rfl hl.1 rfl (Nat.le_of_ble_eq_true rfl) d_Dr_curvesAcross_63 ⟨Nat.le_of_ble_eq_true rfl, Nat.le_of_ble_eq_true rfl⟩ (fun v hv => ?_)
            have hv : v = .int (trunc n fa (i + 1)) := hv.trans (congrArg Value.int (atV_N (j := i + 1) (by omega) (by omega)))
            subst hv
            refine lv_aload_n hx hb d_Dr_curvesAcross_66 rfl (lv_at hl 1 rfl) ?_
            refine lv_iload hx hb d_Dr_curvesAcross_67 (lv_at hl 5 rfl) ?_
            refine lv_iconst (v := 2) hx hb d_Dr_curvesAcross_69 (by decide) ?_
            refine lv_iadd hx hb d_Dr_curvesAcross_70 ?_
            refine lv_tv (y := nI (i + 2)) (nI_add i 2) ?_
            refine roV (As := [.int (nI (i + 2))]) (rest := [.int (trunc n fa (i + 1)), .int 0, .int (trunc n fa i), .ref u]) ⟨hx, hb, hml, hown, hts⟩ gd_good (c_Va_at l D cB cI cJ v va vb n fa (nI (i + 2)) (by omega)) cal_Va_at ml_Dr_47 ⟨Nat.le_of_ble_eq_true rfl, Nat.le_of_ble_eq_true rfl⟩ hZ hP hD (isC := [0, 1]) ⟨rfl, rfl⟩ 0 (ci := 3) rfl rfl rfl rfl hl.1 rfl (Nat.le_of_ble_eq_true rfl) d_Dr_curvesAcross_71 ⟨Nat.le_of_ble_eq_true rfl, Nat.le_of_ble_eq_true rfl⟩ (fun v hv => ?_)
            have hv : v = .int (trunc n fa (i + 2)) := hv.trans (congrArg Value.int (atV_N (j := i + 2) (by omega) (by omega)))
            subst hv
            refine lv_aload_n hx hb d_Dr_curvesAcross_74 rfl (lv_at hl 1 rfl) ?_
            refine lv_iload hx hb d_Dr_curvesAcross_75 (lv_at hl 5 rfl) ?_
            refine lv_iconst (v := 3) hx hb d_Dr_curvesAcross_77 (by decide) ?_
            refine lv_iadd hx hb d_Dr_curvesAcross_78 ?_
            refine lv_tv (y := nI (i + 3)) (nI_add i 3) ?_
            refine roV (As := [.int (nI (i + 3))]) (rest := [.int (trunc n fa (i + 2)), .int (trunc n fa (i + 1)), .int 0, .int (trunc n fa i), .ref u]) ⟨hx, hb, hml, hown, hts⟩ gd_good (c_Va_at l D cB cI cJ v va vb n fa (nI (i + 3)) (by omega)) cal_Va_at ml_Dr_47 ⟨Nat.le_of_ble_eq_true rfl, Nat.le_of_ble_eq_true rfl⟩ hZ hP hD (isC := [0, 1]) ⟨rfl, rfl⟩ 0 (ci := 3) rfl rfl rfl rfl hl.1 rfl (Nat.le_of_ble_eq_true rfl) d_Dr_curvesAcross_79 ⟨Nat.le_of_ble_eq_true rfl, Nat.le_of_ble_eq_true rfl⟩ (fun v hv => ?_)
            have hv : v = .int (trunc n fa (i + 3)) := hv.trans (congrArg Value.int (atV_N (j := i + 3) (by omega) (by omega)))
            subst hv
            refine lv_iconst (v := 0) hx hb d_Dr_curvesAcross_82 (by decide) ?_
            have hC : Cut [(v, .inr (3, [.ref va, .ref vb, .int (nI n)])), (va, .inl (cI, 48, .inl fa)), (vb, .inl (cI, 48, .inl fb)), (u, .inr (4, [.ref ra, .int (nI mL), .int xL, .int yL])), (ra, .inl (cI, oc, .inl foL))] [(u, .inr (4, [.ref ra, .int (nI mL), .int xL, .int yL])), (ra, .inl (cI, oc, .inl foL))] [(v, .inr (3, [.ref va, .ref vb, .int (nI n)])), (va, .inl (cI, 48, .inl fa)), (vb, .inl (cI, 48, .inl fb))] [3, 4] [0, 1, 2] := ⟨rfl, rfl, rfl, rfl, by decide⟩
            refine goI0 (trV (As := [.int (trunc n fa i), .int 0, .int (trunc n fa (i + 1)), .int (trunc n fa (i + 2)), .int (trunc n fa (i + 3)), .int 0]) (rest := []) ⟨hx, hb, hml, hown, hts⟩ gd_good (c_Ou_curve l D cB cI cJ u ra oc mL xL yL foL (trunc n fa i) 0 (trunc n fa (i + 1)) (trunc n fa (i + 2)) (trunc n fa (i + 3)) 0 (by omega) (fun _ => by omega)) cal_Ou_curve ml_Dr_57 ⟨Nat.le_of_ble_eq_true rfl, Nat.le_of_ble_eq_true rfl⟩ hZ hP hD hC 3 (ci := 4) rfl rfl rfl rfl hl.1 rfl (Nat.le_of_ble_eq_true rfl) d_Dr_curvesAcross_83 ⟨Nat.le_of_ble_eq_true rfl, Nat.le_of_ble_eq_true rfl⟩) hZ hP hD hS hC (fun r_83 w1 H locs hq hP hD hS => ?_)
            obtain ⟨m_83, x_83, y_83, fo_83, rfl, hv0_83, hx_83, hz_83⟩ := hq
            have hP : va_P D classes [(v, .inr (3, [.ref va, .ref vb, .int (nI n)])), (va, .inl (cI, 48, .inl fa)), (vb, .inl (cI, 48, .inl fb)), (u, .inr (4, [.ref ra, .int (nI m_83), .int x_83, .int y_83])), (ra, .inl (cI, oc, .inl fo_83))] H := hP
            have hD : va_D A_ [(v, .inr (3, [.ref va, .ref vb, .int (nI n)])), (va, .inl (cI, 48, .inl fa)), (vb, .inl (cI, 48, .inl fb)), (u, .inr (4, [.ref ra, .int (nI m_83), .int x_83, .int y_83])), (ra, .inl (cI, oc, .inl fo_83))] := hD
            refine lv_istore_n (lv' := [(2, .int r_83), (5, .int 0), (0, .ref v), (1, .ref u), (3, .int (nI (n % 4))), (4, .int (nI i))]) hx hb d_Dr_curvesAcross_86 rfl hl (by decide) rfl (fun ls hl => ?_)
            refine lv_iinc (v := nI (i + 4)) (lv' := [(4, .int (nI (i + 4))), (2, .int r_83), (5, .int 0), (0, .ref v), (1, .ref u), (3, .int (nI (n % 4)))]) hx hb d_Dr_curvesAcross_87 hl (k := 5) rfl (nI_add i 4) (by decide) rfl (fun ls hl => ?_)
            refine lv_goto (tgt := 12) hx hb d_Dr_curvesAcross_90 (by decide) ?_
            exact ih_12  (i + 4) r_83 m_83 x_83 y_83 fo_83 _ _ _ ⟨by first | decide | assumption, by omega, by omega, (dr_stepC hdr c_24 (acr_c (if_neg (by omega))) (by omega) hx_83.1), by omega⟩ (by omega) (hP.subm [0, 1, 2, 3, 4] rfl) (hD.sub [0, 1, 2, 3, 4] rfl rfl) hS (lv_sub hl [3, 4, 1, 5, 0] rfl)
          · have n_29 : (n % 4) = (1) := (nI_eq (a := n % 4) (b := 1) (by omega) (by omega)).mp c_29
            refine lv_iload hx hb d_Dr_curvesAcross_32 (lv_at hl 4 rfl) ?_
            refine lv_iconst (v := 1) hx hb d_Dr_curvesAcross_34 (by decide) ?_
            refine lv_icmp_ne (tgt := 46) hx hb d_Dr_curvesAcross_35 (by decide) (fun c_35 => ?_) (fun c_35 => ?_)
            · have n_35 : ¬ (i) = (1) := fun z => c_35 ((nI_eq (a := i) (b := 1) (by omega) (by omega)).mpr z)
              refine lv_iconst (v := 0) hx hb d_Dr_curvesAcross_46 (by decide) ?_
              refine lv_istore (lv' := [(5, .int 0), (0, .ref v), (1, .ref u), (2, .int rm), (3, .int (nI (n % 4))), (4, .int (nI i))]) hx hb d_Dr_curvesAcross_47 hl (by decide) rfl (fun ls hl => ?_)
              refine lv_aload_n hx hb d_Dr_curvesAcross_49 rfl (lv_at hl 2 rfl) ?_
              refine lv_aload_n hx hb d_Dr_curvesAcross_50 rfl (lv_at hl 1 rfl) ?_
              refine lv_iload hx hb d_Dr_curvesAcross_51 (lv_at hl 5 rfl) ?_
              refine roV (As := [.int (nI i)]) (rest := [.ref u]) ⟨hx, hb, hml, hown, hts⟩ gd_good (c_Va_at l D cB cI cJ v va vb n fa (nI i) (by omega)) cal_Va_at ml_Dr_47 ⟨Nat.le_of_ble_eq_true rfl, Nat.le_of_ble_eq_true rfl⟩ hZ hP hD (isC := [0, 1]) ⟨rfl, rfl⟩ 0 (ci := 3) rfl rfl rfl rfl hl.1 rfl (Nat.le_of_ble_eq_true rfl) d_Dr_curvesAcross_53 ⟨Nat.le_of_ble_eq_true rfl, Nat.le_of_ble_eq_true rfl⟩ (fun v hv => ?_)
              have hv : v = .int (trunc n fa i) := hv.trans (congrArg Value.int (atV_N (j := i) (by omega) (by omega)))
              subst hv
              refine lv_iload hx hb d_Dr_curvesAcross_56 (lv_at hl 0 rfl) ?_
              refine lv_aload_n hx hb d_Dr_curvesAcross_58 rfl (lv_at hl 1 rfl) ?_
              refine lv_iload hx hb d_Dr_curvesAcross_59 (lv_at hl 5 rfl) ?_
              refine lv_iconst (v := 1) hx hb d_Dr_curvesAcross_61 (by decide) ?_
              refine lv_iadd hx hb d_Dr_curvesAcross_62 ?_
              refine lv_tv (y := nI (i + 1)) (nI_add i 1) ?_
              refine roV (As := [.int (nI (i + 1))]) (rest := [.int 0, .int (trunc n fa i), .ref u]) ⟨hx, hb, hml, hown, hts⟩ gd_good (c_Va_at l D cB cI cJ v va vb n fa (nI (i + 1)) (by omega)) cal_Va_at ml_Dr_47 ⟨Nat.le_of_ble_eq_true rfl, Nat.le_of_ble_eq_true rfl⟩ hZ hP hD (isC := [0, 1]) ⟨rfl, rfl⟩ 0 (ci := 3) rfl rfl rfl rfl hl.1 rfl (Nat.le_of_ble_eq_true rfl) d_Dr_curvesAcross_63 ⟨Nat.le_of_ble_eq_true rfl, Nat.le_of_ble_eq_true rfl⟩ (fun v hv => ?_)
              have hv : v = .int (trunc n fa (i + 1)) := hv.trans (congrArg Value.int (atV_N (j := i + 1) (by omega) (by omega)))
              subst hv
              refine lv_aload_n hx hb d_Dr_curvesAcross_66 rfl (lv_at hl 1 rfl) ?_
              refine lv_iload hx hb d_Dr_curvesAcross_67 (lv_at hl 5 rfl) ?_
              refine lv_iconst (v := 2) hx hb d_Dr_curvesAcross_69 (by decide) ?_
              refine lv_iadd hx hb d_Dr_curvesAcross_70 ?_
              refine lv_tv (y := nI (i + 2)) (nI_add i 2) ?_
              refine roV (As := [.int (nI (i + 2))]) (rest := [.int (trunc n fa (i + 1)), .int 0, .int (trunc n fa i), .ref u]) ⟨hx, hb, hml, hown, hts⟩ gd_good (c_Va_at l D cB cI cJ v va vb n fa (nI (i + 2)) (by omega)) cal_Va_at ml_Dr_47 ⟨Nat.le_of_ble_eq_true rfl, Nat.le_of_ble_eq_true rfl⟩ hZ hP hD (isC := [0, 1]) ⟨rfl, rfl⟩ 0 (ci := 3) rfl rfl rfl rfl hl.1 rfl (Nat.le_of_ble_eq_true rfl) d_Dr_curvesAcross_71 ⟨Nat.le_of_ble_eq_true rfl, Nat.le_of_ble_eq_true rfl⟩ (fun v hv => ?_)
              have hv : v = .int (trunc n fa (i + 2)) := hv.trans (congrArg Value.int (atV_N (j := i + 2) (by omega) (by omega)))
              subst hv
              refine lv_aload_n hx hb d_Dr_curvesAcross_74 rfl (lv_at hl 1 rfl) ?_
              refine lv_iload hx hb d_Dr_curvesAcross_75 (lv_at hl 5 rfl) ?_
              refine lv_iconst (v := 3) hx hb d_Dr_curvesAcross_77 (by decide) ?_
              refine lv_iadd hx hb d_Dr_curvesAcross_78 ?_
              refine lv_tv (y := nI (i + 3)) (nI_add i 3) ?_
              refine roV (As := [.int (nI (i + 3))]) (rest := [.int (trunc n fa (i + 2)), .int (trunc n fa (i + 1)), .int 0, .int (trunc n fa i), .ref u]) ⟨hx, hb, hml, hown, hts⟩ gd_good (c_Va_at l D cB cI cJ v va vb n fa (nI (i + 3)) (by omega)) cal_Va_at ml_Dr_47 ⟨Nat.le_of_ble_eq_true rfl, Nat.le_of_ble_eq_true rfl⟩ hZ hP hD (isC := [0, 1]) ⟨rfl, rfl⟩ 0 (ci := 3) rfl rfl rfl rfl hl.1 rfl (Nat.le_of_ble_eq_true rfl) d_Dr_curvesAcross_79 ⟨Nat.le_of_ble_eq_true rfl, Nat.le_of_ble_eq_true rfl⟩ (fun v hv => ?_)
              have hv : v = .int (trunc n fa (i + 3)) := hv.trans (congrArg Value.int (atV_N (j := i + 3) (by omega) (by omega)))
              subst hv
              refine lv_iconst (v := 0) hx hb d_Dr_curvesAcross_82 (by decide) ?_
              have hC : Cut [(v, .inr (3, [.ref va, .ref vb, .int (nI n)])), (va, .inl (cI, 48, .inl fa)), (vb, .inl (cI, 48, .inl fb)), (u, .inr (4, [.ref ra, .int (nI mL), .int xL, .int yL])), (ra, .inl (cI, oc, .inl foL))] [(u, .inr (4, [.ref ra, .int (nI mL), .int xL, .int yL])), (ra, .inl (cI, oc, .inl foL))] [(v, .inr (3, [.ref va, .ref vb, .int (nI n)])), (va, .inl (cI, 48, .inl fa)), (vb, .inl (cI, 48, .inl fb))] [3, 4] [0, 1, 2] := ⟨rfl, rfl, rfl, rfl, by decide⟩
              refine goI0 (trV (As := [.int (trunc n fa i), .int 0, .int (trunc n fa (i + 1)), .int (trunc n fa (i + 2)), .int (trunc n fa (i + 3)), .int 0]) (rest := []) ⟨hx, hb, hml, hown, hts⟩ gd_good (c_Ou_curve l D cB cI cJ u ra oc mL xL yL foL (trunc n fa i) 0 (trunc n fa (i + 1)) (trunc n fa (i + 2)) (trunc n fa (i + 3)) 0 (by omega) (fun _ => by omega)) cal_Ou_curve ml_Dr_57 ⟨Nat.le_of_ble_eq_true rfl, Nat.le_of_ble_eq_true rfl⟩ hZ hP hD hC 3 (ci := 4) rfl rfl rfl rfl hl.1 rfl (Nat.le_of_ble_eq_true rfl) d_Dr_curvesAcross_83 ⟨Nat.le_of_ble_eq_true rfl, Nat.le_of_ble_eq_true rfl⟩) hZ hP hD hS hC (fun r_83 w1 H locs hq hP hD hS => ?_)
              obtain ⟨m_83, x_83, y_83, fo_83, rfl, hv0_83, hx_83, hz_83⟩ := hq
              have hP : va_P D classes [(v, .inr (3, [.ref va, .ref vb, .int (nI n)])), (va, .inl (cI, 48, .inl fa)), (vb, .inl (cI, 48, .inl fb)), (u, .inr (4, [.ref ra, .int (nI m_83), .int x_83, .int y_83])), (ra, .inl (cI, oc, .inl fo_83))] H := hP
              have hD : va_D A_ [(v, .inr (3, [.ref va, .ref vb, .int (nI n)])), (va, .inl (cI, 48, .inl fa)), (vb, .inl (cI, 48, .inl fb)), (u, .inr (4, [.ref ra, .int (nI m_83), .int x_83, .int y_83])), (ra, .inl (cI, oc, .inl fo_83))] := hD
              refine lv_istore_n (lv' := [(2, .int r_83), (5, .int 0), (0, .ref v), (1, .ref u), (3, .int (nI (n % 4))), (4, .int (nI i))]) hx hb d_Dr_curvesAcross_86 rfl hl (by decide) rfl (fun ls hl => ?_)
              refine lv_iinc (v := nI (i + 4)) (lv' := [(4, .int (nI (i + 4))), (2, .int r_83), (5, .int 0), (0, .ref v), (1, .ref u), (3, .int (nI (n % 4)))]) hx hb d_Dr_curvesAcross_87 hl (k := 5) rfl (nI_add i 4) (by decide) rfl (fun ls hl => ?_)
              refine lv_goto (tgt := 12) hx hb d_Dr_curvesAcross_90 (by decide) ?_
              exact ih_12  (i + 4) r_83 m_83 x_83 y_83 fo_83 _ _ _ ⟨by first | decide | assumption, by omega, by omega, (dr_stepC hdr c_24 (acr_c (if_neg (by omega))) (by omega) hx_83.1), by omega⟩ (by omega) (hP.subm [0, 1, 2, 3, 4] rfl) (hD.sub [0, 1, 2, 3, 4] rfl rfl) hS (lv_sub hl [3, 4, 1, 5, 0] rfl)
            · have n_35 : (i) = (1) := (nI_eq (a := i) (b := 1) (by omega) (by omega)).mp c_35
              refine lv_aload_n hx hb d_Dr_curvesAcross_38 rfl (lv_at hl 0 rfl) ?_
              refine lv_iconst (v := 0) hx hb d_Dr_curvesAcross_39 (by decide) ?_
              refine roV (As := [.int 0]) (rest := []) ⟨hx, hb, hml, hown, hts⟩ gd_good (c_Va_at l D cB cI cJ v va vb n fa 0 (by omega)) cal_Va_at ml_Dr_47 ⟨Nat.le_of_ble_eq_true rfl, Nat.le_of_ble_eq_true rfl⟩ hZ hP hD (isC := [0, 1]) ⟨rfl, rfl⟩ 0 (ci := 3) rfl rfl rfl rfl hl.1 rfl (Nat.le_of_ble_eq_true rfl) d_Dr_curvesAcross_40 ⟨Nat.le_of_ble_eq_true rfl, Nat.le_of_ble_eq_true rfl⟩ (fun v hv => ?_)
              have hv : v = .int (trunc n fa 0) := hv.trans (congrArg Value.int (atV_N (j := 0) (by omega) (by omega)))
              subst hv
              refine lv_goto (tgt := 47) hx hb d_Dr_curvesAcross_43 (by decide) ?_
              refine lv_istore (lv' := [(5, .int (trunc n fa 0)), (0, .ref v), (1, .ref u), (2, .int rm), (3, .int (nI (n % 4))), (4, .int (nI i))]) hx hb d_Dr_curvesAcross_47 hl (by decide) rfl (fun ls hl => ?_)
              refine lv_aload_n hx hb d_Dr_curvesAcross_49 rfl (lv_at hl 2 rfl) ?_
              refine lv_aload_n hx hb d_Dr_curvesAcross_50 rfl (lv_at hl 1 rfl) ?_
              refine lv_iload hx hb d_Dr_curvesAcross_51 (lv_at hl 5 rfl) ?_
              refine roV (As := [.int (nI i)]) (rest := [.ref u]) ⟨hx, hb, hml, hown, hts⟩ gd_good (c_Va_at l D cB cI cJ v va vb n fa (nI i) (by omega)) cal_Va_at ml_Dr_47 ⟨Nat.le_of_ble_eq_true rfl, Nat.le_of_ble_eq_true rfl⟩ hZ hP hD (isC := [0, 1]) ⟨rfl, rfl⟩ 0 (ci := 3) rfl rfl rfl rfl hl.1 rfl (Nat.le_of_ble_eq_true rfl) d_Dr_curvesAcross_53 ⟨Nat.le_of_ble_eq_true rfl, Nat.le_of_ble_eq_true rfl⟩ (fun v hv => ?_)
              have hv : v = .int (trunc n fa i) := hv.trans (congrArg Value.int (atV_N (j := i) (by omega) (by omega)))
              subst hv
              refine lv_iload hx hb d_Dr_curvesAcross_56 (lv_at hl 0 rfl) ?_
              refine lv_aload_n hx hb d_Dr_curvesAcross_58 rfl (lv_at hl 1 rfl) ?_
              refine lv_iload hx hb d_Dr_curvesAcross_59 (lv_at hl 5 rfl) ?_
              refine lv_iconst (v := 1) hx hb d_Dr_curvesAcross_61 (by decide) ?_
              refine lv_iadd hx hb d_Dr_curvesAcross_62 ?_
              refine lv_tv (y := nI (i + 1)) (nI_add i 1) ?_
              refine roV (As := [.int (nI (i + 1))]) (rest := [.int (trunc n fa 0), .int (trunc n fa i), .ref u]) ⟨hx, hb, hml, hown, hts⟩ gd_good (c_Va_at l D cB cI cJ v va vb n fa (nI (i + 1)) (by omega)) cal_Va_at ml_Dr_47 ⟨Nat.le_of_ble_eq_true rfl, Nat.le_of_ble_eq_true rfl⟩ hZ hP hD (isC := [0, 1]) ⟨rfl, rfl⟩ 0 (ci := 3) rfl rfl rfl rfl hl.1 rfl (Nat.le_of_ble_eq_true rfl) d_Dr_curvesAcross_63 ⟨Nat.le_of_ble_eq_true rfl, Nat.le_of_ble_eq_true rfl⟩ (fun v hv => ?_)
              have hv : v = .int (trunc n fa (i + 1)) := hv.trans (congrArg Value.int (atV_N (j := i + 1) (by omega) (by omega)))
              subst hv
              refine lv_aload_n hx hb d_Dr_curvesAcross_66 rfl (lv_at hl 1 rfl) ?_
              refine lv_iload hx hb d_Dr_curvesAcross_67 (lv_at hl 5 rfl) ?_
              refine lv_iconst (v := 2) hx hb d_Dr_curvesAcross_69 (by decide) ?_
              refine lv_iadd hx hb d_Dr_curvesAcross_70 ?_
              refine lv_tv (y := nI (i + 2)) (nI_add i 2) ?_
              refine roV (As := [.int (nI (i + 2))]) (rest := [.int (trunc n fa (i + 1)), .int (trunc n fa 0), .int (trunc n fa i), .ref u]) ⟨hx, hb, hml, hown, hts⟩ gd_good (c_Va_at l D cB cI cJ v va vb n fa (nI (i + 2)) (by omega)) cal_Va_at ml_Dr_47 ⟨Nat.le_of_ble_eq_true rfl, Nat.le_of_ble_eq_true rfl⟩ hZ hP hD (isC := [0, 1]) ⟨rfl, rfl⟩ 0 (ci := 3) rfl rfl rfl rfl hl.1 rfl (Nat.le_of_ble_eq_true rfl) d_Dr_curvesAcross_71 ⟨Nat.le_of_ble_eq_true rfl, Nat.le_of_ble_eq_true rfl⟩ (fun v hv => ?_)
              have hv : v = .int (trunc n fa (i + 2)) := hv.trans (congrArg Value.int (atV_N (j := i + 2) (by omega) (by omega)))
              subst hv
              refine lv_aload_n hx hb d_Dr_curvesAcross_74 rfl (lv_at hl 1 rfl) ?_
              refine lv_iload hx hb d_Dr_curvesAcross_75 (lv_at hl 5 rfl) ?_
              refine lv_iconst (v := 3) hx hb d_Dr_curvesAcross_77 (by decide) ?_
              refine lv_iadd hx hb d_Dr_curvesAcross_78 ?_
              refine lv_tv (y := nI (i + 3)) (nI_add i 3) ?_
              refine roV (As := [.int (nI (i + 3))]) (rest := [.int (trunc n fa (i + 2)), .int (trunc n fa (i + 1)), .int (trunc n fa 0), .int (trunc n fa i), .ref u]) ⟨hx, hb, hml, hown, hts⟩ gd_good (c_Va_at l D cB cI cJ v va vb n fa (nI (i + 3)) (by omega)) cal_Va_at ml_Dr_47 ⟨Nat.le_of_ble_eq_true rfl, Nat.le_of_ble_eq_true rfl⟩ hZ hP hD (isC := [0, 1]) ⟨rfl, rfl⟩ 0 (ci := 3) rfl rfl rfl rfl hl.1 rfl (Nat.le_of_ble_eq_true rfl) d_Dr_curvesAcross_79 ⟨Nat.le_of_ble_eq_true rfl, Nat.le_of_ble_eq_true rfl⟩ (fun v hv => ?_)
              have hv : v = .int (trunc n fa (i + 3)) := hv.trans (congrArg Value.int (atV_N (j := i + 3) (by omega) (by omega)))
              subst hv
              refine lv_iconst (v := 0) hx hb d_Dr_curvesAcross_82 (by decide) ?_
              have hC : Cut [(v, .inr (3, [.ref va, .ref vb, .int (nI n)])), (va, .inl (cI, 48, .inl fa)), (vb, .inl (cI, 48, .inl fb)), (u, .inr (4, [.ref ra, .int (nI mL), .int xL, .int yL])), (ra, .inl (cI, oc, .inl foL))] [(u, .inr (4, [.ref ra, .int (nI mL), .int xL, .int yL])), (ra, .inl (cI, oc, .inl foL))] [(v, .inr (3, [.ref va, .ref vb, .int (nI n)])), (va, .inl (cI, 48, .inl fa)), (vb, .inl (cI, 48, .inl fb))] [3, 4] [0, 1, 2] := ⟨rfl, rfl, rfl, rfl, by decide⟩
              refine goI0 (trV (As := [.int (trunc n fa i), .int (trunc n fa 0), .int (trunc n fa (i + 1)), .int (trunc n fa (i + 2)), .int (trunc n fa (i + 3)), .int 0]) (rest := []) ⟨hx, hb, hml, hown, hts⟩ gd_good (c_Ou_curve l D cB cI cJ u ra oc mL xL yL foL (trunc n fa i) (trunc n fa 0) (trunc n fa (i + 1)) (trunc n fa (i + 2)) (trunc n fa (i + 3)) 0 (by omega) (fun _ => by omega)) cal_Ou_curve ml_Dr_57 ⟨Nat.le_of_ble_eq_true rfl, Nat.le_of_ble_eq_true rfl⟩ hZ hP hD hC 3 (ci := 4) rfl rfl rfl rfl hl.1 rfl (Nat.le_of_ble_eq_true rfl) d_Dr_curvesAcross_83 ⟨Nat.le_of_ble_eq_true rfl, Nat.le_of_ble_eq_true rfl⟩) hZ hP hD hS hC (fun r_83 w1 H locs hq hP hD hS => ?_)
              obtain ⟨m_83, x_83, y_83, fo_83, rfl, hv0_83, hx_83, hz_83⟩ := hq
              have hP : va_P D classes [(v, .inr (3, [.ref va, .ref vb, .int (nI n)])), (va, .inl (cI, 48, .inl fa)), (vb, .inl (cI, 48, .inl fb)), (u, .inr (4, [.ref ra, .int (nI m_83), .int x_83, .int y_83])), (ra, .inl (cI, oc, .inl fo_83))] H := hP
              have hD : va_D A_ [(v, .inr (3, [.ref va, .ref vb, .int (nI n)])), (va, .inl (cI, 48, .inl fa)), (vb, .inl (cI, 48, .inl fb)), (u, .inr (4, [.ref ra, .int (nI m_83), .int x_83, .int y_83])), (ra, .inl (cI, oc, .inl fo_83))] := hD
              refine lv_istore_n (lv' := [(2, .int r_83), (5, .int (trunc n fa 0)), (0, .ref v), (1, .ref u), (3, .int (nI (n % 4))), (4, .int (nI i))]) hx hb d_Dr_curvesAcross_86 rfl hl (by decide) rfl (fun ls hl => ?_)
              refine lv_iinc (v := nI (i + 4)) (lv' := [(4, .int (nI (i + 4))), (2, .int r_83), (5, .int (trunc n fa 0)), (0, .ref v), (1, .ref u), (3, .int (nI (n % 4)))]) hx hb d_Dr_curvesAcross_87 hl (k := 5) rfl (nI_add i 4) (by decide) rfl (fun ls hl => ?_)
              refine lv_goto (tgt := 12) hx hb d_Dr_curvesAcross_90 (by decide) ?_
              exact ih_12  (i + 4) r_83 m_83 x_83 y_83 fo_83 _ _ _ ⟨by first | decide | assumption, by omega, by omega, (dr_stepC hdr c_24 (acr_c (if_pos n_35)) (by omega) hx_83.1), by omega⟩ (by omega) (hP.subm [0, 1, 2, 3, 4] rfl) (hD.sub [0, 1, 2, 3, 4] rfl rfl) hS (lv_sub hl [3, 4, 1, 5, 0] rfl)
  exact lp_12 _ (n % 4) 1 m x y fo _ _ _ ⟨by first | decide | assumption, by omega, by omega, (zB_1 _), by omega⟩ (Nat.lt_succ_self _) (hP.subm [0, 1, 2, 3, 4] rfl) (hD.sub [0, 1, 2, 3, 4] rfl rfl) hS (lv_sub hl [3, 4, 2, 1, 0] rfl)
set_option maxHeartbeats 1000000 in
set_option maxRecDepth 100000 in
theorem c_Dr_curvesUpright (l : Launch) (D : va_G) (cB cI cJ : ClassId) (v va vb u ra oc : Nat) (n : Nat) (fa : Nat → Int32) (fb : Nat → Int32) (m : Nat) (x : Int32) (y : Int32) (fo : Nat → Int32)  (hiVa : n ≤ 48) (hiOu : m ≤ 4000 ∧ 7 * m ≤ oc ∧ 336 ≤ oc ∧ oc ≤ 28000) (hroom : 7 * min 4000 (m + n) ≤ oc) : Tr l D classes (TY cB cI cJ) gd_tbl nx_tbl y_Dr_curvesUpright b_Dr_curvesUpright 6 (some .boolean) ({ frames := 2, cells := 0, slots := 0, locals := 58 }) [.ref v, .ref u] [(v, .inr (3, [.ref va, .ref vb, .int (nI n)])), (va, .inl (cI, 48, .inl fa)), (vb, .inl (cI, 48, .inl fb)), (u, .inr (4, [.ref ra, .int (nI m), .int x, .int y])), (ra, .inl (cI, oc, .inl fo))] (pI0 (fun r w => ∃ (m' : Nat) (x' : Int32) (y' : Int32) (fo' : Nat → Int32), w = [(v, .inr (3, [.ref va, .ref vb, .int (nI n)])), (va, .inl (cI, 48, .inl fa)), (vb, .inl (cI, 48, .inl fb)), (u, .inr (4, [.ref ra, .int (nI m'), .int x', .int y'])), (ra, .inl (cI, oc, .inl fo'))] ∧ (m' ≤ 4000 ∧ 7 * m' ≤ oc ∧ 336 ≤ oc ∧ oc ≤ 28000) ∧ (zR r (uS m' x' y' fo') = drawAll (uS m x y fo) (cmdsL (uprC (trunc n fa)) 4 (n % 4) (n / 4))) ∧ (r = 0 ∨ r = 1))) := by
  refine Tr.intro (by decide +kernel) nx_ok (Nat.le_of_ble_eq_true rfl) ?_
  intro p_ e_ s_ m_ args_ below_ meth_ c_ A_ ls hx hb hml hown hts hr hlk hnm hZ hP hD hS hl
  have hl : lv_has ls 6 [(0, .ref v), (1, .ref u)] := hl
  refine lv_iconst (v := 1) hx hb d_Dr_curvesUpright_0 (by decide) ?_
  refine lv_istore_n (lv' := [(2, .int 1), (0, .ref v), (1, .ref u)]) hx hb d_Dr_curvesUpright_1 rfl hl (by decide) rfl (fun ls hl => ?_)
  refine lv_aload_n hx hb d_Dr_curvesUpright_2 rfl (lv_at hl 1 rfl) ?_
  refine roV (As := []) (rest := []) ⟨hx, hb, hml, hown, hts⟩ gd_good (c_Va_size l D cB cI cJ v va vb n) cal_Va_size ml_Dr_7 ⟨Nat.le_of_ble_eq_true rfl, Nat.le_of_ble_eq_true rfl⟩ hZ hP hD (isC := [0]) ⟨rfl, rfl⟩ 0 (ci := 3) rfl rfl rfl rfl hl.1 rfl (Nat.le_of_ble_eq_true rfl) d_Dr_curvesUpright_3 ⟨Nat.le_of_ble_eq_true rfl, Nat.le_of_ble_eq_true rfl⟩ (fun v hv => ?_)
  subst hv
  refine lv_iconst (v := 4) hx hb d_Dr_curvesUpright_6 (by decide) ?_
  refine lv_irem hx hb d_Dr_curvesUpright_7 (by decide) ?_
  refine lv_tv (y := nI (n % 4)) (pk_rem (a := n) (d := 4) (by omega) (by omega) (by omega)) ?_
  refine lv_istore_n (lv' := [(3, .int (nI (n % 4))), (2, .int 1), (0, .ref v), (1, .ref u)]) hx hb d_Dr_curvesUpright_8 rfl hl (by decide) rfl (fun ls hl => ?_)
  refine lv_iload_n hx hb d_Dr_curvesUpright_9 rfl (lv_at hl 0 rfl) ?_
  refine lv_istore (lv' := [(4, .int (nI (n % 4))), (3, .int (nI (n % 4))), (2, .int 1), (0, .ref v), (1, .ref u)]) hx hb d_Dr_curvesUpright_10 hl (by decide) rfl (fun ls hl => ?_)
  have lp_12 : ∀ (fu : Nat) (i : Nat) (rm : Int32) (mL : Nat) (xL : Int32) (yL : Int32) (foL : Nat → Int32) (H : Heap) (locs : List Loc) (ls : Array Slot), ((rm = 0 ∨ rm = 1) ∧ (mL ≤ 4000 ∧ 7 * mL ≤ oc ∧ 336 ≤ oc ∧ oc ≤ 28000) ∧ (i ≤ 60 ∧ n % 4 ≤ i ∧ mL + n % 4 ≤ m + i) ∧ zB7 rm (drawAll (uS mL xL yL foL) (cmdsL (uprC (trunc n fa)) 4 i ((n - i) / 4))) = drawAll (uS m x y fo) (cmdsL (uprC (trunc n fa)) 4 (n % 4) ((n - (n % 4)) / 4)) ∧ i % 4 = n % 4) → (70 - i) < fu → va_P D classes [(v, .inr (3, [.ref va, .ref vb, .int (nI n)])), (va, .inl (cI, 48, .inl fa)), (vb, .inl (cI, 48, .inl fb)), (u, .inr (4, [.ref ra, .int (nI mL), .int xL, .int yL])), (ra, .inl (cI, oc, .inl foL))] H → va_D A_ [(v, .inr (3, [.ref va, .ref vb, .int (nI n)])), (va, .inl (cI, 48, .inl fa)), (vb, .inl (cI, 48, .inl fb)), (u, .inr (4, [.ref ra, .int (nI mL), .int xL, .int yL])), (ra, .inl (cI, oc, .inl foL))] → va_S A_ s_.heap H locs → lv_has ls 6 [(0, .ref v), (1, .ref u), (2, .int rm), (3, .int (nI (n % 4))), (4, .int (nI i))] → W p_ l e_ ({ frames := 2, cells := 0, slots := 0, locals := 58 }) s_ m_ args_ below_ meth_ c_ H locs (0) (0) (MQT below_ D classes A_ (pI0 (fun r w => ∃ (m' : Nat) (x' : Int32) (y' : Int32) (fo' : Nat → Int32), w = [(v, .inr (3, [.ref va, .ref vb, .int (nI n)])), (va, .inl (cI, 48, .inl fa)), (vb, .inl (cI, 48, .inl fb)), (u, .inr (4, [.ref ra, .int (nI m'), .int x', .int y'])), (ra, .inl (cI, oc, .inl fo'))] ∧ (m' ≤ 4000 ∧ 7 * m' ≤ oc ∧ 336 ≤ oc ∧ oc ≤ 28000) ∧ (zR r (uS m' x' y' fo') = drawAll (uS m x y fo) (cmdsL (uprC (trunc n fa)) 4 (n % 4) (n / 4))) ∧ (r = 0 ∨ r = 1))) s_) (F0 m_ 12 ls []) := by
    intro fu
    induction fu with
    | zero => intro i rm mL xL yL foL H locs ls hinv hfu; exact absurd hfu (Nat.not_lt_zero _)
    | succ fu ih_12 =>
      intro i rm mL xL yL foL H locs ls hinv hfu hP hD hS hl
      obtain ⟨hrm, hou, hib, hdr, him⟩ := hinv
      refine lv_iload hx hb d_Dr_curvesUpright_12 (lv_at hl 4 rfl) ?_
      refine lv_iconst (v := 4) hx hb d_Dr_curvesUpright_14 (by decide) ?_
      refine lv_iadd hx hb d_Dr_curvesUpright_15 ?_
      refine lv_tv (y := nI (i + 4)) (nI_add i 4) ?_
      refine lv_aload_n hx hb d_Dr_curvesUpright_16 rfl (lv_at hl 0 rfl) ?_
      refine roV (As := []) (rest := [.int (nI (i + 4))]) ⟨hx, hb, hml, hown, hts⟩ gd_good (c_Va_size l D cB cI cJ v va vb n) cal_Va_size ml_Dr_7 ⟨Nat.le_of_ble_eq_true rfl, Nat.le_of_ble_eq_true rfl⟩ hZ hP hD (isC := [0]) ⟨rfl, rfl⟩ 0 (ci := 3) rfl rfl rfl rfl hl.1 rfl (Nat.le_of_ble_eq_true rfl) d_Dr_curvesUpright_17 ⟨Nat.le_of_ble_eq_true rfl, Nat.le_of_ble_eq_true rfl⟩ (fun v hv => ?_)
      subst hv
      refine lv_icmp_gt (tgt := 93) hx hb d_Dr_curvesUpright_20 (by decide) (fun c_20 => ?_) (fun c_20 => ?_)
      · have n_20 : (n) < (i + 4) := (nI_ltI (a := n) (b := i + 4) (by omega) (by omega)).mp c_20
        refine lv_iload_n hx hb d_Dr_curvesUpright_93 rfl (lv_at hl 2 rfl) ?_
        exact t_zret hx hb hr hlk (by first | decide | exact nar01 (by assumption)) d_Dr_curvesUpright_94 (hP.subm (ws' := [(v, .inr (3, [.ref va, .ref vb, .int (nI n)])), (va, .inl (cI, 48, .inl fa)), (vb, .inl (cI, 48, .inl fb)), (u, .inr (4, [.ref ra, .int (nI mL), .int xL, .int yL])), (ra, .inl (cI, oc, .inl foL))]) [0, 1, 2, 3, 4] rfl) (hD.sub (ws' := [(v, .inr (3, [.ref va, .ref vb, .int (nI n)])), (va, .inl (cI, 48, .inl fa)), (vb, .inl (cI, 48, .inl fb)), (u, .inr (4, [.ref ra, .int (nI mL), .int xL, .int yL])), (ra, .inl (cI, oc, .inl foL))]) [0, 1, 2, 3, 4] rfl rfl) hS ⟨_, rfl, rfl, rfl, _, _, _, _, rfl, (by omega), (dr_end (Or.inr (by omega)) (hdr.trans (by rw [(by omega : (n - n % 4) / 4 = n / 4)]))), (by first | decide | assumption)⟩
      · have n_20 : ¬ (n) < (i + 4) := fun z => c_20 ((nI_ltI (a := n) (b := i + 4) (by omega) (by omega)).mpr z)
        refine lv_iload_n hx hb d_Dr_curvesUpright_23 rfl (lv_at hl 2 rfl) ?_
        refine lv_if_eq (tgt := 93) hx hb d_Dr_curvesUpright_24 (by decide) (fun c_24 => ?_) (fun c_24 => ?_)
        · refine lv_iload_n hx hb d_Dr_curvesUpright_93 rfl (lv_at hl 2 rfl) ?_
          exact t_zret hx hb hr hlk (by first | decide | exact nar01 (by assumption)) d_Dr_curvesUpright_94 (hP.subm (ws' := [(v, .inr (3, [.ref va, .ref vb, .int (nI n)])), (va, .inl (cI, 48, .inl fa)), (vb, .inl (cI, 48, .inl fb)), (u, .inr (4, [.ref ra, .int (nI mL), .int xL, .int yL])), (ra, .inl (cI, oc, .inl foL))]) [0, 1, 2, 3, 4] rfl) (hD.sub (ws' := [(v, .inr (3, [.ref va, .ref vb, .int (nI n)])), (va, .inl (cI, 48, .inl fa)), (vb, .inl (cI, 48, .inl fb)), (u, .inr (4, [.ref ra, .int (nI mL), .int xL, .int yL])), (ra, .inl (cI, oc, .inl foL))]) [0, 1, 2, 3, 4] rfl rfl) hS ⟨_, rfl, rfl, rfl, _, _, _, _, rfl, (by omega), (dr_end (Or.inl c_24) (hdr.trans (by rw [(by omega : (n - n % 4) / 4 = n / 4)]))), (by first | decide | assumption)⟩
        · refine lv_iload_n hx hb d_Dr_curvesUpright_27 rfl (lv_at hl 3 rfl) ?_
          refine lv_iconst (v := 1) hx hb d_Dr_curvesUpright_28 (by decide) ?_
          refine lv_icmp_ne (tgt := 46) hx hb d_Dr_curvesUpright_29 (by decide) (fun c_29 => ?_) (fun c_29 => ?_)
          · have n_29 : ¬ (n % 4) = (1) := fun z => c_29 ((nI_eq (a := n % 4) (b := 1) (by omega) (by omega)).mpr z)
            refine lv_iconst (v := 0) hx hb d_Dr_curvesUpright_46 (by decide) ?_
            refine lv_istore (lv' := [(5, .int 0), (0, .ref v), (1, .ref u), (2, .int rm), (3, .int (nI (n % 4))), (4, .int (nI i))]) hx hb d_Dr_curvesUpright_47 hl (by decide) rfl (fun ls hl => ?_)
            refine lv_aload_n hx hb d_Dr_curvesUpright_49 rfl (lv_at hl 2 rfl) ?_
            refine lv_iload hx hb d_Dr_curvesUpright_50 (lv_at hl 0 rfl) ?_
            refine lv_aload_n hx hb d_Dr_curvesUpright_52 rfl (lv_at hl 1 rfl) ?_
            refine lv_iload hx hb d_Dr_curvesUpright_53 (lv_at hl 5 rfl) ?_
            refine roV (As := [.int (nI i)]) (rest := [.int 0, .ref u]) ⟨hx, hb, hml, hown, hts⟩ gd_good (c_Va_at l D cB cI cJ v va vb n fa (nI i) (by omega)) cal_Va_at ml_Dr_47 ⟨Nat.le_of_ble_eq_true rfl, Nat.le_of_ble_eq_true rfl⟩ hZ hP hD (isC := [0, 1]) ⟨rfl, rfl⟩ 0 (ci := 3) rfl rfl rfl rfl hl.1 rfl (Nat.le_of_ble_eq_true rfl) d_Dr_curvesUpright_55 ⟨Nat.le_of_ble_eq_true rfl, Nat.le_of_ble_eq_true rfl⟩ (fun v hv => ?_)
            have hv : v = .int (trunc n fa i) := hv.trans (congrArg Value.int (atV_N (j := i) (by omega) (by omega)))
            subst hv
            refine lv_aload_n hx hb d_Dr_curvesUpright_58 rfl (lv_at hl 1 rfl) ?_
            refine lv_iload hx hb d_Dr_curvesUpright_59 (lv_at hl 5 rfl) ?_
            refine lv_iconst (v := 1) hx hb d_Dr_curvesUpright_61 (by decide) ?_
            refine lv_iadd hx hb d_Dr_curvesUpright_62 ?_
            refine lv_tv (y := nI (i + 1)) (nI_add i 1) ?_
            refine roV (As := [.int (nI (i + 1))]) (rest := [.int (trunc n fa i), .int 0, .ref u]) ⟨hx, hb, hml, hown, hts⟩ gd_good (c_Va_at l D cB cI cJ v va vb n fa (nI (i + 1)) (by omega)) cal_Va_at ml_Dr_47 ⟨Nat.le_of_ble_eq_true rfl, Nat.le_of_ble_eq_true rfl⟩ hZ hP hD (isC := [0, 1]) ⟨rfl, rfl⟩ 0 (ci := 3) rfl rfl rfl rfl hl.1 rfl (Nat.le_of_ble_eq_true rfl) d_Dr_curvesUpright_63 ⟨Nat.le_of_ble_eq_true rfl, Nat.le_of_ble_eq_true rfl⟩ (fun v hv => ?_)
            have hv : v = .int (trunc n fa (i + 1)) := hv.trans (congrArg Value.int (atV_N (j := i + 1) (by omega) (by omega)))
            subst hv
            refine lv_aload_n hx hb d_Dr_curvesUpright_66 rfl (lv_at hl 1 rfl) ?_
            refine lv_iload hx hb d_Dr_curvesUpright_67 (lv_at hl 5 rfl) ?_
            refine lv_iconst (v := 2) hx hb d_Dr_curvesUpright_69 (by decide) ?_
            refine lv_iadd hx hb d_Dr_curvesUpright_70 ?_
            refine lv_tv (y := nI (i + 2)) (nI_add i 2) ?_
            refine roV (As := [.int (nI (i + 2))]) (rest := [.int (trunc n fa (i + 1)), .int (trunc n fa i), .int 0, .ref u]) ⟨hx, hb, hml, hown, hts⟩ gd_good (c_Va_at l D cB cI cJ v va vb n fa (nI (i + 2)) (by omega)) cal_Va_at ml_Dr_47 ⟨Nat.le_of_ble_eq_true rfl, Nat.le_of_ble_eq_true rfl⟩ hZ hP hD (isC := [0, 1]) ⟨rfl, rfl⟩ 0 (ci := 3) rfl rfl rfl rfl hl.1 rfl (Nat.le_of_ble_eq_true rfl) d_Dr_curvesUpright_71 ⟨Nat.le_of_ble_eq_true rfl, Nat.le_of_ble_eq_true rfl⟩ (fun v hv => ?_)
            have hv : v = .int (trunc n fa (i + 2)) := hv.trans (congrArg Value.int (atV_N (j := i + 2) (by omega) (by omega)))
            subst hv
            refine lv_iconst (v := 0) hx hb d_Dr_curvesUpright_74 (by decide) ?_
            refine lv_aload_n hx hb d_Dr_curvesUpright_75 rfl (lv_at hl 1 rfl) ?_
            refine lv_iload hx hb d_Dr_curvesUpright_76 (lv_at hl 5 rfl) ?_
            refine lv_iconst (v := 3) hx hb d_Dr_curvesUpright_78 (by decide) ?_
            refine lv_iadd hx hb d_Dr_curvesUpright_79 ?_
            refine lv_tv (y := nI (i + 3)) (nI_add i 3) ?_
            refine roV (As := [.int (nI (i + 3))]) (rest := [.int 0, .int (trunc n fa (i + 2)), .int (trunc n fa (i + 1)), .int (trunc n fa i), .int 0, .ref u]) ⟨hx, hb, hml, hown, hts⟩ gd_good (c_Va_at l D cB cI cJ v va vb n fa (nI (i + 3)) (by omega)) cal_Va_at ml_Dr_47 ⟨Nat.le_of_ble_eq_true rfl, Nat.le_of_ble_eq_true rfl⟩ hZ hP hD (isC := [0, 1]) ⟨rfl, rfl⟩ 0 (ci := 3) rfl rfl rfl rfl hl.1 rfl (Nat.le_of_ble_eq_true rfl) d_Dr_curvesUpright_80 ⟨Nat.le_of_ble_eq_true rfl, Nat.le_of_ble_eq_true rfl⟩ (fun v hv => ?_)
            have hv : v = .int (trunc n fa (i + 3)) := hv.trans (congrArg Value.int (atV_N (j := i + 3) (by omega) (by omega)))
            subst hv
            have hC : Cut [(v, .inr (3, [.ref va, .ref vb, .int (nI n)])), (va, .inl (cI, 48, .inl fa)), (vb, .inl (cI, 48, .inl fb)), (u, .inr (4, [.ref ra, .int (nI mL), .int xL, .int yL])), (ra, .inl (cI, oc, .inl foL))] [(u, .inr (4, [.ref ra, .int (nI mL), .int xL, .int yL])), (ra, .inl (cI, oc, .inl foL))] [(v, .inr (3, [.ref va, .ref vb, .int (nI n)])), (va, .inl (cI, 48, .inl fa)), (vb, .inl (cI, 48, .inl fb))] [3, 4] [0, 1, 2] := ⟨rfl, rfl, rfl, rfl, by decide⟩
            refine goI0 (trV (As := [.int 0, .int (trunc n fa i), .int (trunc n fa (i + 1)), .int (trunc n fa (i + 2)), .int 0, .int (trunc n fa (i + 3))]) (rest := []) ⟨hx, hb, hml, hown, hts⟩ gd_good (c_Ou_curve l D cB cI cJ u ra oc mL xL yL foL 0 (trunc n fa i) (trunc n fa (i + 1)) (trunc n fa (i + 2)) 0 (trunc n fa (i + 3)) (by omega) (fun _ => by omega)) cal_Ou_curve ml_Dr_57 ⟨Nat.le_of_ble_eq_true rfl, Nat.le_of_ble_eq_true rfl⟩ hZ hP hD hC 3 (ci := 4) rfl rfl rfl rfl hl.1 rfl (Nat.le_of_ble_eq_true rfl) d_Dr_curvesUpright_83 ⟨Nat.le_of_ble_eq_true rfl, Nat.le_of_ble_eq_true rfl⟩) hZ hP hD hS hC (fun r_83 w1 H locs hq hP hD hS => ?_)
            obtain ⟨m_83, x_83, y_83, fo_83, rfl, hv0_83, hx_83, hz_83⟩ := hq
            have hP : va_P D classes [(v, .inr (3, [.ref va, .ref vb, .int (nI n)])), (va, .inl (cI, 48, .inl fa)), (vb, .inl (cI, 48, .inl fb)), (u, .inr (4, [.ref ra, .int (nI m_83), .int x_83, .int y_83])), (ra, .inl (cI, oc, .inl fo_83))] H := hP
            have hD : va_D A_ [(v, .inr (3, [.ref va, .ref vb, .int (nI n)])), (va, .inl (cI, 48, .inl fa)), (vb, .inl (cI, 48, .inl fb)), (u, .inr (4, [.ref ra, .int (nI m_83), .int x_83, .int y_83])), (ra, .inl (cI, oc, .inl fo_83))] := hD
            refine lv_istore_n (lv' := [(2, .int r_83), (5, .int 0), (0, .ref v), (1, .ref u), (3, .int (nI (n % 4))), (4, .int (nI i))]) hx hb d_Dr_curvesUpright_86 rfl hl (by decide) rfl (fun ls hl => ?_)
            refine lv_iinc (v := nI (i + 4)) (lv' := [(4, .int (nI (i + 4))), (2, .int r_83), (5, .int 0), (0, .ref v), (1, .ref u), (3, .int (nI (n % 4)))]) hx hb d_Dr_curvesUpright_87 hl (k := 5) rfl (nI_add i 4) (by decide) rfl (fun ls hl => ?_)
            refine lv_goto (tgt := 12) hx hb d_Dr_curvesUpright_90 (by decide) ?_
            exact ih_12  (i + 4) r_83 m_83 x_83 y_83 fo_83 _ _ _ ⟨by first | decide | assumption, by omega, by omega, (dr_stepC hdr c_24 (upr_c (if_neg (by omega))) (by omega) hx_83.1), by omega⟩ (by omega) (hP.subm [0, 1, 2, 3, 4] rfl) (hD.sub [0, 1, 2, 3, 4] rfl rfl) hS (lv_sub hl [3, 4, 1, 5, 0] rfl)
          · have n_29 : (n % 4) = (1) := (nI_eq (a := n % 4) (b := 1) (by omega) (by omega)).mp c_29
            refine lv_iload hx hb d_Dr_curvesUpright_32 (lv_at hl 4 rfl) ?_
            refine lv_iconst (v := 1) hx hb d_Dr_curvesUpright_34 (by decide) ?_
            refine lv_icmp_ne (tgt := 46) hx hb d_Dr_curvesUpright_35 (by decide) (fun c_35 => ?_) (fun c_35 => ?_)
            · have n_35 : ¬ (i) = (1) := fun z => c_35 ((nI_eq (a := i) (b := 1) (by omega) (by omega)).mpr z)
              refine lv_iconst (v := 0) hx hb d_Dr_curvesUpright_46 (by decide) ?_
              refine lv_istore (lv' := [(5, .int 0), (0, .ref v), (1, .ref u), (2, .int rm), (3, .int (nI (n % 4))), (4, .int (nI i))]) hx hb d_Dr_curvesUpright_47 hl (by decide) rfl (fun ls hl => ?_)
              refine lv_aload_n hx hb d_Dr_curvesUpright_49 rfl (lv_at hl 2 rfl) ?_
              refine lv_iload hx hb d_Dr_curvesUpright_50 (lv_at hl 0 rfl) ?_
              refine lv_aload_n hx hb d_Dr_curvesUpright_52 rfl (lv_at hl 1 rfl) ?_
              refine lv_iload hx hb d_Dr_curvesUpright_53 (lv_at hl 5 rfl) ?_
              refine roV (As := [.int (nI i)]) (rest := [.int 0, .ref u]) ⟨hx, hb, hml, hown, hts⟩ gd_good (c_Va_at l D cB cI cJ v va vb n fa (nI i) (by omega)) cal_Va_at ml_Dr_47 ⟨Nat.le_of_ble_eq_true rfl, Nat.le_of_ble_eq_true rfl⟩ hZ hP hD (isC := [0, 1]) ⟨rfl, rfl⟩ 0 (ci := 3) rfl rfl rfl rfl hl.1 rfl (Nat.le_of_ble_eq_true rfl) d_Dr_curvesUpright_55 ⟨Nat.le_of_ble_eq_true rfl, Nat.le_of_ble_eq_true rfl⟩ (fun v hv => ?_)
              have hv : v = .int (trunc n fa i) := hv.trans (congrArg Value.int (atV_N (j := i) (by omega) (by omega)))
              subst hv
              refine lv_aload_n hx hb d_Dr_curvesUpright_58 rfl (lv_at hl 1 rfl) ?_
              refine lv_iload hx hb d_Dr_curvesUpright_59 (lv_at hl 5 rfl) ?_
              refine lv_iconst (v := 1) hx hb d_Dr_curvesUpright_61 (by decide) ?_
              refine lv_iadd hx hb d_Dr_curvesUpright_62 ?_
              refine lv_tv (y := nI (i + 1)) (nI_add i 1) ?_
              refine roV (As := [.int (nI (i + 1))]) (rest := [.int (trunc n fa i), .int 0, .ref u]) ⟨hx, hb, hml, hown, hts⟩ gd_good (c_Va_at l D cB cI cJ v va vb n fa (nI (i + 1)) (by omega)) cal_Va_at ml_Dr_47 ⟨Nat.le_of_ble_eq_true rfl, Nat.le_of_ble_eq_true rfl⟩ hZ hP hD (isC := [0, 1]) ⟨rfl, rfl⟩ 0 (ci := 3) rfl rfl rfl rfl hl.1 rfl (Nat.le_of_ble_eq_true rfl) d_Dr_curvesUpright_63 ⟨Nat.le_of_ble_eq_true rfl, Nat.le_of_ble_eq_true rfl⟩ (fun v hv => ?_)
              have hv : v = .int (trunc n fa (i + 1)) := hv.trans (congrArg Value.int (atV_N (j := i + 1) (by omega) (by omega)))
              subst hv
              refine lv_aload_n hx hb d_Dr_curvesUpright_66 rfl (lv_at hl 1 rfl) ?_
              refine lv_iload hx hb d_Dr_curvesUpright_67 (lv_at hl 5 rfl) ?_
              refine lv_iconst (v := 2) hx hb d_Dr_curvesUpright_69 (by decide) ?_
              refine lv_iadd hx hb d_Dr_curvesUpright_70 ?_
              refine lv_tv (y := nI (i + 2)) (nI_add i 2) ?_
              refine roV (As := [.int (nI (i + 2))]) (rest := [.int (trunc n fa (i + 1)), .int (trunc n fa i), .int 0, .ref u]) ⟨hx, hb, hml, hown, hts⟩ gd_good (c_Va_at l D cB cI cJ v va vb n fa (nI (i + 2)) (by omega)) cal_Va_at ml_Dr_47 ⟨Nat.le_of_ble_eq_true rfl, Nat.le_of_ble_eq_true rfl⟩ hZ hP hD (isC := [0, 1]) ⟨rfl, rfl⟩ 0 (ci := 3) rfl rfl rfl rfl hl.1 rfl (Nat.le_of_ble_eq_true rfl) d_Dr_curvesUpright_71 ⟨Nat.le_of_ble_eq_true rfl, Nat.le_of_ble_eq_true rfl⟩ (fun v hv => ?_)
              have hv : v = .int (trunc n fa (i + 2)) := hv.trans (congrArg Value.int (atV_N (j := i + 2) (by omega) (by omega)))
              subst hv
              refine lv_iconst (v := 0) hx hb d_Dr_curvesUpright_74 (by decide) ?_
              refine lv_aload_n hx hb d_Dr_curvesUpright_75 rfl (lv_at hl 1 rfl) ?_
              refine lv_iload hx hb d_Dr_curvesUpright_76 (lv_at hl 5 rfl) ?_
              refine lv_iconst (v := 3) hx hb d_Dr_curvesUpright_78 (by decide) ?_
              refine lv_iadd hx hb d_Dr_curvesUpright_79 ?_
              refine lv_tv (y := nI (i + 3)) (nI_add i 3) ?_
              refine roV (As := [.int (nI (i + 3))]) (rest := [.int 0, .int (trunc n fa (i + 2)), .int (trunc n fa (i + 1)), .int (trunc n fa i), .int 0, .ref u]) ⟨hx, hb, hml, hown, hts⟩ gd_good (c_Va_at l D cB cI cJ v va vb n fa (nI (i + 3)) (by omega)) cal_Va_at ml_Dr_47 ⟨Nat.le_of_ble_eq_true rfl, Nat.le_of_ble_eq_true rfl⟩ hZ hP hD (isC := [0, 1]) ⟨rfl, rfl⟩ 0 (ci := 3) rfl rfl rfl rfl hl.1 rfl (Nat.le_of_ble_eq_true rfl) d_Dr_curvesUpright_80 ⟨Nat.le_of_ble_eq_true rfl, Nat.le_of_ble_eq_true rfl⟩ (fun v hv => ?_)
              have hv : v = .int (trunc n fa (i + 3)) := hv.trans (congrArg Value.int (atV_N (j := i + 3) (by omega) (by omega)))
              subst hv
              have hC : Cut [(v, .inr (3, [.ref va, .ref vb, .int (nI n)])), (va, .inl (cI, 48, .inl fa)), (vb, .inl (cI, 48, .inl fb)), (u, .inr (4, [.ref ra, .int (nI mL), .int xL, .int yL])), (ra, .inl (cI, oc, .inl foL))] [(u, .inr (4, [.ref ra, .int (nI mL), .int xL, .int yL])), (ra, .inl (cI, oc, .inl foL))] [(v, .inr (3, [.ref va, .ref vb, .int (nI n)])), (va, .inl (cI, 48, .inl fa)), (vb, .inl (cI, 48, .inl fb))] [3, 4] [0, 1, 2] := ⟨rfl, rfl, rfl, rfl, by decide⟩
              refine goI0 (trV (As := [.int 0, .int (trunc n fa i), .int (trunc n fa (i + 1)), .int (trunc n fa (i + 2)), .int 0, .int (trunc n fa (i + 3))]) (rest := []) ⟨hx, hb, hml, hown, hts⟩ gd_good (c_Ou_curve l D cB cI cJ u ra oc mL xL yL foL 0 (trunc n fa i) (trunc n fa (i + 1)) (trunc n fa (i + 2)) 0 (trunc n fa (i + 3)) (by omega) (fun _ => by omega)) cal_Ou_curve ml_Dr_57 ⟨Nat.le_of_ble_eq_true rfl, Nat.le_of_ble_eq_true rfl⟩ hZ hP hD hC 3 (ci := 4) rfl rfl rfl rfl hl.1 rfl (Nat.le_of_ble_eq_true rfl) d_Dr_curvesUpright_83 ⟨Nat.le_of_ble_eq_true rfl, Nat.le_of_ble_eq_true rfl⟩) hZ hP hD hS hC (fun r_83 w1 H locs hq hP hD hS => ?_)
              obtain ⟨m_83, x_83, y_83, fo_83, rfl, hv0_83, hx_83, hz_83⟩ := hq
              have hP : va_P D classes [(v, .inr (3, [.ref va, .ref vb, .int (nI n)])), (va, .inl (cI, 48, .inl fa)), (vb, .inl (cI, 48, .inl fb)), (u, .inr (4, [.ref ra, .int (nI m_83), .int x_83, .int y_83])), (ra, .inl (cI, oc, .inl fo_83))] H := hP
              have hD : va_D A_ [(v, .inr (3, [.ref va, .ref vb, .int (nI n)])), (va, .inl (cI, 48, .inl fa)), (vb, .inl (cI, 48, .inl fb)), (u, .inr (4, [.ref ra, .int (nI m_83), .int x_83, .int y_83])), (ra, .inl (cI, oc, .inl fo_83))] := hD
              refine lv_istore_n (lv' := [(2, .int r_83), (5, .int 0), (0, .ref v), (1, .ref u), (3, .int (nI (n % 4))), (4, .int (nI i))]) hx hb d_Dr_curvesUpright_86 rfl hl (by decide) rfl (fun ls hl => ?_)
              refine lv_iinc (v := nI (i + 4)) (lv' := [(4, .int (nI (i + 4))), (2, .int r_83), (5, .int 0), (0, .ref v), (1, .ref u), (3, .int (nI (n % 4)))]) hx hb d_Dr_curvesUpright_87 hl (k := 5) rfl (nI_add i 4) (by decide) rfl (fun ls hl => ?_)
              refine lv_goto (tgt := 12) hx hb d_Dr_curvesUpright_90 (by decide) ?_
              exact ih_12  (i + 4) r_83 m_83 x_83 y_83 fo_83 _ _ _ ⟨by first | decide | assumption, by omega, by omega, (dr_stepC hdr c_24 (upr_c (if_neg (by omega))) (by omega) hx_83.1), by omega⟩ (by omega) (hP.subm [0, 1, 2, 3, 4] rfl) (hD.sub [0, 1, 2, 3, 4] rfl rfl) hS (lv_sub hl [3, 4, 1, 5, 0] rfl)
            · have n_35 : (i) = (1) := (nI_eq (a := i) (b := 1) (by omega) (by omega)).mp c_35
              refine lv_aload_n hx hb d_Dr_curvesUpright_38 rfl (lv_at hl 0 rfl) ?_
              refine lv_iconst (v := 0) hx hb d_Dr_curvesUpright_39 (by decide) ?_
              refine roV (As := [.int 0]) (rest := []) ⟨hx, hb, hml, hown, hts⟩ gd_good (c_Va_at l D cB cI cJ v va vb n fa 0 (by omega)) cal_Va_at ml_Dr_47 ⟨Nat.le_of_ble_eq_true rfl, Nat.le_of_ble_eq_true rfl⟩ hZ hP hD (isC := [0, 1]) ⟨rfl, rfl⟩ 0 (ci := 3) rfl rfl rfl rfl hl.1 rfl (Nat.le_of_ble_eq_true rfl) d_Dr_curvesUpright_40 ⟨Nat.le_of_ble_eq_true rfl, Nat.le_of_ble_eq_true rfl⟩ (fun v hv => ?_)
              have hv : v = .int (trunc n fa 0) := hv.trans (congrArg Value.int (atV_N (j := 0) (by omega) (by omega)))
              subst hv
              refine lv_goto (tgt := 47) hx hb d_Dr_curvesUpright_43 (by decide) ?_
              refine lv_istore (lv' := [(5, .int (trunc n fa 0)), (0, .ref v), (1, .ref u), (2, .int rm), (3, .int (nI (n % 4))), (4, .int (nI i))]) hx hb d_Dr_curvesUpright_47 hl (by decide) rfl (fun ls hl => ?_)
              refine lv_aload_n hx hb d_Dr_curvesUpright_49 rfl (lv_at hl 2 rfl) ?_
              refine lv_iload hx hb d_Dr_curvesUpright_50 (lv_at hl 0 rfl) ?_
              refine lv_aload_n hx hb d_Dr_curvesUpright_52 rfl (lv_at hl 1 rfl) ?_
              refine lv_iload hx hb d_Dr_curvesUpright_53 (lv_at hl 5 rfl) ?_
              refine roV (As := [.int (nI i)]) (rest := [.int (trunc n fa 0), .ref u]) ⟨hx, hb, hml, hown, hts⟩ gd_good (c_Va_at l D cB cI cJ v va vb n fa (nI i) (by omega)) cal_Va_at ml_Dr_47 ⟨Nat.le_of_ble_eq_true rfl, Nat.le_of_ble_eq_true rfl⟩ hZ hP hD (isC := [0, 1]) ⟨rfl, rfl⟩ 0 (ci := 3) rfl rfl rfl rfl hl.1 rfl (Nat.le_of_ble_eq_true rfl) d_Dr_curvesUpright_55 ⟨Nat.le_of_ble_eq_true rfl, Nat.le_of_ble_eq_true rfl⟩ (fun v hv => ?_)
              have hv : v = .int (trunc n fa i) := hv.trans (congrArg Value.int (atV_N (j := i) (by omega) (by omega)))
              subst hv
              refine lv_aload_n hx hb d_Dr_curvesUpright_58 rfl (lv_at hl 1 rfl) ?_
              refine lv_iload hx hb d_Dr_curvesUpright_59 (lv_at hl 5 rfl) ?_
              refine lv_iconst (v := 1) hx hb d_Dr_curvesUpright_61 (by decide) ?_
              refine lv_iadd hx hb d_Dr_curvesUpright_62 ?_
              refine lv_tv (y := nI (i + 1)) (nI_add i 1) ?_
              refine roV (As := [.int (nI (i + 1))]) (rest := [.int (trunc n fa i), .int (trunc n fa 0), .ref u]) ⟨hx, hb, hml, hown, hts⟩ gd_good (c_Va_at l D cB cI cJ v va vb n fa (nI (i + 1)) (by omega)) cal_Va_at ml_Dr_47 ⟨Nat.le_of_ble_eq_true rfl, Nat.le_of_ble_eq_true rfl⟩ hZ hP hD (isC := [0, 1]) ⟨rfl, rfl⟩ 0 (ci := 3) rfl rfl rfl rfl hl.1 rfl (Nat.le_of_ble_eq_true rfl) d_Dr_curvesUpright_63 ⟨Nat.le_of_ble_eq_true rfl, Nat.le_of_ble_eq_true rfl⟩ (fun v hv => ?_)
              have hv : v = .int (trunc n fa (i + 1)) := hv.trans (congrArg Value.int (atV_N (j := i + 1) (by omega) (by omega)))
              subst hv
              refine lv_aload_n hx hb d_Dr_curvesUpright_66 rfl (lv_at hl 1 rfl) ?_
              refine lv_iload hx hb d_Dr_curvesUpright_67 (lv_at hl 5 rfl) ?_
              refine lv_iconst (v := 2) hx hb d_Dr_curvesUpright_69 (by decide) ?_
              refine lv_iadd hx hb d_Dr_curvesUpright_70 ?_
              refine lv_tv (y := nI (i + 2)) (nI_add i 2) ?_
              refine roV (As := [.int (nI (i + 2))]) (rest := [.int (trunc n fa (i + 1)), .int (trunc n fa i), .int (trunc n fa 0), .ref u]) ⟨hx, hb, hml, hown, hts⟩ gd_good (c_Va_at l D cB cI cJ v va vb n fa (nI (i + 2)) (by omega)) cal_Va_at ml_Dr_47 ⟨Nat.le_of_ble_eq_true rfl, Nat.le_of_ble_eq_true rfl⟩ hZ hP hD (isC := [0, 1]) ⟨rfl, rfl⟩ 0 (ci := 3) rfl rfl rfl rfl hl.1 rfl (Nat.le_of_ble_eq_true rfl) d_Dr_curvesUpright_71 ⟨Nat.le_of_ble_eq_true rfl, Nat.le_of_ble_eq_true rfl⟩ (fun v hv => ?_)
              have hv : v = .int (trunc n fa (i + 2)) := hv.trans (congrArg Value.int (atV_N (j := i + 2) (by omega) (by omega)))
              subst hv
              refine lv_iconst (v := 0) hx hb d_Dr_curvesUpright_74 (by decide) ?_
              refine lv_aload_n hx hb d_Dr_curvesUpright_75 rfl (lv_at hl 1 rfl) ?_
              refine lv_iload hx hb d_Dr_curvesUpright_76 (lv_at hl 5 rfl) ?_
              refine lv_iconst (v := 3) hx hb d_Dr_curvesUpright_78 (by decide) ?_
              refine lv_iadd hx hb d_Dr_curvesUpright_79 ?_
              refine lv_tv (y := nI (i + 3)) (nI_add i 3) ?_
              refine roV (As := [.int (nI (i + 3))]) (rest := [.int 0, .int (trunc n fa (i + 2)), .int (trunc n fa (i + 1)), .int (trunc n fa i), .int (trunc n fa 0), .ref u]) ⟨hx, hb, hml, hown, hts⟩ gd_good (c_Va_at l D cB cI cJ v va vb n fa (nI (i + 3)) (by omega)) cal_Va_at ml_Dr_47 ⟨Nat.le_of_ble_eq_true rfl, Nat.le_of_ble_eq_true rfl⟩ hZ hP hD (isC := [0, 1]) ⟨rfl, rfl⟩ 0 (ci := 3) rfl rfl rfl rfl hl.1 rfl (Nat.le_of_ble_eq_true rfl) d_Dr_curvesUpright_80 ⟨Nat.le_of_ble_eq_true rfl, Nat.le_of_ble_eq_true rfl⟩ (fun v hv => ?_)
              have hv : v = .int (trunc n fa (i + 3)) := hv.trans (congrArg Value.int (atV_N (j := i + 3) (by omega) (by omega)))
              subst hv
              have hC : Cut [(v, .inr (3, [.ref va, .ref vb, .int (nI n)])), (va, .inl (cI, 48, .inl fa)), (vb, .inl (cI, 48, .inl fb)), (u, .inr (4, [.ref ra, .int (nI mL), .int xL, .int yL])), (ra, .inl (cI, oc, .inl foL))] [(u, .inr (4, [.ref ra, .int (nI mL), .int xL, .int yL])), (ra, .inl (cI, oc, .inl foL))] [(v, .inr (3, [.ref va, .ref vb, .int (nI n)])), (va, .inl (cI, 48, .inl fa)), (vb, .inl (cI, 48, .inl fb))] [3, 4] [0, 1, 2] := ⟨rfl, rfl, rfl, rfl, by decide⟩
              refine goI0 (trV (As := [.int (trunc n fa 0), .int (trunc n fa i), .int (trunc n fa (i + 1)), .int (trunc n fa (i + 2)), .int 0, .int (trunc n fa (i + 3))]) (rest := []) ⟨hx, hb, hml, hown, hts⟩ gd_good (c_Ou_curve l D cB cI cJ u ra oc mL xL yL foL (trunc n fa 0) (trunc n fa i) (trunc n fa (i + 1)) (trunc n fa (i + 2)) 0 (trunc n fa (i + 3)) (by omega) (fun _ => by omega)) cal_Ou_curve ml_Dr_57 ⟨Nat.le_of_ble_eq_true rfl, Nat.le_of_ble_eq_true rfl⟩ hZ hP hD hC 3 (ci := 4) rfl rfl rfl rfl hl.1 rfl (Nat.le_of_ble_eq_true rfl) d_Dr_curvesUpright_83 ⟨Nat.le_of_ble_eq_true rfl, Nat.le_of_ble_eq_true rfl⟩) hZ hP hD hS hC (fun r_83 w1 H locs hq hP hD hS => ?_)
              obtain ⟨m_83, x_83, y_83, fo_83, rfl, hv0_83, hx_83, hz_83⟩ := hq
              have hP : va_P D classes [(v, .inr (3, [.ref va, .ref vb, .int (nI n)])), (va, .inl (cI, 48, .inl fa)), (vb, .inl (cI, 48, .inl fb)), (u, .inr (4, [.ref ra, .int (nI m_83), .int x_83, .int y_83])), (ra, .inl (cI, oc, .inl fo_83))] H := hP
              have hD : va_D A_ [(v, .inr (3, [.ref va, .ref vb, .int (nI n)])), (va, .inl (cI, 48, .inl fa)), (vb, .inl (cI, 48, .inl fb)), (u, .inr (4, [.ref ra, .int (nI m_83), .int x_83, .int y_83])), (ra, .inl (cI, oc, .inl fo_83))] := hD
              refine lv_istore_n (lv' := [(2, .int r_83), (5, .int (trunc n fa 0)), (0, .ref v), (1, .ref u), (3, .int (nI (n % 4))), (4, .int (nI i))]) hx hb d_Dr_curvesUpright_86 rfl hl (by decide) rfl (fun ls hl => ?_)
              refine lv_iinc (v := nI (i + 4)) (lv' := [(4, .int (nI (i + 4))), (2, .int r_83), (5, .int (trunc n fa 0)), (0, .ref v), (1, .ref u), (3, .int (nI (n % 4)))]) hx hb d_Dr_curvesUpright_87 hl (k := 5) rfl (nI_add i 4) (by decide) rfl (fun ls hl => ?_)
              refine lv_goto (tgt := 12) hx hb d_Dr_curvesUpright_90 (by decide) ?_
              exact ih_12  (i + 4) r_83 m_83 x_83 y_83 fo_83 _ _ _ ⟨by first | decide | assumption, by omega, by omega, (dr_stepC hdr c_24 (upr_c (if_pos n_35)) (by omega) hx_83.1), by omega⟩ (by omega) (hP.subm [0, 1, 2, 3, 4] rfl) (hD.sub [0, 1, 2, 3, 4] rfl rfl) hS (lv_sub hl [3, 4, 1, 5, 0] rfl)
  exact lp_12 _ (n % 4) 1 m x y fo _ _ _ ⟨by first | decide | assumption, by omega, by omega, (zB_1 _), by omega⟩ (Nat.lt_succ_self _) (hP.subm [0, 1, 2, 3, 4] rfl) (hD.sub [0, 1, 2, 3, 4] rfl rfl) hS (lv_sub hl [3, 4, 2, 1, 0] rfl)
set_option maxHeartbeats 1000000 in
set_option maxRecDepth 100000 in
theorem c_Math_abs (l : Launch) (D : va_G) (cB cI cJ : ClassId) (x : Int64) : Ro l D classes (TY cB cI cJ) gd_tbl nx_tbl y_Math_abs b_Math_abs 2 (some .long) ({ frames := 0, cells := 0, slots := 0, locals := 0 }) [.long x] [] (fun v => v = .long (if x < 0 then -x else x)) := by
  refine Ro.intro (by decide +kernel) nx_ok (Nat.le_of_ble_eq_true rfl) ?_
  intro p_ e_ s_ m_ args_ below_ meth_ c_ A_ ls hx hb hml hown hts hr hlk hnm hZ hP hD hl
  have hl : lv_has ls 2 [(0, .long x)] := hl
  refine lv_lload_n hx hb d_Math_abs_0 rfl (lv_at hl 0 rfl) ?_
  refine lv_lconst (v := 0) hx hb d_Math_abs_1 (by decide) ?_
  refine W.lcmp hx hb d_Math_abs_2 ?_
  refine lv_if_ge (tgt := 11) hx hb d_Math_abs_3 (by decide) (fun c_3 => ?_) (fun c_3 => ?_)
  · refine lv_lload_n hx hb d_Math_abs_11 rfl (lv_at hl 0 rfl) ?_
    exact r_lret hx hb hr hlk d_Math_abs_12 (by rw [if_neg (fun z => absurd (lcmp_ge.mpr z) (Int32.not_lt.mpr c_3))])
  · refine lv_lload_n hx hb d_Math_abs_6 rfl (lv_at hl 0 rfl) ?_
    refine lv_lneg hx hb d_Math_abs_7 ?_
    refine lv_goto (tgt := 12) hx hb d_Math_abs_8 (by decide) ?_
    exact r_lret hx hb hr hlk d_Math_abs_12 (by rw [if_pos (lcmp_ge.mp (Int32.not_le.mp c_3))])
set_option maxHeartbeats 1000000 in
set_option maxRecDepth 100000 in
theorem c_Dr_flexAcross (l : Launch) (D : va_G) (cB cI cJ : ClassId) (v va vb u ra oc : Nat) (n : Nat) (fa : Nat → Int32) (fb : Nat → Int32) (m : Nat) (x : Int32) (y : Int32) (fo : Nat → Int32)  (hiVa : n ≤ 48) (hiOu : m ≤ 4000 ∧ 7 * m ≤ oc ∧ 336 ≤ oc ∧ oc ≤ 28000) (hn7 : n = 7) (hroom : 7 * min 4000 (m + n) ≤ oc) : Tr l D classes (TY cB cI cJ) gd_tbl nx_tbl y_Dr_flexAcross b_Dr_flexAcross 2 (some .boolean) ({ frames := 2, cells := 0, slots := 0, locals := 58 }) [.ref v, .ref u] [(v, .inr (3, [.ref va, .ref vb, .int (nI n)])), (va, .inl (cI, 48, .inl fa)), (vb, .inl (cI, 48, .inl fb)), (u, .inr (4, [.ref ra, .int (nI m), .int x, .int y])), (ra, .inl (cI, oc, .inl fo))] (pI0 (fun r w => ∃ (m' : Nat) (x' : Int32) (y' : Int32) (fo' : Nat → Int32), w = [(v, .inr (3, [.ref va, .ref vb, .int (nI n)])), (va, .inl (cI, 48, .inl fa)), (vb, .inl (cI, 48, .inl fb)), (u, .inr (4, [.ref ra, .int (nI m'), .int x', .int y'])), (ra, .inl (cI, oc, .inl fo'))] ∧ (m' ≤ 4000 ∧ 7 * m' ≤ oc ∧ 336 ≤ oc ∧ oc ≤ 28000) ∧ (zR r (uS m' x' y' fo') = drawAll (uS m x y fo) (drawL 290 n (trunc n fa))) ∧ (r = 0 ∨ r = 1))) := by
  refine Tr.intro (by decide +kernel) nx_ok (Nat.le_of_ble_eq_true rfl) ?_
  intro p_ e_ s_ m_ args_ below_ meth_ c_ A_ ls hx hb hml hown hts hr hlk hnm hZ hP hD hS hl
  have hl : lv_has ls 2 [(0, .ref v), (1, .ref u)] := hl
  refine lv_aload_n hx hb d_Dr_flexAcross_0 rfl (lv_at hl 1 rfl) ?_
  refine lv_aload_n hx hb d_Dr_flexAcross_1 rfl (lv_at hl 0 rfl) ?_
  refine lv_iconst (v := 0) hx hb d_Dr_flexAcross_2 (by decide) ?_
  refine roV (As := [.int 0]) (rest := [.ref u]) ⟨hx, hb, hml, hown, hts⟩ gd_good (c_Va_at l D cB cI cJ v va vb n fa 0 (by omega)) cal_Va_at ml_Dr_47 ⟨Nat.le_of_ble_eq_true rfl, Nat.le_of_ble_eq_true rfl⟩ hZ hP hD (isC := [0, 1]) ⟨rfl, rfl⟩ 0 (ci := 3) rfl rfl rfl rfl hl.1 rfl (Nat.le_of_ble_eq_true rfl) d_Dr_flexAcross_3 ⟨Nat.le_of_ble_eq_true rfl, Nat.le_of_ble_eq_true rfl⟩ (fun v hv => ?_)
  have hv : v = .int (trunc n fa 0) := hv.trans (congrArg Value.int (atV_N (j := 0) (by omega) (by omega)))
  subst hv
  refine lv_iconst (v := 0) hx hb d_Dr_flexAcross_6 (by decide) ?_
  refine lv_aload_n hx hb d_Dr_flexAcross_7 rfl (lv_at hl 0 rfl) ?_
  refine lv_iconst (v := 1) hx hb d_Dr_flexAcross_8 (by decide) ?_
  refine roV (As := [.int 1]) (rest := [.int 0, .int (trunc n fa 0), .ref u]) ⟨hx, hb, hml, hown, hts⟩ gd_good (c_Va_at l D cB cI cJ v va vb n fa 1 (by omega)) cal_Va_at ml_Dr_47 ⟨Nat.le_of_ble_eq_true rfl, Nat.le_of_ble_eq_true rfl⟩ hZ hP hD (isC := [0, 1]) ⟨rfl, rfl⟩ 0 (ci := 3) rfl rfl rfl rfl hl.1 rfl (Nat.le_of_ble_eq_true rfl) d_Dr_flexAcross_9 ⟨Nat.le_of_ble_eq_true rfl, Nat.le_of_ble_eq_true rfl⟩ (fun v hv => ?_)
  have hv : v = .int (trunc n fa 1) := hv.trans (congrArg Value.int (atV_N (j := 1) (by omega) (by omega)))
  subst hv
  refine lv_aload_n hx hb d_Dr_flexAcross_12 rfl (lv_at hl 0 rfl) ?_
  refine lv_iconst (v := 2) hx hb d_Dr_flexAcross_13 (by decide) ?_
  refine roV (As := [.int 2]) (rest := [.int (trunc n fa 1), .int 0, .int (trunc n fa 0), .ref u]) ⟨hx, hb, hml, hown, hts⟩ gd_good (c_Va_at l D cB cI cJ v va vb n fa 2 (by omega)) cal_Va_at ml_Dr_47 ⟨Nat.le_of_ble_eq_true rfl, Nat.le_of_ble_eq_true rfl⟩ hZ hP hD (isC := [0, 1]) ⟨rfl, rfl⟩ 0 (ci := 3) rfl rfl rfl rfl hl.1 rfl (Nat.le_of_ble_eq_true rfl) d_Dr_flexAcross_14 ⟨Nat.le_of_ble_eq_true rfl, Nat.le_of_ble_eq_true rfl⟩ (fun v hv => ?_)
  have hv : v = .int (trunc n fa 2) := hv.trans (congrArg Value.int (atV_N (j := 2) (by omega) (by omega)))
  subst hv
  refine lv_aload_n hx hb d_Dr_flexAcross_17 rfl (lv_at hl 0 rfl) ?_
  refine lv_iconst (v := 3) hx hb d_Dr_flexAcross_18 (by decide) ?_
  refine roV (As := [.int 3]) (rest := [.int (trunc n fa 2), .int (trunc n fa 1), .int 0, .int (trunc n fa 0), .ref u]) ⟨hx, hb, hml, hown, hts⟩ gd_good (c_Va_at l D cB cI cJ v va vb n fa 3 (by omega)) cal_Va_at ml_Dr_47 ⟨Nat.le_of_ble_eq_true rfl, Nat.le_of_ble_eq_true rfl⟩ hZ hP hD (isC := [0, 1]) ⟨rfl, rfl⟩ 0 (ci := 3) rfl rfl rfl rfl hl.1 rfl (Nat.le_of_ble_eq_true rfl) d_Dr_flexAcross_19 ⟨Nat.le_of_ble_eq_true rfl, Nat.le_of_ble_eq_true rfl⟩ (fun v hv => ?_)
  have hv : v = .int (trunc n fa 3) := hv.trans (congrArg Value.int (atV_N (j := 3) (by omega) (by omega)))
  subst hv
  refine lv_iconst (v := 0) hx hb d_Dr_flexAcross_22 (by decide) ?_
  have hC : Cut [(v, .inr (3, [.ref va, .ref vb, .int (nI n)])), (va, .inl (cI, 48, .inl fa)), (vb, .inl (cI, 48, .inl fb)), (u, .inr (4, [.ref ra, .int (nI m), .int x, .int y])), (ra, .inl (cI, oc, .inl fo))] [(u, .inr (4, [.ref ra, .int (nI m), .int x, .int y])), (ra, .inl (cI, oc, .inl fo))] [(v, .inr (3, [.ref va, .ref vb, .int (nI n)])), (va, .inl (cI, 48, .inl fa)), (vb, .inl (cI, 48, .inl fb))] [3, 4] [0, 1, 2] := ⟨rfl, rfl, rfl, rfl, by decide⟩
  refine goI0 (trV (As := [.int (trunc n fa 0), .int 0, .int (trunc n fa 1), .int (trunc n fa 2), .int (trunc n fa 3), .int 0]) (rest := []) ⟨hx, hb, hml, hown, hts⟩ gd_good (c_Ou_curve l D cB cI cJ u ra oc m x y fo (trunc n fa 0) 0 (trunc n fa 1) (trunc n fa 2) (trunc n fa 3) 0 (by omega) (fun _ => by omega)) cal_Ou_curve ml_Dr_57 ⟨Nat.le_of_ble_eq_true rfl, Nat.le_of_ble_eq_true rfl⟩ hZ hP hD hC 3 (ci := 4) rfl rfl rfl rfl hl.1 rfl (Nat.le_of_ble_eq_true rfl) d_Dr_flexAcross_23 ⟨Nat.le_of_ble_eq_true rfl, Nat.le_of_ble_eq_true rfl⟩) hZ hP hD hS hC (fun r_23 w1 H locs hq hP hD hS => ?_)
  obtain ⟨m_23, x_23, y_23, fo_23, rfl, hv0_23, hx_23, hz_23⟩ := hq
  have hP : va_P D classes [(v, .inr (3, [.ref va, .ref vb, .int (nI n)])), (va, .inl (cI, 48, .inl fa)), (vb, .inl (cI, 48, .inl fb)), (u, .inr (4, [.ref ra, .int (nI m_23), .int x_23, .int y_23])), (ra, .inl (cI, oc, .inl fo_23))] H := hP
  have hD : va_D A_ [(v, .inr (3, [.ref va, .ref vb, .int (nI n)])), (va, .inl (cI, 48, .inl fa)), (vb, .inl (cI, 48, .inl fb)), (u, .inr (4, [.ref ra, .int (nI m_23), .int x_23, .int y_23])), (ra, .inl (cI, oc, .inl fo_23))] := hD
  refine lv_if_eq (tgt := 64) hx hb d_Dr_flexAcross_26 (by decide) (fun c_26 => ?_) (fun c_26 => ?_)
  · refine lv_iconst (v := 0) hx hb d_Dr_flexAcross_64 (by decide) ?_
    exact t_zret hx hb hr hlk (by first | decide | exact nar01 (by assumption)) d_Dr_flexAcross_65 (hP.subm (ws' := [(v, .inr (3, [.ref va, .ref vb, .int (nI n)])), (va, .inl (cI, 48, .inl fa)), (vb, .inl (cI, 48, .inl fb)), (u, .inr (4, [.ref ra, .int (nI m_23), .int x_23, .int y_23])), (ra, .inl (cI, oc, .inl fo_23))]) [0, 1, 2, 3, 4] rfl) (hD.sub (ws' := [(v, .inr (3, [.ref va, .ref vb, .int (nI n)])), (va, .inl (cI, 48, .inl fa)), (vb, .inl (cI, 48, .inl fb)), (u, .inr (4, [.ref ra, .int (nI m_23), .int x_23, .int y_23])), (ra, .inl (cI, oc, .inl fo_23))]) [0, 1, 2, 3, 4] rfl rfl) hS ⟨_, rfl, rfl, rfl, _, _, _, _, rfl, (by omega), (dr2_no dl_290 (zR_bad hx_23.1 c_26)), (by first | decide | assumption)⟩
  · refine lv_aload_n hx hb d_Dr_flexAcross_29 rfl (lv_at hl 1 rfl) ?_
    refine lv_aload_n hx hb d_Dr_flexAcross_30 rfl (lv_at hl 0 rfl) ?_
    refine lv_iconst (v := 4) hx hb d_Dr_flexAcross_31 (by decide) ?_
    refine roV (As := [.int 4]) (rest := [.ref u]) ⟨hx, hb, hml, hown, hts⟩ gd_good (c_Va_at l D cB cI cJ v va vb n fa 4 (by omega)) cal_Va_at ml_Dr_47 ⟨Nat.le_of_ble_eq_true rfl, Nat.le_of_ble_eq_true rfl⟩ hZ hP hD (isC := [0, 1]) ⟨rfl, rfl⟩ 0 (ci := 3) rfl rfl rfl rfl hl.1 rfl (Nat.le_of_ble_eq_true rfl) d_Dr_flexAcross_32 ⟨Nat.le_of_ble_eq_true rfl, Nat.le_of_ble_eq_true rfl⟩ (fun v hv => ?_)
    have hv : v = .int (trunc n fa 4) := hv.trans (congrArg Value.int (atV_N (j := 4) (by omega) (by omega)))
    subst hv
    refine lv_iconst (v := 0) hx hb d_Dr_flexAcross_35 (by decide) ?_
    refine lv_aload_n hx hb d_Dr_flexAcross_36 rfl (lv_at hl 0 rfl) ?_
    refine lv_iconst (v := 5) hx hb d_Dr_flexAcross_37 (by decide) ?_
    refine roV (As := [.int 5]) (rest := [.int 0, .int (trunc n fa 4), .ref u]) ⟨hx, hb, hml, hown, hts⟩ gd_good (c_Va_at l D cB cI cJ v va vb n fa 5 (by omega)) cal_Va_at ml_Dr_47 ⟨Nat.le_of_ble_eq_true rfl, Nat.le_of_ble_eq_true rfl⟩ hZ hP hD (isC := [0, 1]) ⟨rfl, rfl⟩ 0 (ci := 3) rfl rfl rfl rfl hl.1 rfl (Nat.le_of_ble_eq_true rfl) d_Dr_flexAcross_38 ⟨Nat.le_of_ble_eq_true rfl, Nat.le_of_ble_eq_true rfl⟩ (fun v hv => ?_)
    have hv : v = .int (trunc n fa 5) := hv.trans (congrArg Value.int (atV_N (j := 5) (by omega) (by omega)))
    subst hv
    refine lv_aload_n hx hb d_Dr_flexAcross_41 rfl (lv_at hl 0 rfl) ?_
    refine lv_iconst (v := 2) hx hb d_Dr_flexAcross_42 (by decide) ?_
    refine roV (As := [.int 2]) (rest := [.int (trunc n fa 5), .int 0, .int (trunc n fa 4), .ref u]) ⟨hx, hb, hml, hown, hts⟩ gd_good (c_Va_at l D cB cI cJ v va vb n fa 2 (by omega)) cal_Va_at ml_Dr_47 ⟨Nat.le_of_ble_eq_true rfl, Nat.le_of_ble_eq_true rfl⟩ hZ hP hD (isC := [0, 1]) ⟨rfl, rfl⟩ 0 (ci := 3) rfl rfl rfl rfl hl.1 rfl (Nat.le_of_ble_eq_true rfl) d_Dr_flexAcross_43 ⟨Nat.le_of_ble_eq_true rfl, Nat.le_of_ble_eq_true rfl⟩ (fun v hv => ?_)
    have hv : v = .int (trunc n fa 2) := hv.trans (congrArg Value.int (atV_N (j := 2) (by omega) (by omega)))
    subst hv
    refine lv_ineg hx hb d_Dr_flexAcross_46 ?_
    refine lv_aload_n hx hb d_Dr_flexAcross_47 rfl (lv_at hl 0 rfl) ?_
    refine lv_bipush (v := 6) hx hb d_Dr_flexAcross_48 (by decide) ?_
    refine roV (As := [.int 6]) (rest := [.int (-(trunc n fa 2)), .int (trunc n fa 5), .int 0, .int (trunc n fa 4), .ref u]) ⟨hx, hb, hml, hown, hts⟩ gd_good (c_Va_at l D cB cI cJ v va vb n fa 6 (by omega)) cal_Va_at ml_Dr_47 ⟨Nat.le_of_ble_eq_true rfl, Nat.le_of_ble_eq_true rfl⟩ hZ hP hD (isC := [0, 1]) ⟨rfl, rfl⟩ 0 (ci := 3) rfl rfl rfl rfl hl.1 rfl (Nat.le_of_ble_eq_true rfl) d_Dr_flexAcross_50 ⟨Nat.le_of_ble_eq_true rfl, Nat.le_of_ble_eq_true rfl⟩ (fun v hv => ?_)
    have hv : v = .int (trunc n fa 6) := hv.trans (congrArg Value.int (atV_N (j := 6) (by omega) (by omega)))
    subst hv
    refine lv_iconst (v := 0) hx hb d_Dr_flexAcross_53 (by decide) ?_
    have hC : Cut [(v, .inr (3, [.ref va, .ref vb, .int (nI n)])), (va, .inl (cI, 48, .inl fa)), (vb, .inl (cI, 48, .inl fb)), (u, .inr (4, [.ref ra, .int (nI m_23), .int x_23, .int y_23])), (ra, .inl (cI, oc, .inl fo_23))] [(u, .inr (4, [.ref ra, .int (nI m_23), .int x_23, .int y_23])), (ra, .inl (cI, oc, .inl fo_23))] [(v, .inr (3, [.ref va, .ref vb, .int (nI n)])), (va, .inl (cI, 48, .inl fa)), (vb, .inl (cI, 48, .inl fb))] [3, 4] [0, 1, 2] := ⟨rfl, rfl, rfl, rfl, by decide⟩
    refine goI0 (trV (As := [.int (trunc n fa 4), .int 0, .int (trunc n fa 5), .int (-(trunc n fa 2)), .int (trunc n fa 6), .int 0]) (rest := []) ⟨hx, hb, hml, hown, hts⟩ gd_good (c_Ou_curve l D cB cI cJ u ra oc m_23 x_23 y_23 fo_23 (trunc n fa 4) 0 (trunc n fa 5) (-(trunc n fa 2)) (trunc n fa 6) 0 (by omega) (fun _ => by omega)) cal_Ou_curve ml_Dr_57 ⟨Nat.le_of_ble_eq_true rfl, Nat.le_of_ble_eq_true rfl⟩ hZ hP hD hC 3 (ci := 4) rfl rfl rfl rfl hl.1 rfl (Nat.le_of_ble_eq_true rfl) d_Dr_flexAcross_54 ⟨Nat.le_of_ble_eq_true rfl, Nat.le_of_ble_eq_true rfl⟩) hZ hP hD hS hC (fun r_54 w1 H locs hq hP hD hS => ?_)
    obtain ⟨m_54, x_54, y_54, fo_54, rfl, hv0_54, hx_54, hz_54⟩ := hq
    have hP : va_P D classes [(v, .inr (3, [.ref va, .ref vb, .int (nI n)])), (va, .inl (cI, 48, .inl fa)), (vb, .inl (cI, 48, .inl fb)), (u, .inr (4, [.ref ra, .int (nI m_54), .int x_54, .int y_54])), (ra, .inl (cI, oc, .inl fo_54))] H := hP
    have hD : va_D A_ [(v, .inr (3, [.ref va, .ref vb, .int (nI n)])), (va, .inl (cI, 48, .inl fa)), (vb, .inl (cI, 48, .inl fb)), (u, .inr (4, [.ref ra, .int (nI m_54), .int x_54, .int y_54])), (ra, .inl (cI, oc, .inl fo_54))] := hD
    refine lv_if_eq (tgt := 64) hx hb d_Dr_flexAcross_57 (by decide) (fun c_57 => ?_) (fun c_57 => ?_)
    · refine lv_iconst (v := 0) hx hb d_Dr_flexAcross_64 (by decide) ?_
      exact t_zret hx hb hr hlk (by first | decide | exact nar01 (by assumption)) d_Dr_flexAcross_65 (hP.subm (ws' := [(v, .inr (3, [.ref va, .ref vb, .int (nI n)])), (va, .inl (cI, 48, .inl fa)), (vb, .inl (cI, 48, .inl fb)), (u, .inr (4, [.ref ra, .int (nI m_54), .int x_54, .int y_54])), (ra, .inl (cI, oc, .inl fo_54))]) [0, 1, 2, 3, 4] rfl) (hD.sub (ws' := [(v, .inr (3, [.ref va, .ref vb, .int (nI n)])), (va, .inl (cI, 48, .inl fa)), (vb, .inl (cI, 48, .inl fb)), (u, .inr (4, [.ref ra, .int (nI m_54), .int x_54, .int y_54])), (ra, .inl (cI, oc, .inl fo_54))]) [0, 1, 2, 3, 4] rfl rfl) hS ⟨_, rfl, rfl, rfl, _, _, _, _, rfl, (by omega), (dr2_0 dl_290 (zR_ok hx_23.1 c_26) (zR_bad hx_54.1 c_57)), (by first | decide | assumption)⟩
    · refine lv_iconst (v := 1) hx hb d_Dr_flexAcross_60 (by decide) ?_
      refine lv_goto (tgt := 65) hx hb d_Dr_flexAcross_61 (by decide) ?_
      exact t_zret hx hb hr hlk (by first | decide | exact nar01 (by assumption)) d_Dr_flexAcross_65 (hP.subm (ws' := [(v, .inr (3, [.ref va, .ref vb, .int (nI n)])), (va, .inl (cI, 48, .inl fa)), (vb, .inl (cI, 48, .inl fb)), (u, .inr (4, [.ref ra, .int (nI m_54), .int x_54, .int y_54])), (ra, .inl (cI, oc, .inl fo_54))]) [0, 1, 2, 3, 4] rfl) (hD.sub (ws' := [(v, .inr (3, [.ref va, .ref vb, .int (nI n)])), (va, .inl (cI, 48, .inl fa)), (vb, .inl (cI, 48, .inl fb)), (u, .inr (4, [.ref ra, .int (nI m_54), .int x_54, .int y_54])), (ra, .inl (cI, oc, .inl fo_54))]) [0, 1, 2, 3, 4] rfl rfl) hS ⟨_, rfl, rfl, rfl, _, _, _, _, rfl, (by omega), (dr2_1 dl_290 (zR_ok hx_23.1 c_26) (zR_ok hx_54.1 c_57)), (by first | decide | assumption)⟩
set_option maxHeartbeats 1000000 in
set_option maxRecDepth 100000 in
theorem c_Dr_flexBack (l : Launch) (D : va_G) (cB cI cJ : ClassId) (v va vb u ra oc : Nat) (n : Nat) (fa : Nat → Int32) (fb : Nat → Int32) (m : Nat) (x : Int32) (y : Int32) (fo : Nat → Int32)  (hiVa : n ≤ 48) (hiOu : m ≤ 4000 ∧ 7 * m ≤ oc ∧ 336 ≤ oc ∧ oc ≤ 28000) (hn9 : n = 9) (hroom : 7 * min 4000 (m + n) ≤ oc) : Tr l D classes (TY cB cI cJ) gd_tbl nx_tbl y_Dr_flexBack b_Dr_flexBack 3 (some .boolean) ({ frames := 2, cells := 0, slots := 0, locals := 58 }) [.ref v, .ref u] [(v, .inr (3, [.ref va, .ref vb, .int (nI n)])), (va, .inl (cI, 48, .inl fa)), (vb, .inl (cI, 48, .inl fb)), (u, .inr (4, [.ref ra, .int (nI m), .int x, .int y])), (ra, .inl (cI, oc, .inl fo))] (pI0 (fun r w => ∃ (m' : Nat) (x' : Int32) (y' : Int32) (fo' : Nat → Int32), w = [(v, .inr (3, [.ref va, .ref vb, .int (nI n)])), (va, .inl (cI, 48, .inl fa)), (vb, .inl (cI, 48, .inl fb)), (u, .inr (4, [.ref ra, .int (nI m'), .int x', .int y'])), (ra, .inl (cI, oc, .inl fo'))] ∧ (m' ≤ 4000 ∧ 7 * m' ≤ oc ∧ 336 ≤ oc ∧ oc ≤ 28000) ∧ (zR r (uS m' x' y' fo') = drawAll (uS m x y fo) (drawL 292 n (trunc n fa))) ∧ (r = 0 ∨ r = 1))) := by
  refine Tr.intro (by decide +kernel) nx_ok (Nat.le_of_ble_eq_true rfl) ?_
  intro p_ e_ s_ m_ args_ below_ meth_ c_ A_ ls hx hb hml hown hts hr hlk hnm hZ hP hD hS hl
  have hl : lv_has ls 3 [(0, .ref v), (1, .ref u)] := hl
  refine lv_aload_n hx hb d_Dr_flexBack_0 rfl (lv_at hl 0 rfl) ?_
  refine lv_iconst (v := 1) hx hb d_Dr_flexBack_1 (by decide) ?_
  refine roV (As := [.int 1]) (rest := []) ⟨hx, hb, hml, hown, hts⟩ gd_good (c_Va_at l D cB cI cJ v va vb n fa 1 (by omega)) cal_Va_at ml_Dr_47 ⟨Nat.le_of_ble_eq_true rfl, Nat.le_of_ble_eq_true rfl⟩ hZ hP hD (isC := [0, 1]) ⟨rfl, rfl⟩ 0 (ci := 3) rfl rfl rfl rfl hl.1 rfl (Nat.le_of_ble_eq_true rfl) d_Dr_flexBack_2 ⟨Nat.le_of_ble_eq_true rfl, Nat.le_of_ble_eq_true rfl⟩ (fun v hv => ?_)
  have hv : v = .int (trunc n fa 1) := hv.trans (congrArg Value.int (atV_N (j := 1) (by omega) (by omega)))
  subst hv
  refine lv_aload_n hx hb d_Dr_flexBack_5 rfl (lv_at hl 0 rfl) ?_
  refine lv_iconst (v := 3) hx hb d_Dr_flexBack_6 (by decide) ?_
  refine roV (As := [.int 3]) (rest := [.int (trunc n fa 1)]) ⟨hx, hb, hml, hown, hts⟩ gd_good (c_Va_at l D cB cI cJ v va vb n fa 3 (by omega)) cal_Va_at ml_Dr_47 ⟨Nat.le_of_ble_eq_true rfl, Nat.le_of_ble_eq_true rfl⟩ hZ hP hD (isC := [0, 1]) ⟨rfl, rfl⟩ 0 (ci := 3) rfl rfl rfl rfl hl.1 rfl (Nat.le_of_ble_eq_true rfl) d_Dr_flexBack_7 ⟨Nat.le_of_ble_eq_true rfl, Nat.le_of_ble_eq_true rfl⟩ (fun v hv => ?_)
  have hv : v = .int (trunc n fa 3) := hv.trans (congrArg Value.int (atV_N (j := 3) (by omega) (by omega)))
  subst hv
  refine lv_iadd hx hb d_Dr_flexBack_10 ?_
  refine lv_aload_n hx hb d_Dr_flexBack_11 rfl (lv_at hl 0 rfl) ?_
  refine lv_bipush (v := 7) hx hb d_Dr_flexBack_12 (by decide) ?_
  refine roV (As := [.int 7]) (rest := [.int ((trunc n fa 1) + (trunc n fa 3))]) ⟨hx, hb, hml, hown, hts⟩ gd_good (c_Va_at l D cB cI cJ v va vb n fa 7 (by omega)) cal_Va_at ml_Dr_47 ⟨Nat.le_of_ble_eq_true rfl, Nat.le_of_ble_eq_true rfl⟩ hZ hP hD (isC := [0, 1]) ⟨rfl, rfl⟩ 0 (ci := 3) rfl rfl rfl rfl hl.1 rfl (Nat.le_of_ble_eq_true rfl) d_Dr_flexBack_14 ⟨Nat.le_of_ble_eq_true rfl, Nat.le_of_ble_eq_true rfl⟩ (fun v hv => ?_)
  have hv : v = .int (trunc n fa 7) := hv.trans (congrArg Value.int (atV_N (j := 7) (by omega) (by omega)))
  subst hv
  refine lv_iadd hx hb d_Dr_flexBack_17 ?_
  refine lv_istore_n (lv' := [(2, .int (((trunc n fa 1) + (trunc n fa 3)) + (trunc n fa 7))), (0, .ref v), (1, .ref u)]) hx hb d_Dr_flexBack_18 rfl hl (by decide) rfl (fun ls hl => ?_)
  refine lv_aload_n hx hb d_Dr_flexBack_19 rfl (lv_at hl 2 rfl) ?_
  refine lv_aload_n hx hb d_Dr_flexBack_20 rfl (lv_at hl 1 rfl) ?_
  refine lv_iconst (v := 0) hx hb d_Dr_flexBack_21 (by decide) ?_
  refine roV (As := [.int 0]) (rest := [.ref u]) ⟨hx, hb, hml, hown, hts⟩ gd_good (c_Va_at l D cB cI cJ v va vb n fa 0 (by omega)) cal_Va_at ml_Dr_47 ⟨Nat.le_of_ble_eq_true rfl, Nat.le_of_ble_eq_true rfl⟩ hZ hP hD (isC := [0, 1]) ⟨rfl, rfl⟩ 0 (ci := 3) rfl rfl rfl rfl hl.1 rfl (Nat.le_of_ble_eq_true rfl) d_Dr_flexBack_22 ⟨Nat.le_of_ble_eq_true rfl, Nat.le_of_ble_eq_true rfl⟩ (fun v hv => ?_)
  have hv : v = .int (trunc n fa 0) := hv.trans (congrArg Value.int (atV_N (j := 0) (by omega) (by omega)))
  subst hv
  refine lv_aload_n hx hb d_Dr_flexBack_25 rfl (lv_at hl 1 rfl) ?_
  refine lv_iconst (v := 1) hx hb d_Dr_flexBack_26 (by decide) ?_
  refine roV (As := [.int 1]) (rest := [.int (trunc n fa 0), .ref u]) ⟨hx, hb, hml, hown, hts⟩ gd_good (c_Va_at l D cB cI cJ v va vb n fa 1 (by omega)) cal_Va_at ml_Dr_47 ⟨Nat.le_of_ble_eq_true rfl, Nat.le_of_ble_eq_true rfl⟩ hZ hP hD (isC := [0, 1]) ⟨rfl, rfl⟩ 0 (ci := 3) rfl rfl rfl rfl hl.1 rfl (Nat.le_of_ble_eq_true rfl) d_Dr_flexBack_27 ⟨Nat.le_of_ble_eq_true rfl, Nat.le_of_ble_eq_true rfl⟩ (fun v hv => ?_)
  have hv : v = .int (trunc n fa 1) := hv.trans (congrArg Value.int (atV_N (j := 1) (by omega) (by omega)))
  subst hv
  refine lv_aload_n hx hb d_Dr_flexBack_30 rfl (lv_at hl 1 rfl) ?_
  refine lv_iconst (v := 2) hx hb d_Dr_flexBack_31 (by decide) ?_
  refine roV (As := [.int 2]) (rest := [.int (trunc n fa 1), .int (trunc n fa 0), .ref u]) ⟨hx, hb, hml, hown, hts⟩ gd_good (c_Va_at l D cB cI cJ v va vb n fa 2 (by omega)) cal_Va_at ml_Dr_47 ⟨Nat.le_of_ble_eq_true rfl, Nat.le_of_ble_eq_true rfl⟩ hZ hP hD (isC := [0, 1]) ⟨rfl, rfl⟩ 0 (ci := 3) rfl rfl rfl rfl hl.1 rfl (Nat.le_of_ble_eq_true rfl) d_Dr_flexBack_32 ⟨Nat.le_of_ble_eq_true rfl, Nat.le_of_ble_eq_true rfl⟩ (fun v hv => ?_)
  have hv : v = .int (trunc n fa 2) := hv.trans (congrArg Value.int (atV_N (j := 2) (by omega) (by omega)))
  subst hv
  refine lv_aload_n hx hb d_Dr_flexBack_35 rfl (lv_at hl 1 rfl) ?_
  refine lv_iconst (v := 3) hx hb d_Dr_flexBack_36 (by decide) ?_
  refine roV (As := [.int 3]) (rest := [.int (trunc n fa 2), .int (trunc n fa 1), .int (trunc n fa 0), .ref u]) ⟨hx, hb, hml, hown, hts⟩ gd_good (c_Va_at l D cB cI cJ v va vb n fa 3 (by omega)) cal_Va_at ml_Dr_47 ⟨Nat.le_of_ble_eq_true rfl, Nat.le_of_ble_eq_true rfl⟩ hZ hP hD (isC := [0, 1]) ⟨rfl, rfl⟩ 0 (ci := 3) rfl rfl rfl rfl hl.1 rfl (Nat.le_of_ble_eq_true rfl) d_Dr_flexBack_37 ⟨Nat.le_of_ble_eq_true rfl, Nat.le_of_ble_eq_true rfl⟩ (fun v hv => ?_)
  have hv : v = .int (trunc n fa 3) := hv.trans (congrArg Value.int (atV_N (j := 3) (by omega) (by omega)))
  subst hv
  refine lv_aload_n hx hb d_Dr_flexBack_40 rfl (lv_at hl 1 rfl) ?_
  refine lv_iconst (v := 4) hx hb d_Dr_flexBack_41 (by decide) ?_
  refine roV (As := [.int 4]) (rest := [.int (trunc n fa 3), .int (trunc n fa 2), .int (trunc n fa 1), .int (trunc n fa 0), .ref u]) ⟨hx, hb, hml, hown, hts⟩ gd_good (c_Va_at l D cB cI cJ v va vb n fa 4 (by omega)) cal_Va_at ml_Dr_47 ⟨Nat.le_of_ble_eq_true rfl, Nat.le_of_ble_eq_true rfl⟩ hZ hP hD (isC := [0, 1]) ⟨rfl, rfl⟩ 0 (ci := 3) rfl rfl rfl rfl hl.1 rfl (Nat.le_of_ble_eq_true rfl) d_Dr_flexBack_42 ⟨Nat.le_of_ble_eq_true rfl, Nat.le_of_ble_eq_true rfl⟩ (fun v hv => ?_)
  have hv : v = .int (trunc n fa 4) := hv.trans (congrArg Value.int (atV_N (j := 4) (by omega) (by omega)))
  subst hv
  refine lv_iconst (v := 0) hx hb d_Dr_flexBack_45 (by decide) ?_
  have hC : Cut [(v, .inr (3, [.ref va, .ref vb, .int (nI n)])), (va, .inl (cI, 48, .inl fa)), (vb, .inl (cI, 48, .inl fb)), (u, .inr (4, [.ref ra, .int (nI m), .int x, .int y])), (ra, .inl (cI, oc, .inl fo))] [(u, .inr (4, [.ref ra, .int (nI m), .int x, .int y])), (ra, .inl (cI, oc, .inl fo))] [(v, .inr (3, [.ref va, .ref vb, .int (nI n)])), (va, .inl (cI, 48, .inl fa)), (vb, .inl (cI, 48, .inl fb))] [3, 4] [0, 1, 2] := ⟨rfl, rfl, rfl, rfl, by decide⟩
  refine goI0 (trV (As := [.int (trunc n fa 0), .int (trunc n fa 1), .int (trunc n fa 2), .int (trunc n fa 3), .int (trunc n fa 4), .int 0]) (rest := []) ⟨hx, hb, hml, hown, hts⟩ gd_good (c_Ou_curve l D cB cI cJ u ra oc m x y fo (trunc n fa 0) (trunc n fa 1) (trunc n fa 2) (trunc n fa 3) (trunc n fa 4) 0 (by omega) (fun _ => by omega)) cal_Ou_curve ml_Dr_57 ⟨Nat.le_of_ble_eq_true rfl, Nat.le_of_ble_eq_true rfl⟩ hZ hP hD hC 3 (ci := 4) rfl rfl rfl rfl hl.1 rfl (Nat.le_of_ble_eq_true rfl) d_Dr_flexBack_46 ⟨Nat.le_of_ble_eq_true rfl, Nat.le_of_ble_eq_true rfl⟩) hZ hP hD hS hC (fun r_46 w1 H locs hq hP hD hS => ?_)
  obtain ⟨m_46, x_46, y_46, fo_46, rfl, hv0_46, hx_46, hz_46⟩ := hq
  have hP : va_P D classes [(v, .inr (3, [.ref va, .ref vb, .int (nI n)])), (va, .inl (cI, 48, .inl fa)), (vb, .inl (cI, 48, .inl fb)), (u, .inr (4, [.ref ra, .int (nI m_46), .int x_46, .int y_46])), (ra, .inl (cI, oc, .inl fo_46))] H := hP
  have hD : va_D A_ [(v, .inr (3, [.ref va, .ref vb, .int (nI n)])), (va, .inl (cI, 48, .inl fa)), (vb, .inl (cI, 48, .inl fb)), (u, .inr (4, [.ref ra, .int (nI m_46), .int x_46, .int y_46])), (ra, .inl (cI, oc, .inl fo_46))] := hD
  refine lv_if_eq (tgt := 89) hx hb d_Dr_flexBack_49 (by decide) (fun c_49 => ?_) (fun c_49 => ?_)
  · refine lv_iconst (v := 0) hx hb d_Dr_flexBack_89 (by decide) ?_
    exact t_zret hx hb hr hlk (by first | decide | exact nar01 (by assumption)) d_Dr_flexBack_90 (hP.subm (ws' := [(v, .inr (3, [.ref va, .ref vb, .int (nI n)])), (va, .inl (cI, 48, .inl fa)), (vb, .inl (cI, 48, .inl fb)), (u, .inr (4, [.ref ra, .int (nI m_46), .int x_46, .int y_46])), (ra, .inl (cI, oc, .inl fo_46))]) [0, 1, 2, 3, 4] rfl) (hD.sub (ws' := [(v, .inr (3, [.ref va, .ref vb, .int (nI n)])), (va, .inl (cI, 48, .inl fa)), (vb, .inl (cI, 48, .inl fb)), (u, .inr (4, [.ref ra, .int (nI m_46), .int x_46, .int y_46])), (ra, .inl (cI, oc, .inl fo_46))]) [0, 1, 2, 3, 4] rfl rfl) hS ⟨_, rfl, rfl, rfl, _, _, _, _, rfl, (by omega), (dr2_no dl_292 (zR_bad hx_46.1 c_49)), (by first | decide | assumption)⟩
  · refine lv_aload_n hx hb d_Dr_flexBack_52 rfl (lv_at hl 2 rfl) ?_
    refine lv_aload_n hx hb d_Dr_flexBack_53 rfl (lv_at hl 1 rfl) ?_
    refine lv_iconst (v := 5) hx hb d_Dr_flexBack_54 (by decide) ?_
    refine roV (As := [.int 5]) (rest := [.ref u]) ⟨hx, hb, hml, hown, hts⟩ gd_good (c_Va_at l D cB cI cJ v va vb n fa 5 (by omega)) cal_Va_at ml_Dr_47 ⟨Nat.le_of_ble_eq_true rfl, Nat.le_of_ble_eq_true rfl⟩ hZ hP hD (isC := [0, 1]) ⟨rfl, rfl⟩ 0 (ci := 3) rfl rfl rfl rfl hl.1 rfl (Nat.le_of_ble_eq_true rfl) d_Dr_flexBack_55 ⟨Nat.le_of_ble_eq_true rfl, Nat.le_of_ble_eq_true rfl⟩ (fun v hv => ?_)
    have hv : v = .int (trunc n fa 5) := hv.trans (congrArg Value.int (atV_N (j := 5) (by omega) (by omega)))
    subst hv
    refine lv_iconst (v := 0) hx hb d_Dr_flexBack_58 (by decide) ?_
    refine lv_aload_n hx hb d_Dr_flexBack_59 rfl (lv_at hl 1 rfl) ?_
    refine lv_bipush (v := 6) hx hb d_Dr_flexBack_60 (by decide) ?_
    refine roV (As := [.int 6]) (rest := [.int 0, .int (trunc n fa 5), .ref u]) ⟨hx, hb, hml, hown, hts⟩ gd_good (c_Va_at l D cB cI cJ v va vb n fa 6 (by omega)) cal_Va_at ml_Dr_47 ⟨Nat.le_of_ble_eq_true rfl, Nat.le_of_ble_eq_true rfl⟩ hZ hP hD (isC := [0, 1]) ⟨rfl, rfl⟩ 0 (ci := 3) rfl rfl rfl rfl hl.1 rfl (Nat.le_of_ble_eq_true rfl) d_Dr_flexBack_62 ⟨Nat.le_of_ble_eq_true rfl, Nat.le_of_ble_eq_true rfl⟩ (fun v hv => ?_)
    have hv : v = .int (trunc n fa 6) := hv.trans (congrArg Value.int (atV_N (j := 6) (by omega) (by omega)))
    subst hv
    refine lv_aload_n hx hb d_Dr_flexBack_65 rfl (lv_at hl 1 rfl) ?_
    refine lv_bipush (v := 7) hx hb d_Dr_flexBack_66 (by decide) ?_
    refine roV (As := [.int 7]) (rest := [.int (trunc n fa 6), .int 0, .int (trunc n fa 5), .ref u]) ⟨hx, hb, hml, hown, hts⟩ gd_good (c_Va_at l D cB cI cJ v va vb n fa 7 (by omega)) cal_Va_at ml_Dr_47 ⟨Nat.le_of_ble_eq_true rfl, Nat.le_of_ble_eq_true rfl⟩ hZ hP hD (isC := [0, 1]) ⟨rfl, rfl⟩ 0 (ci := 3) rfl rfl rfl rfl hl.1 rfl (Nat.le_of_ble_eq_true rfl) d_Dr_flexBack_68 ⟨Nat.le_of_ble_eq_true rfl, Nat.le_of_ble_eq_true rfl⟩ (fun v hv => ?_)
    have hv : v = .int (trunc n fa 7) := hv.trans (congrArg Value.int (atV_N (j := 7) (by omega) (by omega)))
    subst hv
    refine lv_aload_n hx hb d_Dr_flexBack_71 rfl (lv_at hl 1 rfl) ?_
    refine lv_bipush (v := 8) hx hb d_Dr_flexBack_72 (by decide) ?_
    refine roV (As := [.int 8]) (rest := [.int (trunc n fa 7), .int (trunc n fa 6), .int 0, .int (trunc n fa 5), .ref u]) ⟨hx, hb, hml, hown, hts⟩ gd_good (c_Va_at l D cB cI cJ v va vb n fa 8 (by omega)) cal_Va_at ml_Dr_47 ⟨Nat.le_of_ble_eq_true rfl, Nat.le_of_ble_eq_true rfl⟩ hZ hP hD (isC := [0, 1]) ⟨rfl, rfl⟩ 0 (ci := 3) rfl rfl rfl rfl hl.1 rfl (Nat.le_of_ble_eq_true rfl) d_Dr_flexBack_74 ⟨Nat.le_of_ble_eq_true rfl, Nat.le_of_ble_eq_true rfl⟩ (fun v hv => ?_)
    have hv : v = .int (trunc n fa 8) := hv.trans (congrArg Value.int (atV_N (j := 8) (by omega) (by omega)))
    subst hv
    refine lv_iload_n hx hb d_Dr_flexBack_77 rfl (lv_at hl 0 rfl) ?_
    refine lv_ineg hx hb d_Dr_flexBack_78 ?_
    have hC : Cut [(v, .inr (3, [.ref va, .ref vb, .int (nI n)])), (va, .inl (cI, 48, .inl fa)), (vb, .inl (cI, 48, .inl fb)), (u, .inr (4, [.ref ra, .int (nI m_46), .int x_46, .int y_46])), (ra, .inl (cI, oc, .inl fo_46))] [(u, .inr (4, [.ref ra, .int (nI m_46), .int x_46, .int y_46])), (ra, .inl (cI, oc, .inl fo_46))] [(v, .inr (3, [.ref va, .ref vb, .int (nI n)])), (va, .inl (cI, 48, .inl fa)), (vb, .inl (cI, 48, .inl fb))] [3, 4] [0, 1, 2] := ⟨rfl, rfl, rfl, rfl, by decide⟩
    refine goI0 (trV (As := [.int (trunc n fa 5), .int 0, .int (trunc n fa 6), .int (trunc n fa 7), .int (trunc n fa 8), .int (-(((trunc n fa 1) + (trunc n fa 3)) + (trunc n fa 7)))]) (rest := []) ⟨hx, hb, hml, hown, hts⟩ gd_good (c_Ou_curve l D cB cI cJ u ra oc m_46 x_46 y_46 fo_46 (trunc n fa 5) 0 (trunc n fa 6) (trunc n fa 7) (trunc n fa 8) (-(((trunc n fa 1) + (trunc n fa 3)) + (trunc n fa 7))) (by omega) (fun _ => by omega)) cal_Ou_curve ml_Dr_57 ⟨Nat.le_of_ble_eq_true rfl, Nat.le_of_ble_eq_true rfl⟩ hZ hP hD hC 3 (ci := 4) rfl rfl rfl rfl hl.1 rfl (Nat.le_of_ble_eq_true rfl) d_Dr_flexBack_79 ⟨Nat.le_of_ble_eq_true rfl, Nat.le_of_ble_eq_true rfl⟩) hZ hP hD hS hC (fun r_79 w1 H locs hq hP hD hS => ?_)
    obtain ⟨m_79, x_79, y_79, fo_79, rfl, hv0_79, hx_79, hz_79⟩ := hq
    have hP : va_P D classes [(v, .inr (3, [.ref va, .ref vb, .int (nI n)])), (va, .inl (cI, 48, .inl fa)), (vb, .inl (cI, 48, .inl fb)), (u, .inr (4, [.ref ra, .int (nI m_79), .int x_79, .int y_79])), (ra, .inl (cI, oc, .inl fo_79))] H := hP
    have hD : va_D A_ [(v, .inr (3, [.ref va, .ref vb, .int (nI n)])), (va, .inl (cI, 48, .inl fa)), (vb, .inl (cI, 48, .inl fb)), (u, .inr (4, [.ref ra, .int (nI m_79), .int x_79, .int y_79])), (ra, .inl (cI, oc, .inl fo_79))] := hD
    refine lv_if_eq (tgt := 89) hx hb d_Dr_flexBack_82 (by decide) (fun c_82 => ?_) (fun c_82 => ?_)
    · refine lv_iconst (v := 0) hx hb d_Dr_flexBack_89 (by decide) ?_
      exact t_zret hx hb hr hlk (by first | decide | exact nar01 (by assumption)) d_Dr_flexBack_90 (hP.subm (ws' := [(v, .inr (3, [.ref va, .ref vb, .int (nI n)])), (va, .inl (cI, 48, .inl fa)), (vb, .inl (cI, 48, .inl fb)), (u, .inr (4, [.ref ra, .int (nI m_79), .int x_79, .int y_79])), (ra, .inl (cI, oc, .inl fo_79))]) [0, 1, 2, 3, 4] rfl) (hD.sub (ws' := [(v, .inr (3, [.ref va, .ref vb, .int (nI n)])), (va, .inl (cI, 48, .inl fa)), (vb, .inl (cI, 48, .inl fb)), (u, .inr (4, [.ref ra, .int (nI m_79), .int x_79, .int y_79])), (ra, .inl (cI, oc, .inl fo_79))]) [0, 1, 2, 3, 4] rfl rfl) hS ⟨_, rfl, rfl, rfl, _, _, _, _, rfl, (by omega), (dr2_0 dl_292 (zR_ok hx_46.1 c_49) (zR_bad hx_79.1 c_82)), (by first | decide | assumption)⟩
    · refine lv_iconst (v := 1) hx hb d_Dr_flexBack_85 (by decide) ?_
      refine lv_goto (tgt := 90) hx hb d_Dr_flexBack_86 (by decide) ?_
      exact t_zret hx hb hr hlk (by first | decide | exact nar01 (by assumption)) d_Dr_flexBack_90 (hP.subm (ws' := [(v, .inr (3, [.ref va, .ref vb, .int (nI n)])), (va, .inl (cI, 48, .inl fa)), (vb, .inl (cI, 48, .inl fb)), (u, .inr (4, [.ref ra, .int (nI m_79), .int x_79, .int y_79])), (ra, .inl (cI, oc, .inl fo_79))]) [0, 1, 2, 3, 4] rfl) (hD.sub (ws' := [(v, .inr (3, [.ref va, .ref vb, .int (nI n)])), (va, .inl (cI, 48, .inl fa)), (vb, .inl (cI, 48, .inl fb)), (u, .inr (4, [.ref ra, .int (nI m_79), .int x_79, .int y_79])), (ra, .inl (cI, oc, .inl fo_79))]) [0, 1, 2, 3, 4] rfl rfl) hS ⟨_, rfl, rfl, rfl, _, _, _, _, rfl, (by omega), (dr2_1 dl_292 (zR_ok hx_46.1 c_49) (zR_ok hx_79.1 c_82)), (by first | decide | assumption)⟩
set_option maxHeartbeats 1000000 in
set_option maxRecDepth 100000 in
theorem c_Dr_flexEither (l : Launch) (D : va_G) (cB cI cJ : ClassId) (v va vb u ra oc : Nat) (n : Nat) (fa : Nat → Int32) (fb : Nat → Int32) (m : Nat) (x : Int32) (y : Int32) (fo : Nat → Int32)  (hiVa : n ≤ 48) (hiOu : m ≤ 4000 ∧ 7 * m ≤ oc ∧ 336 ≤ oc ∧ oc ≤ 28000) (hn11 : n = 11) (hroom : 7 * min 4000 (m + n) ≤ oc) : Tr l D classes (TY cB cI cJ) gd_tbl nx_tbl y_Dr_flexEither b_Dr_flexEither 7 (some .boolean) ({ frames := 2, cells := 0, slots := 0, locals := 58 }) [.ref v, .ref u] [(v, .inr (3, [.ref va, .ref vb, .int (nI n)])), (va, .inl (cI, 48, .inl fa)), (vb, .inl (cI, 48, .inl fb)), (u, .inr (4, [.ref ra, .int (nI m), .int x, .int y])), (ra, .inl (cI, oc, .inl fo))] (pI0 (fun r w => ∃ (m' : Nat) (x' : Int32) (y' : Int32) (fo' : Nat → Int32), w = [(v, .inr (3, [.ref va, .ref vb, .int (nI n)])), (va, .inl (cI, 48, .inl fa)), (vb, .inl (cI, 48, .inl fb)), (u, .inr (4, [.ref ra, .int (nI m'), .int x', .int y'])), (ra, .inl (cI, oc, .inl fo'))] ∧ (m' ≤ 4000 ∧ 7 * m' ≤ oc ∧ 336 ≤ oc ∧ oc ≤ 28000) ∧ (zR r (uS m' x' y' fo') = drawAll (uS m x y fo) (drawL 293 n (trunc n fa))) ∧ (r = 0 ∨ r = 1))) := by
  refine Tr.intro (by decide +kernel) nx_ok (Nat.le_of_ble_eq_true rfl) ?_
  intro p_ e_ s_ m_ args_ below_ meth_ c_ A_ ls hx hb hml hown hts hr hlk hnm hZ hP hD hS hl
  have hl : lv_has ls 7 [(0, .ref v), (1, .ref u)] := hl
  refine lv_iconst (v := 0) hx hb d_Dr_flexEither_0 (by decide) ?_
  refine lv_istore_n (lv' := [(2, .int 0), (0, .ref v), (1, .ref u)]) hx hb d_Dr_flexEither_1 rfl hl (by decide) rfl (fun ls hl => ?_)
  refine lv_iconst (v := 0) hx hb d_Dr_flexEither_2 (by decide) ?_
  refine lv_istore_n (lv' := [(3, .int 0), (2, .int 0), (0, .ref v), (1, .ref u)]) hx hb d_Dr_flexEither_3 rfl hl (by decide) rfl (fun ls hl => ?_)
  refine lv_iconst (v := 0) hx hb d_Dr_flexEither_4 (by decide) ?_
  refine lv_istore (lv' := [(4, .int 0), (3, .int 0), (2, .int 0), (0, .ref v), (1, .ref u)]) hx hb d_Dr_flexEither_5 hl (by decide) rfl (fun ls hl => ?_)
  refine lv_iload hx hb d_Dr_flexEither_7 (lv_at hl 0 rfl) ?_
  refine lv_bipush (v := 10) hx hb d_Dr_flexEither_9 (by decide) ?_
  refine lv_icmp_ge (tgt := 40) hx hb d_Dr_flexEither_11 (by decide) (fun c_11 => absurd c_11 (by decide)) (fun c_11 => ?_)
  clear c_11
  refine lv_iload_n hx hb d_Dr_flexEither_14 rfl (lv_at hl 2 rfl) ?_
  refine lv_aload_n hx hb d_Dr_flexEither_15 rfl (lv_at hl 3 rfl) ?_
  refine lv_iload hx hb d_Dr_flexEither_16 (lv_at hl 0 rfl) ?_
  refine roV (As := [.int 0]) (rest := [.int 0]) ⟨hx, hb, hml, hown, hts⟩ gd_good (c_Va_at l D cB cI cJ v va vb n fa 0 (by omega)) cal_Va_at ml_Dr_47 ⟨Nat.le_of_ble_eq_true rfl, Nat.le_of_ble_eq_true rfl⟩ hZ hP hD (isC := [0, 1]) ⟨rfl, rfl⟩ 0 (ci := 3) rfl rfl rfl rfl hl.1 rfl (Nat.le_of_ble_eq_true rfl) d_Dr_flexEither_18 ⟨Nat.le_of_ble_eq_true rfl, Nat.le_of_ble_eq_true rfl⟩ (fun v hv => ?_)
  have hv : v = .int (trunc n fa 0) := hv.trans (congrArg Value.int (atV_N (j := 0) (by omega) (by omega)))
  subst hv
  refine lv_iadd hx hb d_Dr_flexEither_21 ?_
  refine lv_istore_n (lv' := [(2, .int (0 + (trunc n fa 0))), (4, .int 0), (3, .int 0), (0, .ref v), (1, .ref u)]) hx hb d_Dr_flexEither_22 rfl hl (by decide) rfl (fun ls hl => ?_)
  refine lv_iload_n hx hb d_Dr_flexEither_23 rfl (lv_at hl 2 rfl) ?_
  refine lv_aload_n hx hb d_Dr_flexEither_24 rfl (lv_at hl 3 rfl) ?_
  refine lv_iload hx hb d_Dr_flexEither_25 (lv_at hl 1 rfl) ?_
  refine lv_iconst (v := 1) hx hb d_Dr_flexEither_27 (by decide) ?_
  refine lv_iadd hx hb d_Dr_flexEither_28 ?_
  refine lv_tv (y := 1) (by decide) ?_
  refine roV (As := [.int 1]) (rest := [.int 0]) ⟨hx, hb, hml, hown, hts⟩ gd_good (c_Va_at l D cB cI cJ v va vb n fa 1 (by omega)) cal_Va_at ml_Dr_47 ⟨Nat.le_of_ble_eq_true rfl, Nat.le_of_ble_eq_true rfl⟩ hZ hP hD (isC := [0, 1]) ⟨rfl, rfl⟩ 0 (ci := 3) rfl rfl rfl rfl hl.1 rfl (Nat.le_of_ble_eq_true rfl) d_Dr_flexEither_29 ⟨Nat.le_of_ble_eq_true rfl, Nat.le_of_ble_eq_true rfl⟩ (fun v hv => ?_)
  have hv : v = .int (trunc n fa 1) := hv.trans (congrArg Value.int (atV_N (j := 1) (by omega) (by omega)))
  subst hv
  refine lv_iadd hx hb d_Dr_flexEither_32 ?_
  refine lv_istore_n (lv' := [(3, .int (0 + (trunc n fa 1))), (2, .int (0 + (trunc n fa 0))), (4, .int 0), (0, .ref v), (1, .ref u)]) hx hb d_Dr_flexEither_33 rfl hl (by decide) rfl (fun ls hl => ?_)
  refine lv_iinc (v := 2) (lv' := [(4, .int 2), (3, .int (0 + (trunc n fa 1))), (2, .int (0 + (trunc n fa 0))), (0, .ref v), (1, .ref u)]) hx hb d_Dr_flexEither_34 hl (k := 2) rfl (by decide) (by decide) rfl (fun ls hl => ?_)
  refine lv_goto (tgt := 7) hx hb d_Dr_flexEither_37 (by decide) ?_
  refine lv_iload hx hb d_Dr_flexEither_7 (lv_at hl 0 rfl) ?_
  refine lv_bipush (v := 10) hx hb d_Dr_flexEither_9 (by decide) ?_
  refine lv_icmp_ge (tgt := 40) hx hb d_Dr_flexEither_11 (by decide) (fun c_11 => absurd c_11 (by decide)) (fun c_11 => ?_)
  clear c_11
  refine lv_iload_n hx hb d_Dr_flexEither_14 rfl (lv_at hl 2 rfl) ?_
  refine lv_aload_n hx hb d_Dr_flexEither_15 rfl (lv_at hl 3 rfl) ?_
  refine lv_iload hx hb d_Dr_flexEither_16 (lv_at hl 0 rfl) ?_
  refine roV (As := [.int 2]) (rest := [.int (0 + (trunc n fa 0))]) ⟨hx, hb, hml, hown, hts⟩ gd_good (c_Va_at l D cB cI cJ v va vb n fa 2 (by omega)) cal_Va_at ml_Dr_47 ⟨Nat.le_of_ble_eq_true rfl, Nat.le_of_ble_eq_true rfl⟩ hZ hP hD (isC := [0, 1]) ⟨rfl, rfl⟩ 0 (ci := 3) rfl rfl rfl rfl hl.1 rfl (Nat.le_of_ble_eq_true rfl) d_Dr_flexEither_18 ⟨Nat.le_of_ble_eq_true rfl, Nat.le_of_ble_eq_true rfl⟩ (fun v hv => ?_)
  have hv : v = .int (trunc n fa 2) := hv.trans (congrArg Value.int (atV_N (j := 2) (by omega) (by omega)))
  subst hv
  refine lv_iadd hx hb d_Dr_flexEither_21 ?_
  refine lv_istore_n (lv' := [(2, .int ((0 + (trunc n fa 0)) + (trunc n fa 2))), (4, .int 2), (3, .int (0 + (trunc n fa 1))), (0, .ref v), (1, .ref u)]) hx hb d_Dr_flexEither_22 rfl hl (by decide) rfl (fun ls hl => ?_)
  refine lv_iload_n hx hb d_Dr_flexEither_23 rfl (lv_at hl 2 rfl) ?_
  refine lv_aload_n hx hb d_Dr_flexEither_24 rfl (lv_at hl 3 rfl) ?_
  refine lv_iload hx hb d_Dr_flexEither_25 (lv_at hl 1 rfl) ?_
  refine lv_iconst (v := 1) hx hb d_Dr_flexEither_27 (by decide) ?_
  refine lv_iadd hx hb d_Dr_flexEither_28 ?_
  refine lv_tv (y := 3) (by decide) ?_
  refine roV (As := [.int 3]) (rest := [.int (0 + (trunc n fa 1))]) ⟨hx, hb, hml, hown, hts⟩ gd_good (c_Va_at l D cB cI cJ v va vb n fa 3 (by omega)) cal_Va_at ml_Dr_47 ⟨Nat.le_of_ble_eq_true rfl, Nat.le_of_ble_eq_true rfl⟩ hZ hP hD (isC := [0, 1]) ⟨rfl, rfl⟩ 0 (ci := 3) rfl rfl rfl rfl hl.1 rfl (Nat.le_of_ble_eq_true rfl) d_Dr_flexEither_29 ⟨Nat.le_of_ble_eq_true rfl, Nat.le_of_ble_eq_true rfl⟩ (fun v hv => ?_)
  have hv : v = .int (trunc n fa 3) := hv.trans (congrArg Value.int (atV_N (j := 3) (by omega) (by omega)))
  subst hv
  refine lv_iadd hx hb d_Dr_flexEither_32 ?_
  refine lv_istore_n (lv' := [(3, .int ((0 + (trunc n fa 1)) + (trunc n fa 3))), (2, .int ((0 + (trunc n fa 0)) + (trunc n fa 2))), (4, .int 2), (0, .ref v), (1, .ref u)]) hx hb d_Dr_flexEither_33 rfl hl (by decide) rfl (fun ls hl => ?_)
  refine lv_iinc (v := 4) (lv' := [(4, .int 4), (3, .int ((0 + (trunc n fa 1)) + (trunc n fa 3))), (2, .int ((0 + (trunc n fa 0)) + (trunc n fa 2))), (0, .ref v), (1, .ref u)]) hx hb d_Dr_flexEither_34 hl (k := 2) rfl (by decide) (by decide) rfl (fun ls hl => ?_)
  refine lv_goto (tgt := 7) hx hb d_Dr_flexEither_37 (by decide) ?_
  refine lv_iload hx hb d_Dr_flexEither_7 (lv_at hl 0 rfl) ?_
  refine lv_bipush (v := 10) hx hb d_Dr_flexEither_9 (by decide) ?_
  refine lv_icmp_ge (tgt := 40) hx hb d_Dr_flexEither_11 (by decide) (fun c_11 => absurd c_11 (by decide)) (fun c_11 => ?_)
  clear c_11
  refine lv_iload_n hx hb d_Dr_flexEither_14 rfl (lv_at hl 2 rfl) ?_
  refine lv_aload_n hx hb d_Dr_flexEither_15 rfl (lv_at hl 3 rfl) ?_
  refine lv_iload hx hb d_Dr_flexEither_16 (lv_at hl 0 rfl) ?_
  refine roV (As := [.int 4]) (rest := [.int ((0 + (trunc n fa 0)) + (trunc n fa 2))]) ⟨hx, hb, hml, hown, hts⟩ gd_good (c_Va_at l D cB cI cJ v va vb n fa 4 (by omega)) cal_Va_at ml_Dr_47 ⟨Nat.le_of_ble_eq_true rfl, Nat.le_of_ble_eq_true rfl⟩ hZ hP hD (isC := [0, 1]) ⟨rfl, rfl⟩ 0 (ci := 3) rfl rfl rfl rfl hl.1 rfl (Nat.le_of_ble_eq_true rfl) d_Dr_flexEither_18 ⟨Nat.le_of_ble_eq_true rfl, Nat.le_of_ble_eq_true rfl⟩ (fun v hv => ?_)
  have hv : v = .int (trunc n fa 4) := hv.trans (congrArg Value.int (atV_N (j := 4) (by omega) (by omega)))
  subst hv
  refine lv_iadd hx hb d_Dr_flexEither_21 ?_
  refine lv_istore_n (lv' := [(2, .int (((0 + (trunc n fa 0)) + (trunc n fa 2)) + (trunc n fa 4))), (4, .int 4), (3, .int ((0 + (trunc n fa 1)) + (trunc n fa 3))), (0, .ref v), (1, .ref u)]) hx hb d_Dr_flexEither_22 rfl hl (by decide) rfl (fun ls hl => ?_)
  refine lv_iload_n hx hb d_Dr_flexEither_23 rfl (lv_at hl 2 rfl) ?_
  refine lv_aload_n hx hb d_Dr_flexEither_24 rfl (lv_at hl 3 rfl) ?_
  refine lv_iload hx hb d_Dr_flexEither_25 (lv_at hl 1 rfl) ?_
  refine lv_iconst (v := 1) hx hb d_Dr_flexEither_27 (by decide) ?_
  refine lv_iadd hx hb d_Dr_flexEither_28 ?_
  refine lv_tv (y := 5) (by decide) ?_
  refine roV (As := [.int 5]) (rest := [.int ((0 + (trunc n fa 1)) + (trunc n fa 3))]) ⟨hx, hb, hml, hown, hts⟩ gd_good (c_Va_at l D cB cI cJ v va vb n fa 5 (by omega)) cal_Va_at ml_Dr_47 ⟨Nat.le_of_ble_eq_true rfl, Nat.le_of_ble_eq_true rfl⟩ hZ hP hD (isC := [0, 1]) ⟨rfl, rfl⟩ 0 (ci := 3) rfl rfl rfl rfl hl.1 rfl (Nat.le_of_ble_eq_true rfl) d_Dr_flexEither_29 ⟨Nat.le_of_ble_eq_true rfl, Nat.le_of_ble_eq_true rfl⟩ (fun v hv => ?_)
  have hv : v = .int (trunc n fa 5) := hv.trans (congrArg Value.int (atV_N (j := 5) (by omega) (by omega)))
  subst hv
  refine lv_iadd hx hb d_Dr_flexEither_32 ?_
  refine lv_istore_n (lv' := [(3, .int (((0 + (trunc n fa 1)) + (trunc n fa 3)) + (trunc n fa 5))), (2, .int (((0 + (trunc n fa 0)) + (trunc n fa 2)) + (trunc n fa 4))), (4, .int 4), (0, .ref v), (1, .ref u)]) hx hb d_Dr_flexEither_33 rfl hl (by decide) rfl (fun ls hl => ?_)
  refine lv_iinc (v := 6) (lv' := [(4, .int 6), (3, .int (((0 + (trunc n fa 1)) + (trunc n fa 3)) + (trunc n fa 5))), (2, .int (((0 + (trunc n fa 0)) + (trunc n fa 2)) + (trunc n fa 4))), (0, .ref v), (1, .ref u)]) hx hb d_Dr_flexEither_34 hl (k := 2) rfl (by decide) (by decide) rfl (fun ls hl => ?_)
  refine lv_goto (tgt := 7) hx hb d_Dr_flexEither_37 (by decide) ?_
  refine lv_iload hx hb d_Dr_flexEither_7 (lv_at hl 0 rfl) ?_
  refine lv_bipush (v := 10) hx hb d_Dr_flexEither_9 (by decide) ?_
  refine lv_icmp_ge (tgt := 40) hx hb d_Dr_flexEither_11 (by decide) (fun c_11 => absurd c_11 (by decide)) (fun c_11 => ?_)
  clear c_11
  refine lv_iload_n hx hb d_Dr_flexEither_14 rfl (lv_at hl 2 rfl) ?_
  refine lv_aload_n hx hb d_Dr_flexEither_15 rfl (lv_at hl 3 rfl) ?_
  refine lv_iload hx hb d_Dr_flexEither_16 (lv_at hl 0 rfl) ?_
  refine roV (As := [.int 6]) (rest := [.int (((0 + (trunc n fa 0)) + (trunc n fa 2)) + (trunc n fa 4))]) ⟨hx, hb, hml, hown, hts⟩ gd_good (c_Va_at l D cB cI cJ v va vb n fa 6 (by omega)) cal_Va_at ml_Dr_47 ⟨Nat.le_of_ble_eq_true rfl, Nat.le_of_ble_eq_true rfl⟩ hZ hP hD (isC := [0, 1]) ⟨rfl, rfl⟩ 0 (ci := 3) rfl rfl rfl rfl hl.1 rfl (Nat.le_of_ble_eq_true rfl) d_Dr_flexEither_18 ⟨Nat.le_of_ble_eq_true rfl, Nat.le_of_ble_eq_true rfl⟩ (fun v hv => ?_)
  have hv : v = .int (trunc n fa 6) := hv.trans (congrArg Value.int (atV_N (j := 6) (by omega) (by omega)))
  subst hv
  refine lv_iadd hx hb d_Dr_flexEither_21 ?_
  refine lv_istore_n (lv' := [(2, .int ((((0 + (trunc n fa 0)) + (trunc n fa 2)) + (trunc n fa 4)) + (trunc n fa 6))), (4, .int 6), (3, .int (((0 + (trunc n fa 1)) + (trunc n fa 3)) + (trunc n fa 5))), (0, .ref v), (1, .ref u)]) hx hb d_Dr_flexEither_22 rfl hl (by decide) rfl (fun ls hl => ?_)
  refine lv_iload_n hx hb d_Dr_flexEither_23 rfl (lv_at hl 2 rfl) ?_
  refine lv_aload_n hx hb d_Dr_flexEither_24 rfl (lv_at hl 3 rfl) ?_
  refine lv_iload hx hb d_Dr_flexEither_25 (lv_at hl 1 rfl) ?_
  refine lv_iconst (v := 1) hx hb d_Dr_flexEither_27 (by decide) ?_
  refine lv_iadd hx hb d_Dr_flexEither_28 ?_
  refine lv_tv (y := 7) (by decide) ?_
  refine roV (As := [.int 7]) (rest := [.int (((0 + (trunc n fa 1)) + (trunc n fa 3)) + (trunc n fa 5))]) ⟨hx, hb, hml, hown, hts⟩ gd_good (c_Va_at l D cB cI cJ v va vb n fa 7 (by omega)) cal_Va_at ml_Dr_47 ⟨Nat.le_of_ble_eq_true rfl, Nat.le_of_ble_eq_true rfl⟩ hZ hP hD (isC := [0, 1]) ⟨rfl, rfl⟩ 0 (ci := 3) rfl rfl rfl rfl hl.1 rfl (Nat.le_of_ble_eq_true rfl) d_Dr_flexEither_29 ⟨Nat.le_of_ble_eq_true rfl, Nat.le_of_ble_eq_true rfl⟩ (fun v hv => ?_)
  have hv : v = .int (trunc n fa 7) := hv.trans (congrArg Value.int (atV_N (j := 7) (by omega) (by omega)))
  subst hv
  refine lv_iadd hx hb d_Dr_flexEither_32 ?_
  refine lv_istore_n (lv' := [(3, .int ((((0 + (trunc n fa 1)) + (trunc n fa 3)) + (trunc n fa 5)) + (trunc n fa 7))), (2, .int ((((0 + (trunc n fa 0)) + (trunc n fa 2)) + (trunc n fa 4)) + (trunc n fa 6))), (4, .int 6), (0, .ref v), (1, .ref u)]) hx hb d_Dr_flexEither_33 rfl hl (by decide) rfl (fun ls hl => ?_)
  refine lv_iinc (v := 8) (lv' := [(4, .int 8), (3, .int ((((0 + (trunc n fa 1)) + (trunc n fa 3)) + (trunc n fa 5)) + (trunc n fa 7))), (2, .int ((((0 + (trunc n fa 0)) + (trunc n fa 2)) + (trunc n fa 4)) + (trunc n fa 6))), (0, .ref v), (1, .ref u)]) hx hb d_Dr_flexEither_34 hl (k := 2) rfl (by decide) (by decide) rfl (fun ls hl => ?_)
  refine lv_goto (tgt := 7) hx hb d_Dr_flexEither_37 (by decide) ?_
  refine lv_iload hx hb d_Dr_flexEither_7 (lv_at hl 0 rfl) ?_
  refine lv_bipush (v := 10) hx hb d_Dr_flexEither_9 (by decide) ?_
  refine lv_icmp_ge (tgt := 40) hx hb d_Dr_flexEither_11 (by decide) (fun c_11 => absurd c_11 (by decide)) (fun c_11 => ?_)
  clear c_11
  refine lv_iload_n hx hb d_Dr_flexEither_14 rfl (lv_at hl 2 rfl) ?_
  refine lv_aload_n hx hb d_Dr_flexEither_15 rfl (lv_at hl 3 rfl) ?_
  refine lv_iload hx hb d_Dr_flexEither_16 (lv_at hl 0 rfl) ?_
  refine roV (As := [.int 8]) (rest := [.int ((((0 + (trunc n fa 0)) + (trunc n fa 2)) + (trunc n fa 4)) + (trunc n fa 6))]) ⟨hx, hb, hml, hown, hts⟩ gd_good (c_Va_at l D cB cI cJ v va vb n fa 8 (by omega)) cal_Va_at ml_Dr_47 ⟨Nat.le_of_ble_eq_true rfl, Nat.le_of_ble_eq_true rfl⟩ hZ hP hD (isC := [0, 1]) ⟨rfl, rfl⟩ 0 (ci := 3) rfl rfl rfl rfl hl.1 rfl (Nat.le_of_ble_eq_true rfl) d_Dr_flexEither_18 ⟨Nat.le_of_ble_eq_true rfl, Nat.le_of_ble_eq_true rfl⟩ (fun v hv => ?_)
  have hv : v = .int (trunc n fa 8) := hv.trans (congrArg Value.int (atV_N (j := 8) (by omega) (by omega)))
  subst hv
  refine lv_iadd hx hb d_Dr_flexEither_21 ?_
  refine lv_istore_n (lv' := [(2, .int (((((0 + (trunc n fa 0)) + (trunc n fa 2)) + (trunc n fa 4)) + (trunc n fa 6)) + (trunc n fa 8))), (4, .int 8), (3, .int ((((0 + (trunc n fa 1)) + (trunc n fa 3)) + (trunc n fa 5)) + (trunc n fa 7))), (0, .ref v), (1, .ref u)]) hx hb d_Dr_flexEither_22 rfl hl (by decide) rfl (fun ls hl => ?_)
  refine lv_iload_n hx hb d_Dr_flexEither_23 rfl (lv_at hl 2 rfl) ?_
  refine lv_aload_n hx hb d_Dr_flexEither_24 rfl (lv_at hl 3 rfl) ?_
  refine lv_iload hx hb d_Dr_flexEither_25 (lv_at hl 1 rfl) ?_
  refine lv_iconst (v := 1) hx hb d_Dr_flexEither_27 (by decide) ?_
  refine lv_iadd hx hb d_Dr_flexEither_28 ?_
  refine lv_tv (y := 9) (by decide) ?_
  refine roV (As := [.int 9]) (rest := [.int ((((0 + (trunc n fa 1)) + (trunc n fa 3)) + (trunc n fa 5)) + (trunc n fa 7))]) ⟨hx, hb, hml, hown, hts⟩ gd_good (c_Va_at l D cB cI cJ v va vb n fa 9 (by omega)) cal_Va_at ml_Dr_47 ⟨Nat.le_of_ble_eq_true rfl, Nat.le_of_ble_eq_true rfl⟩ hZ hP hD (isC := [0, 1]) ⟨rfl, rfl⟩ 0 (ci := 3) rfl rfl rfl rfl hl.1 rfl (Nat.le_of_ble_eq_true rfl) d_Dr_flexEither_29 ⟨Nat.le_of_ble_eq_true rfl, Nat.le_of_ble_eq_true rfl⟩ (fun v hv => ?_)
  have hv : v = .int (trunc n fa 9) := hv.trans (congrArg Value.int (atV_N (j := 9) (by omega) (by omega)))
  subst hv
  refine lv_iadd hx hb d_Dr_flexEither_32 ?_
  refine lv_istore_n (lv' := [(3, .int (((((0 + (trunc n fa 1)) + (trunc n fa 3)) + (trunc n fa 5)) + (trunc n fa 7)) + (trunc n fa 9))), (2, .int (((((0 + (trunc n fa 0)) + (trunc n fa 2)) + (trunc n fa 4)) + (trunc n fa 6)) + (trunc n fa 8))), (4, .int 8), (0, .ref v), (1, .ref u)]) hx hb d_Dr_flexEither_33 rfl hl (by decide) rfl (fun ls hl => ?_)
  refine lv_iinc (v := 10) (lv' := [(4, .int 10), (3, .int (((((0 + (trunc n fa 1)) + (trunc n fa 3)) + (trunc n fa 5)) + (trunc n fa 7)) + (trunc n fa 9))), (2, .int (((((0 + (trunc n fa 0)) + (trunc n fa 2)) + (trunc n fa 4)) + (trunc n fa 6)) + (trunc n fa 8))), (0, .ref v), (1, .ref u)]) hx hb d_Dr_flexEither_34 hl (k := 2) rfl (by decide) (by decide) rfl (fun ls hl => ?_)
  refine lv_goto (tgt := 7) hx hb d_Dr_flexEither_37 (by decide) ?_
  refine lv_iload hx hb d_Dr_flexEither_7 (lv_at hl 0 rfl) ?_
  refine lv_bipush (v := 10) hx hb d_Dr_flexEither_9 (by decide) ?_
  refine lv_icmp_ge (tgt := 40) hx hb d_Dr_flexEither_11 (by decide) (fun c_11 => ?_) (fun c_11 => absurd (by decide) c_11)
  clear c_11
  refine lv_iload_n hx hb d_Dr_flexEither_40 rfl (lv_at hl 2 rfl) ?_
  refine lv_i2l hx hb d_Dr_flexEither_41 rfl ?_
  refine roS (As := [.long ((((((0 + (trunc n fa 0)) + (trunc n fa 2)) + (trunc n fa 4)) + (trunc n fa 6)) + (trunc n fa 8)).toInt64)]) (rest := []) ⟨hx, hb, hml, hown, hts⟩ gd_good (c_Math_abs l D cB cI cJ ((((((0 + (trunc n fa 0)) + (trunc n fa 2)) + (trunc n fa 4)) + (trunc n fa 6)) + (trunc n fa 8)).toInt64)) cal_Math_abs ml_Dr_61 ⟨Nat.le_of_ble_eq_true rfl, Nat.le_of_ble_eq_true rfl⟩ hZ hP hD (isC := []) ⟨rfl, rfl⟩ rfl hl.1 rfl (Nat.le_of_ble_eq_true rfl) d_Dr_flexEither_42 ⟨Nat.le_of_ble_eq_true rfl, Nat.le_of_ble_eq_true rfl⟩ (fun v hv => ?_)
  have hv : v = .long (absL (((((0 + (trunc n fa 0)) + (trunc n fa 2)) + (trunc n fa 4)) + (trunc n fa 6)) + (trunc n fa 8))) := hv
  subst hv
  refine lv_iload_n hx hb d_Dr_flexEither_45 rfl (lv_at hl 1 rfl) ?_
  refine lv_i2l hx hb d_Dr_flexEither_46 rfl ?_
  refine roS (As := [.long ((((((0 + (trunc n fa 1)) + (trunc n fa 3)) + (trunc n fa 5)) + (trunc n fa 7)) + (trunc n fa 9)).toInt64)]) (rest := [.long (absL (((((0 + (trunc n fa 0)) + (trunc n fa 2)) + (trunc n fa 4)) + (trunc n fa 6)) + (trunc n fa 8)))]) ⟨hx, hb, hml, hown, hts⟩ gd_good (c_Math_abs l D cB cI cJ ((((((0 + (trunc n fa 1)) + (trunc n fa 3)) + (trunc n fa 5)) + (trunc n fa 7)) + (trunc n fa 9)).toInt64)) cal_Math_abs ml_Dr_61 ⟨Nat.le_of_ble_eq_true rfl, Nat.le_of_ble_eq_true rfl⟩ hZ hP hD (isC := []) ⟨rfl, rfl⟩ rfl hl.1 rfl (Nat.le_of_ble_eq_true rfl) d_Dr_flexEither_47 ⟨Nat.le_of_ble_eq_true rfl, Nat.le_of_ble_eq_true rfl⟩ (fun v hv => ?_)
  have hv : v = .long (absL (((((0 + (trunc n fa 1)) + (trunc n fa 3)) + (trunc n fa 5)) + (trunc n fa 7)) + (trunc n fa 9))) := hv
  subst hv
  refine W.lcmp hx hb d_Dr_flexEither_50 ?_
  refine lv_if_le (tgt := 58) hx hb d_Dr_flexEither_51 (by decide) (fun c_51 => ?_) (fun c_51 => ?_)
  · refine lv_iconst (v := 0) hx hb d_Dr_flexEither_58 (by decide) ?_
    refine lv_istore (lv' := [(4, .int 0), (3, .int (((((0 + (trunc n fa 1)) + (trunc n fa 3)) + (trunc n fa 5)) + (trunc n fa 7)) + (trunc n fa 9))), (2, .int (((((0 + (trunc n fa 0)) + (trunc n fa 2)) + (trunc n fa 4)) + (trunc n fa 6)) + (trunc n fa 8))), (0, .ref v), (1, .ref u)]) hx hb d_Dr_flexEither_59 hl (by decide) rfl (fun ls hl => ?_)
    refine lv_iload hx hb d_Dr_flexEither_61 (lv_at hl 0 rfl) ?_
    refine lv_if_eq (tgt := 75) hx hb d_Dr_flexEither_63 (by decide) (fun c_63 => ?_) (fun c_63 => absurd (by decide) c_63)
    clear c_63
    refine lv_iload_n hx hb d_Dr_flexEither_75 rfl (lv_at hl 2 rfl) ?_
    refine lv_ineg hx hb d_Dr_flexEither_76 ?_
    refine lv_istore (lv' := [(5, .int (-(((((0 + (trunc n fa 0)) + (trunc n fa 2)) + (trunc n fa 4)) + (trunc n fa 6)) + (trunc n fa 8)))), (4, .int 0), (3, .int (((((0 + (trunc n fa 1)) + (trunc n fa 3)) + (trunc n fa 5)) + (trunc n fa 7)) + (trunc n fa 9))), (2, .int (((((0 + (trunc n fa 0)) + (trunc n fa 2)) + (trunc n fa 4)) + (trunc n fa 6)) + (trunc n fa 8))), (0, .ref v), (1, .ref u)]) hx hb d_Dr_flexEither_77 hl (by decide) rfl (fun ls hl => ?_)
    refine lv_iload hx hb d_Dr_flexEither_79 (lv_at hl 1 rfl) ?_
    refine lv_if_eq (tgt := 89) hx hb d_Dr_flexEither_81 (by decide) (fun c_81 => ?_) (fun c_81 => absurd (by decide) c_81)
    clear c_81
    refine lv_aload_n hx hb d_Dr_flexEither_89 rfl (lv_at hl 4 rfl) ?_
    refine lv_bipush (v := 10) hx hb d_Dr_flexEither_90 (by decide) ?_
    refine roV (As := [.int 10]) (rest := []) ⟨hx, hb, hml, hown, hts⟩ gd_good (c_Va_at l D cB cI cJ v va vb n fa 10 (by omega)) cal_Va_at ml_Dr_47 ⟨Nat.le_of_ble_eq_true rfl, Nat.le_of_ble_eq_true rfl⟩ hZ hP hD (isC := [0, 1]) ⟨rfl, rfl⟩ 0 (ci := 3) rfl rfl rfl rfl hl.1 rfl (Nat.le_of_ble_eq_true rfl) d_Dr_flexEither_92 ⟨Nat.le_of_ble_eq_true rfl, Nat.le_of_ble_eq_true rfl⟩ (fun v hv => ?_)
    have hv : v = .int (trunc n fa 10) := hv.trans (congrArg Value.int (atV_N (j := 10) (by omega) (by omega)))
    subst hv
    refine lv_istore (lv' := [(6, .int (trunc n fa 10)), (5, .int (-(((((0 + (trunc n fa 0)) + (trunc n fa 2)) + (trunc n fa 4)) + (trunc n fa 6)) + (trunc n fa 8)))), (4, .int 0), (3, .int (((((0 + (trunc n fa 1)) + (trunc n fa 3)) + (trunc n fa 5)) + (trunc n fa 7)) + (trunc n fa 9))), (2, .int (((((0 + (trunc n fa 0)) + (trunc n fa 2)) + (trunc n fa 4)) + (trunc n fa 6)) + (trunc n fa 8))), (0, .ref v), (1, .ref u)]) hx hb d_Dr_flexEither_95 hl (by decide) rfl (fun ls hl => ?_)
    refine lv_aload_n hx hb d_Dr_flexEither_97 rfl (lv_at hl 6 rfl) ?_
    refine lv_aload_n hx hb d_Dr_flexEither_98 rfl (lv_at hl 5 rfl) ?_
    refine lv_iconst (v := 0) hx hb d_Dr_flexEither_99 (by decide) ?_
    refine roV (As := [.int 0]) (rest := [.ref u]) ⟨hx, hb, hml, hown, hts⟩ gd_good (c_Va_at l D cB cI cJ v va vb n fa 0 (by omega)) cal_Va_at ml_Dr_47 ⟨Nat.le_of_ble_eq_true rfl, Nat.le_of_ble_eq_true rfl⟩ hZ hP hD (isC := [0, 1]) ⟨rfl, rfl⟩ 0 (ci := 3) rfl rfl rfl rfl hl.1 rfl (Nat.le_of_ble_eq_true rfl) d_Dr_flexEither_100 ⟨Nat.le_of_ble_eq_true rfl, Nat.le_of_ble_eq_true rfl⟩ (fun v hv => ?_)
    have hv : v = .int (trunc n fa 0) := hv.trans (congrArg Value.int (atV_N (j := 0) (by omega) (by omega)))
    subst hv
    refine lv_aload_n hx hb d_Dr_flexEither_103 rfl (lv_at hl 5 rfl) ?_
    refine lv_iconst (v := 1) hx hb d_Dr_flexEither_104 (by decide) ?_
    refine roV (As := [.int 1]) (rest := [.int (trunc n fa 0), .ref u]) ⟨hx, hb, hml, hown, hts⟩ gd_good (c_Va_at l D cB cI cJ v va vb n fa 1 (by omega)) cal_Va_at ml_Dr_47 ⟨Nat.le_of_ble_eq_true rfl, Nat.le_of_ble_eq_true rfl⟩ hZ hP hD (isC := [0, 1]) ⟨rfl, rfl⟩ 0 (ci := 3) rfl rfl rfl rfl hl.1 rfl (Nat.le_of_ble_eq_true rfl) d_Dr_flexEither_105 ⟨Nat.le_of_ble_eq_true rfl, Nat.le_of_ble_eq_true rfl⟩ (fun v hv => ?_)
    have hv : v = .int (trunc n fa 1) := hv.trans (congrArg Value.int (atV_N (j := 1) (by omega) (by omega)))
    subst hv
    refine lv_aload_n hx hb d_Dr_flexEither_108 rfl (lv_at hl 5 rfl) ?_
    refine lv_iconst (v := 2) hx hb d_Dr_flexEither_109 (by decide) ?_
    refine roV (As := [.int 2]) (rest := [.int (trunc n fa 1), .int (trunc n fa 0), .ref u]) ⟨hx, hb, hml, hown, hts⟩ gd_good (c_Va_at l D cB cI cJ v va vb n fa 2 (by omega)) cal_Va_at ml_Dr_47 ⟨Nat.le_of_ble_eq_true rfl, Nat.le_of_ble_eq_true rfl⟩ hZ hP hD (isC := [0, 1]) ⟨rfl, rfl⟩ 0 (ci := 3) rfl rfl rfl rfl hl.1 rfl (Nat.le_of_ble_eq_true rfl) d_Dr_flexEither_110 ⟨Nat.le_of_ble_eq_true rfl, Nat.le_of_ble_eq_true rfl⟩ (fun v hv => ?_)
    have hv : v = .int (trunc n fa 2) := hv.trans (congrArg Value.int (atV_N (j := 2) (by omega) (by omega)))
    subst hv
    refine lv_aload_n hx hb d_Dr_flexEither_113 rfl (lv_at hl 5 rfl) ?_
    refine lv_iconst (v := 3) hx hb d_Dr_flexEither_114 (by decide) ?_
    refine roV (As := [.int 3]) (rest := [.int (trunc n fa 2), .int (trunc n fa 1), .int (trunc n fa 0), .ref u]) ⟨hx, hb, hml, hown, hts⟩ gd_good (c_Va_at l D cB cI cJ v va vb n fa 3 (by omega)) cal_Va_at ml_Dr_47 ⟨Nat.le_of_ble_eq_true rfl, Nat.le_of_ble_eq_true rfl⟩ hZ hP hD (isC := [0, 1]) ⟨rfl, rfl⟩ 0 (ci := 3) rfl rfl rfl rfl hl.1 rfl (Nat.le_of_ble_eq_true rfl) d_Dr_flexEither_115 ⟨Nat.le_of_ble_eq_true rfl, Nat.le_of_ble_eq_true rfl⟩ (fun v hv => ?_)
    have hv : v = .int (trunc n fa 3) := hv.trans (congrArg Value.int (atV_N (j := 3) (by omega) (by omega)))
    subst hv
    refine lv_aload_n hx hb d_Dr_flexEither_118 rfl (lv_at hl 5 rfl) ?_
    refine lv_iconst (v := 4) hx hb d_Dr_flexEither_119 (by decide) ?_
    refine roV (As := [.int 4]) (rest := [.int (trunc n fa 3), .int (trunc n fa 2), .int (trunc n fa 1), .int (trunc n fa 0), .ref u]) ⟨hx, hb, hml, hown, hts⟩ gd_good (c_Va_at l D cB cI cJ v va vb n fa 4 (by omega)) cal_Va_at ml_Dr_47 ⟨Nat.le_of_ble_eq_true rfl, Nat.le_of_ble_eq_true rfl⟩ hZ hP hD (isC := [0, 1]) ⟨rfl, rfl⟩ 0 (ci := 3) rfl rfl rfl rfl hl.1 rfl (Nat.le_of_ble_eq_true rfl) d_Dr_flexEither_120 ⟨Nat.le_of_ble_eq_true rfl, Nat.le_of_ble_eq_true rfl⟩ (fun v hv => ?_)
    have hv : v = .int (trunc n fa 4) := hv.trans (congrArg Value.int (atV_N (j := 4) (by omega) (by omega)))
    subst hv
    refine lv_aload_n hx hb d_Dr_flexEither_123 rfl (lv_at hl 5 rfl) ?_
    refine lv_iconst (v := 5) hx hb d_Dr_flexEither_124 (by decide) ?_
    refine roV (As := [.int 5]) (rest := [.int (trunc n fa 4), .int (trunc n fa 3), .int (trunc n fa 2), .int (trunc n fa 1), .int (trunc n fa 0), .ref u]) ⟨hx, hb, hml, hown, hts⟩ gd_good (c_Va_at l D cB cI cJ v va vb n fa 5 (by omega)) cal_Va_at ml_Dr_47 ⟨Nat.le_of_ble_eq_true rfl, Nat.le_of_ble_eq_true rfl⟩ hZ hP hD (isC := [0, 1]) ⟨rfl, rfl⟩ 0 (ci := 3) rfl rfl rfl rfl hl.1 rfl (Nat.le_of_ble_eq_true rfl) d_Dr_flexEither_125 ⟨Nat.le_of_ble_eq_true rfl, Nat.le_of_ble_eq_true rfl⟩ (fun v hv => ?_)
    have hv : v = .int (trunc n fa 5) := hv.trans (congrArg Value.int (atV_N (j := 5) (by omega) (by omega)))
    subst hv
    have hC : Cut [(v, .inr (3, [.ref va, .ref vb, .int (nI n)])), (va, .inl (cI, 48, .inl fa)), (vb, .inl (cI, 48, .inl fb)), (u, .inr (4, [.ref ra, .int (nI m), .int x, .int y])), (ra, .inl (cI, oc, .inl fo))] [(u, .inr (4, [.ref ra, .int (nI m), .int x, .int y])), (ra, .inl (cI, oc, .inl fo))] [(v, .inr (3, [.ref va, .ref vb, .int (nI n)])), (va, .inl (cI, 48, .inl fa)), (vb, .inl (cI, 48, .inl fb))] [3, 4] [0, 1, 2] := ⟨rfl, rfl, rfl, rfl, by decide⟩
    refine goI0 (trV (As := [.int (trunc n fa 0), .int (trunc n fa 1), .int (trunc n fa 2), .int (trunc n fa 3), .int (trunc n fa 4), .int (trunc n fa 5)]) (rest := []) ⟨hx, hb, hml, hown, hts⟩ gd_good (c_Ou_curve l D cB cI cJ u ra oc m x y fo (trunc n fa 0) (trunc n fa 1) (trunc n fa 2) (trunc n fa 3) (trunc n fa 4) (trunc n fa 5) (by omega) (fun _ => by omega)) cal_Ou_curve ml_Dr_57 ⟨Nat.le_of_ble_eq_true rfl, Nat.le_of_ble_eq_true rfl⟩ hZ hP hD hC 3 (ci := 4) rfl rfl rfl rfl hl.1 rfl (Nat.le_of_ble_eq_true rfl) d_Dr_flexEither_128 ⟨Nat.le_of_ble_eq_true rfl, Nat.le_of_ble_eq_true rfl⟩) hZ hP hD hS hC (fun r_128 w1 H locs hq hP hD hS => ?_)
    obtain ⟨m_128, x_128, y_128, fo_128, rfl, hv0_128, hx_128, hz_128⟩ := hq
    have hP : va_P D classes [(v, .inr (3, [.ref va, .ref vb, .int (nI n)])), (va, .inl (cI, 48, .inl fa)), (vb, .inl (cI, 48, .inl fb)), (u, .inr (4, [.ref ra, .int (nI m_128), .int x_128, .int y_128])), (ra, .inl (cI, oc, .inl fo_128))] H := hP
    have hD : va_D A_ [(v, .inr (3, [.ref va, .ref vb, .int (nI n)])), (va, .inl (cI, 48, .inl fa)), (vb, .inl (cI, 48, .inl fb)), (u, .inr (4, [.ref ra, .int (nI m_128), .int x_128, .int y_128])), (ra, .inl (cI, oc, .inl fo_128))] := hD
    refine lv_if_eq (tgt := 173) hx hb d_Dr_flexEither_131 (by decide) (fun c_131 => ?_) (fun c_131 => ?_)
    · refine lv_iconst (v := 0) hx hb d_Dr_flexEither_173 (by decide) ?_
      exact t_zret hx hb hr hlk (by first | decide | exact nar01 (by assumption)) d_Dr_flexEither_174 (hP.subm (ws' := [(v, .inr (3, [.ref va, .ref vb, .int (nI n)])), (va, .inl (cI, 48, .inl fa)), (vb, .inl (cI, 48, .inl fb)), (u, .inr (4, [.ref ra, .int (nI m_128), .int x_128, .int y_128])), (ra, .inl (cI, oc, .inl fo_128))]) [0, 1, 2, 3, 4] rfl) (hD.sub (ws' := [(v, .inr (3, [.ref va, .ref vb, .int (nI n)])), (va, .inl (cI, 48, .inl fa)), (vb, .inl (cI, 48, .inl fb)), (u, .inr (4, [.ref ra, .int (nI m_128), .int x_128, .int y_128])), (ra, .inl (cI, oc, .inl fo_128))]) [0, 1, 2, 3, 4] rfl rfl) hS ⟨_, rfl, rfl, rfl, _, _, _, _, rfl, (by omega), (dr2_no (dl_293b c_51) (zR_bad hx_128.1 c_131)), (by first | decide | assumption)⟩
    · refine lv_aload_n hx hb d_Dr_flexEither_134 rfl (lv_at hl 6 rfl) ?_
      refine lv_aload_n hx hb d_Dr_flexEither_135 rfl (lv_at hl 5 rfl) ?_
      refine lv_bipush (v := 6) hx hb d_Dr_flexEither_136 (by decide) ?_
      refine roV (As := [.int 6]) (rest := [.ref u]) ⟨hx, hb, hml, hown, hts⟩ gd_good (c_Va_at l D cB cI cJ v va vb n fa 6 (by omega)) cal_Va_at ml_Dr_47 ⟨Nat.le_of_ble_eq_true rfl, Nat.le_of_ble_eq_true rfl⟩ hZ hP hD (isC := [0, 1]) ⟨rfl, rfl⟩ 0 (ci := 3) rfl rfl rfl rfl hl.1 rfl (Nat.le_of_ble_eq_true rfl) d_Dr_flexEither_138 ⟨Nat.le_of_ble_eq_true rfl, Nat.le_of_ble_eq_true rfl⟩ (fun v hv => ?_)
      have hv : v = .int (trunc n fa 6) := hv.trans (congrArg Value.int (atV_N (j := 6) (by omega) (by omega)))
      subst hv
      refine lv_aload_n hx hb d_Dr_flexEither_141 rfl (lv_at hl 5 rfl) ?_
      refine lv_bipush (v := 7) hx hb d_Dr_flexEither_142 (by decide) ?_
      refine roV (As := [.int 7]) (rest := [.int (trunc n fa 6), .ref u]) ⟨hx, hb, hml, hown, hts⟩ gd_good (c_Va_at l D cB cI cJ v va vb n fa 7 (by omega)) cal_Va_at ml_Dr_47 ⟨Nat.le_of_ble_eq_true rfl, Nat.le_of_ble_eq_true rfl⟩ hZ hP hD (isC := [0, 1]) ⟨rfl, rfl⟩ 0 (ci := 3) rfl rfl rfl rfl hl.1 rfl (Nat.le_of_ble_eq_true rfl) d_Dr_flexEither_144 ⟨Nat.le_of_ble_eq_true rfl, Nat.le_of_ble_eq_true rfl⟩ (fun v hv => ?_)
      have hv : v = .int (trunc n fa 7) := hv.trans (congrArg Value.int (atV_N (j := 7) (by omega) (by omega)))
      subst hv
      refine lv_aload_n hx hb d_Dr_flexEither_147 rfl (lv_at hl 5 rfl) ?_
      refine lv_bipush (v := 8) hx hb d_Dr_flexEither_148 (by decide) ?_
      refine roV (As := [.int 8]) (rest := [.int (trunc n fa 7), .int (trunc n fa 6), .ref u]) ⟨hx, hb, hml, hown, hts⟩ gd_good (c_Va_at l D cB cI cJ v va vb n fa 8 (by omega)) cal_Va_at ml_Dr_47 ⟨Nat.le_of_ble_eq_true rfl, Nat.le_of_ble_eq_true rfl⟩ hZ hP hD (isC := [0, 1]) ⟨rfl, rfl⟩ 0 (ci := 3) rfl rfl rfl rfl hl.1 rfl (Nat.le_of_ble_eq_true rfl) d_Dr_flexEither_150 ⟨Nat.le_of_ble_eq_true rfl, Nat.le_of_ble_eq_true rfl⟩ (fun v hv => ?_)
      have hv : v = .int (trunc n fa 8) := hv.trans (congrArg Value.int (atV_N (j := 8) (by omega) (by omega)))
      subst hv
      refine lv_aload_n hx hb d_Dr_flexEither_153 rfl (lv_at hl 5 rfl) ?_
      refine lv_bipush (v := 9) hx hb d_Dr_flexEither_154 (by decide) ?_
      refine roV (As := [.int 9]) (rest := [.int (trunc n fa 8), .int (trunc n fa 7), .int (trunc n fa 6), .ref u]) ⟨hx, hb, hml, hown, hts⟩ gd_good (c_Va_at l D cB cI cJ v va vb n fa 9 (by omega)) cal_Va_at ml_Dr_47 ⟨Nat.le_of_ble_eq_true rfl, Nat.le_of_ble_eq_true rfl⟩ hZ hP hD (isC := [0, 1]) ⟨rfl, rfl⟩ 0 (ci := 3) rfl rfl rfl rfl hl.1 rfl (Nat.le_of_ble_eq_true rfl) d_Dr_flexEither_156 ⟨Nat.le_of_ble_eq_true rfl, Nat.le_of_ble_eq_true rfl⟩ (fun v hv => ?_)
      have hv : v = .int (trunc n fa 9) := hv.trans (congrArg Value.int (atV_N (j := 9) (by omega) (by omega)))
      subst hv
      refine lv_iload hx hb d_Dr_flexEither_159 (lv_at hl 1 rfl) ?_
      refine lv_iload hx hb d_Dr_flexEither_161 (lv_at hl 0 rfl) ?_
      have hC : Cut [(v, .inr (3, [.ref va, .ref vb, .int (nI n)])), (va, .inl (cI, 48, .inl fa)), (vb, .inl (cI, 48, .inl fb)), (u, .inr (4, [.ref ra, .int (nI m_128), .int x_128, .int y_128])), (ra, .inl (cI, oc, .inl fo_128))] [(u, .inr (4, [.ref ra, .int (nI m_128), .int x_128, .int y_128])), (ra, .inl (cI, oc, .inl fo_128))] [(v, .inr (3, [.ref va, .ref vb, .int (nI n)])), (va, .inl (cI, 48, .inl fa)), (vb, .inl (cI, 48, .inl fb))] [3, 4] [0, 1, 2] := ⟨rfl, rfl, rfl, rfl, by decide⟩
      refine goI0 (trV (As := [.int (trunc n fa 6), .int (trunc n fa 7), .int (trunc n fa 8), .int (trunc n fa 9), .int (-(((((0 + (trunc n fa 0)) + (trunc n fa 2)) + (trunc n fa 4)) + (trunc n fa 6)) + (trunc n fa 8))), .int (trunc n fa 10)]) (rest := []) ⟨hx, hb, hml, hown, hts⟩ gd_good (c_Ou_curve l D cB cI cJ u ra oc m_128 x_128 y_128 fo_128 (trunc n fa 6) (trunc n fa 7) (trunc n fa 8) (trunc n fa 9) (-(((((0 + (trunc n fa 0)) + (trunc n fa 2)) + (trunc n fa 4)) + (trunc n fa 6)) + (trunc n fa 8))) (trunc n fa 10) (by omega) (fun _ => by omega)) cal_Ou_curve ml_Dr_57 ⟨Nat.le_of_ble_eq_true rfl, Nat.le_of_ble_eq_true rfl⟩ hZ hP hD hC 3 (ci := 4) rfl rfl rfl rfl hl.1 rfl (Nat.le_of_ble_eq_true rfl) d_Dr_flexEither_163 ⟨Nat.le_of_ble_eq_true rfl, Nat.le_of_ble_eq_true rfl⟩) hZ hP hD hS hC (fun r_163 w1 H locs hq hP hD hS => ?_)
      obtain ⟨m_163, x_163, y_163, fo_163, rfl, hv0_163, hx_163, hz_163⟩ := hq
      have hP : va_P D classes [(v, .inr (3, [.ref va, .ref vb, .int (nI n)])), (va, .inl (cI, 48, .inl fa)), (vb, .inl (cI, 48, .inl fb)), (u, .inr (4, [.ref ra, .int (nI m_163), .int x_163, .int y_163])), (ra, .inl (cI, oc, .inl fo_163))] H := hP
      have hD : va_D A_ [(v, .inr (3, [.ref va, .ref vb, .int (nI n)])), (va, .inl (cI, 48, .inl fa)), (vb, .inl (cI, 48, .inl fb)), (u, .inr (4, [.ref ra, .int (nI m_163), .int x_163, .int y_163])), (ra, .inl (cI, oc, .inl fo_163))] := hD
      refine lv_if_eq (tgt := 173) hx hb d_Dr_flexEither_166 (by decide) (fun c_166 => ?_) (fun c_166 => ?_)
      · refine lv_iconst (v := 0) hx hb d_Dr_flexEither_173 (by decide) ?_
        exact t_zret hx hb hr hlk (by first | decide | exact nar01 (by assumption)) d_Dr_flexEither_174 (hP.subm (ws' := [(v, .inr (3, [.ref va, .ref vb, .int (nI n)])), (va, .inl (cI, 48, .inl fa)), (vb, .inl (cI, 48, .inl fb)), (u, .inr (4, [.ref ra, .int (nI m_163), .int x_163, .int y_163])), (ra, .inl (cI, oc, .inl fo_163))]) [0, 1, 2, 3, 4] rfl) (hD.sub (ws' := [(v, .inr (3, [.ref va, .ref vb, .int (nI n)])), (va, .inl (cI, 48, .inl fa)), (vb, .inl (cI, 48, .inl fb)), (u, .inr (4, [.ref ra, .int (nI m_163), .int x_163, .int y_163])), (ra, .inl (cI, oc, .inl fo_163))]) [0, 1, 2, 3, 4] rfl rfl) hS ⟨_, rfl, rfl, rfl, _, _, _, _, rfl, (by omega), (dr2_0 (dl_293b c_51) (zR_ok hx_128.1 c_131) (zR_bad hx_163.1 c_166)), (by first | decide | assumption)⟩
      · refine lv_iconst (v := 1) hx hb d_Dr_flexEither_169 (by decide) ?_
        refine lv_goto (tgt := 174) hx hb d_Dr_flexEither_170 (by decide) ?_
        exact t_zret hx hb hr hlk (by first | decide | exact nar01 (by assumption)) d_Dr_flexEither_174 (hP.subm (ws' := [(v, .inr (3, [.ref va, .ref vb, .int (nI n)])), (va, .inl (cI, 48, .inl fa)), (vb, .inl (cI, 48, .inl fb)), (u, .inr (4, [.ref ra, .int (nI m_163), .int x_163, .int y_163])), (ra, .inl (cI, oc, .inl fo_163))]) [0, 1, 2, 3, 4] rfl) (hD.sub (ws' := [(v, .inr (3, [.ref va, .ref vb, .int (nI n)])), (va, .inl (cI, 48, .inl fa)), (vb, .inl (cI, 48, .inl fb)), (u, .inr (4, [.ref ra, .int (nI m_163), .int x_163, .int y_163])), (ra, .inl (cI, oc, .inl fo_163))]) [0, 1, 2, 3, 4] rfl rfl) hS ⟨_, rfl, rfl, rfl, _, _, _, _, rfl, (by omega), (dr2_1 (dl_293b c_51) (zR_ok hx_128.1 c_131) (zR_ok hx_163.1 c_166)), (by first | decide | assumption)⟩
  · refine lv_iconst (v := 1) hx hb d_Dr_flexEither_54 (by decide) ?_
    refine lv_goto (tgt := 59) hx hb d_Dr_flexEither_55 (by decide) ?_
    refine lv_istore (lv' := [(4, .int 1), (3, .int (((((0 + (trunc n fa 1)) + (trunc n fa 3)) + (trunc n fa 5)) + (trunc n fa 7)) + (trunc n fa 9))), (2, .int (((((0 + (trunc n fa 0)) + (trunc n fa 2)) + (trunc n fa 4)) + (trunc n fa 6)) + (trunc n fa 8))), (0, .ref v), (1, .ref u)]) hx hb d_Dr_flexEither_59 hl (by decide) rfl (fun ls hl => ?_)
    refine lv_iload hx hb d_Dr_flexEither_61 (lv_at hl 0 rfl) ?_
    refine lv_if_eq (tgt := 75) hx hb d_Dr_flexEither_63 (by decide) (fun c_63 => absurd c_63 (by decide)) (fun c_63 => ?_)
    clear c_63
    refine lv_aload_n hx hb d_Dr_flexEither_66 rfl (lv_at hl 3 rfl) ?_
    refine lv_bipush (v := 10) hx hb d_Dr_flexEither_67 (by decide) ?_
    refine roV (As := [.int 10]) (rest := []) ⟨hx, hb, hml, hown, hts⟩ gd_good (c_Va_at l D cB cI cJ v va vb n fa 10 (by omega)) cal_Va_at ml_Dr_47 ⟨Nat.le_of_ble_eq_true rfl, Nat.le_of_ble_eq_true rfl⟩ hZ hP hD (isC := [0, 1]) ⟨rfl, rfl⟩ 0 (ci := 3) rfl rfl rfl rfl hl.1 rfl (Nat.le_of_ble_eq_true rfl) d_Dr_flexEither_69 ⟨Nat.le_of_ble_eq_true rfl, Nat.le_of_ble_eq_true rfl⟩ (fun v hv => ?_)
    have hv : v = .int (trunc n fa 10) := hv.trans (congrArg Value.int (atV_N (j := 10) (by omega) (by omega)))
    subst hv
    refine lv_goto (tgt := 77) hx hb d_Dr_flexEither_72 (by decide) ?_
    refine lv_istore (lv' := [(5, .int (trunc n fa 10)), (4, .int 1), (3, .int (((((0 + (trunc n fa 1)) + (trunc n fa 3)) + (trunc n fa 5)) + (trunc n fa 7)) + (trunc n fa 9))), (2, .int (((((0 + (trunc n fa 0)) + (trunc n fa 2)) + (trunc n fa 4)) + (trunc n fa 6)) + (trunc n fa 8))), (0, .ref v), (1, .ref u)]) hx hb d_Dr_flexEither_77 hl (by decide) rfl (fun ls hl => ?_)
    refine lv_iload hx hb d_Dr_flexEither_79 (lv_at hl 1 rfl) ?_
    refine lv_if_eq (tgt := 89) hx hb d_Dr_flexEither_81 (by decide) (fun c_81 => absurd c_81 (by decide)) (fun c_81 => ?_)
    clear c_81
    refine lv_iload_n hx hb d_Dr_flexEither_84 rfl (lv_at hl 2 rfl) ?_
    refine lv_ineg hx hb d_Dr_flexEither_85 ?_
    refine lv_goto (tgt := 95) hx hb d_Dr_flexEither_86 (by decide) ?_
    refine lv_istore (lv' := [(6, .int (-(((((0 + (trunc n fa 1)) + (trunc n fa 3)) + (trunc n fa 5)) + (trunc n fa 7)) + (trunc n fa 9)))), (5, .int (trunc n fa 10)), (4, .int 1), (3, .int (((((0 + (trunc n fa 1)) + (trunc n fa 3)) + (trunc n fa 5)) + (trunc n fa 7)) + (trunc n fa 9))), (2, .int (((((0 + (trunc n fa 0)) + (trunc n fa 2)) + (trunc n fa 4)) + (trunc n fa 6)) + (trunc n fa 8))), (0, .ref v), (1, .ref u)]) hx hb d_Dr_flexEither_95 hl (by decide) rfl (fun ls hl => ?_)
    refine lv_aload_n hx hb d_Dr_flexEither_97 rfl (lv_at hl 6 rfl) ?_
    refine lv_aload_n hx hb d_Dr_flexEither_98 rfl (lv_at hl 5 rfl) ?_
    refine lv_iconst (v := 0) hx hb d_Dr_flexEither_99 (by decide) ?_
    refine roV (As := [.int 0]) (rest := [.ref u]) ⟨hx, hb, hml, hown, hts⟩ gd_good (c_Va_at l D cB cI cJ v va vb n fa 0 (by omega)) cal_Va_at ml_Dr_47 ⟨Nat.le_of_ble_eq_true rfl, Nat.le_of_ble_eq_true rfl⟩ hZ hP hD (isC := [0, 1]) ⟨rfl, rfl⟩ 0 (ci := 3) rfl rfl rfl rfl hl.1 rfl (Nat.le_of_ble_eq_true rfl) d_Dr_flexEither_100 ⟨Nat.le_of_ble_eq_true rfl, Nat.le_of_ble_eq_true rfl⟩ (fun v hv => ?_)
    have hv : v = .int (trunc n fa 0) := hv.trans (congrArg Value.int (atV_N (j := 0) (by omega) (by omega)))
    subst hv
    refine lv_aload_n hx hb d_Dr_flexEither_103 rfl (lv_at hl 5 rfl) ?_
    refine lv_iconst (v := 1) hx hb d_Dr_flexEither_104 (by decide) ?_
    refine roV (As := [.int 1]) (rest := [.int (trunc n fa 0), .ref u]) ⟨hx, hb, hml, hown, hts⟩ gd_good (c_Va_at l D cB cI cJ v va vb n fa 1 (by omega)) cal_Va_at ml_Dr_47 ⟨Nat.le_of_ble_eq_true rfl, Nat.le_of_ble_eq_true rfl⟩ hZ hP hD (isC := [0, 1]) ⟨rfl, rfl⟩ 0 (ci := 3) rfl rfl rfl rfl hl.1 rfl (Nat.le_of_ble_eq_true rfl) d_Dr_flexEither_105 ⟨Nat.le_of_ble_eq_true rfl, Nat.le_of_ble_eq_true rfl⟩ (fun v hv => ?_)
    have hv : v = .int (trunc n fa 1) := hv.trans (congrArg Value.int (atV_N (j := 1) (by omega) (by omega)))
    subst hv
    refine lv_aload_n hx hb d_Dr_flexEither_108 rfl (lv_at hl 5 rfl) ?_
    refine lv_iconst (v := 2) hx hb d_Dr_flexEither_109 (by decide) ?_
    refine roV (As := [.int 2]) (rest := [.int (trunc n fa 1), .int (trunc n fa 0), .ref u]) ⟨hx, hb, hml, hown, hts⟩ gd_good (c_Va_at l D cB cI cJ v va vb n fa 2 (by omega)) cal_Va_at ml_Dr_47 ⟨Nat.le_of_ble_eq_true rfl, Nat.le_of_ble_eq_true rfl⟩ hZ hP hD (isC := [0, 1]) ⟨rfl, rfl⟩ 0 (ci := 3) rfl rfl rfl rfl hl.1 rfl (Nat.le_of_ble_eq_true rfl) d_Dr_flexEither_110 ⟨Nat.le_of_ble_eq_true rfl, Nat.le_of_ble_eq_true rfl⟩ (fun v hv => ?_)
    have hv : v = .int (trunc n fa 2) := hv.trans (congrArg Value.int (atV_N (j := 2) (by omega) (by omega)))
    subst hv
    refine lv_aload_n hx hb d_Dr_flexEither_113 rfl (lv_at hl 5 rfl) ?_
    refine lv_iconst (v := 3) hx hb d_Dr_flexEither_114 (by decide) ?_
    refine roV (As := [.int 3]) (rest := [.int (trunc n fa 2), .int (trunc n fa 1), .int (trunc n fa 0), .ref u]) ⟨hx, hb, hml, hown, hts⟩ gd_good (c_Va_at l D cB cI cJ v va vb n fa 3 (by omega)) cal_Va_at ml_Dr_47 ⟨Nat.le_of_ble_eq_true rfl, Nat.le_of_ble_eq_true rfl⟩ hZ hP hD (isC := [0, 1]) ⟨rfl, rfl⟩ 0 (ci := 3) rfl rfl rfl rfl hl.1 rfl (Nat.le_of_ble_eq_true rfl) d_Dr_flexEither_115 ⟨Nat.le_of_ble_eq_true rfl, Nat.le_of_ble_eq_true rfl⟩ (fun v hv => ?_)
    have hv : v = .int (trunc n fa 3) := hv.trans (congrArg Value.int (atV_N (j := 3) (by omega) (by omega)))
    subst hv
    refine lv_aload_n hx hb d_Dr_flexEither_118 rfl (lv_at hl 5 rfl) ?_
    refine lv_iconst (v := 4) hx hb d_Dr_flexEither_119 (by decide) ?_
    refine roV (As := [.int 4]) (rest := [.int (trunc n fa 3), .int (trunc n fa 2), .int (trunc n fa 1), .int (trunc n fa 0), .ref u]) ⟨hx, hb, hml, hown, hts⟩ gd_good (c_Va_at l D cB cI cJ v va vb n fa 4 (by omega)) cal_Va_at ml_Dr_47 ⟨Nat.le_of_ble_eq_true rfl, Nat.le_of_ble_eq_true rfl⟩ hZ hP hD (isC := [0, 1]) ⟨rfl, rfl⟩ 0 (ci := 3) rfl rfl rfl rfl hl.1 rfl (Nat.le_of_ble_eq_true rfl) d_Dr_flexEither_120 ⟨Nat.le_of_ble_eq_true rfl, Nat.le_of_ble_eq_true rfl⟩ (fun v hv => ?_)
    have hv : v = .int (trunc n fa 4) := hv.trans (congrArg Value.int (atV_N (j := 4) (by omega) (by omega)))
    subst hv
    refine lv_aload_n hx hb d_Dr_flexEither_123 rfl (lv_at hl 5 rfl) ?_
    refine lv_iconst (v := 5) hx hb d_Dr_flexEither_124 (by decide) ?_
    refine roV (As := [.int 5]) (rest := [.int (trunc n fa 4), .int (trunc n fa 3), .int (trunc n fa 2), .int (trunc n fa 1), .int (trunc n fa 0), .ref u]) ⟨hx, hb, hml, hown, hts⟩ gd_good (c_Va_at l D cB cI cJ v va vb n fa 5 (by omega)) cal_Va_at ml_Dr_47 ⟨Nat.le_of_ble_eq_true rfl, Nat.le_of_ble_eq_true rfl⟩ hZ hP hD (isC := [0, 1]) ⟨rfl, rfl⟩ 0 (ci := 3) rfl rfl rfl rfl hl.1 rfl (Nat.le_of_ble_eq_true rfl) d_Dr_flexEither_125 ⟨Nat.le_of_ble_eq_true rfl, Nat.le_of_ble_eq_true rfl⟩ (fun v hv => ?_)
    have hv : v = .int (trunc n fa 5) := hv.trans (congrArg Value.int (atV_N (j := 5) (by omega) (by omega)))
    subst hv
    have hC : Cut [(v, .inr (3, [.ref va, .ref vb, .int (nI n)])), (va, .inl (cI, 48, .inl fa)), (vb, .inl (cI, 48, .inl fb)), (u, .inr (4, [.ref ra, .int (nI m), .int x, .int y])), (ra, .inl (cI, oc, .inl fo))] [(u, .inr (4, [.ref ra, .int (nI m), .int x, .int y])), (ra, .inl (cI, oc, .inl fo))] [(v, .inr (3, [.ref va, .ref vb, .int (nI n)])), (va, .inl (cI, 48, .inl fa)), (vb, .inl (cI, 48, .inl fb))] [3, 4] [0, 1, 2] := ⟨rfl, rfl, rfl, rfl, by decide⟩
    refine goI0 (trV (As := [.int (trunc n fa 0), .int (trunc n fa 1), .int (trunc n fa 2), .int (trunc n fa 3), .int (trunc n fa 4), .int (trunc n fa 5)]) (rest := []) ⟨hx, hb, hml, hown, hts⟩ gd_good (c_Ou_curve l D cB cI cJ u ra oc m x y fo (trunc n fa 0) (trunc n fa 1) (trunc n fa 2) (trunc n fa 3) (trunc n fa 4) (trunc n fa 5) (by omega) (fun _ => by omega)) cal_Ou_curve ml_Dr_57 ⟨Nat.le_of_ble_eq_true rfl, Nat.le_of_ble_eq_true rfl⟩ hZ hP hD hC 3 (ci := 4) rfl rfl rfl rfl hl.1 rfl (Nat.le_of_ble_eq_true rfl) d_Dr_flexEither_128 ⟨Nat.le_of_ble_eq_true rfl, Nat.le_of_ble_eq_true rfl⟩) hZ hP hD hS hC (fun r_128 w1 H locs hq hP hD hS => ?_)
    obtain ⟨m_128, x_128, y_128, fo_128, rfl, hv0_128, hx_128, hz_128⟩ := hq
    have hP : va_P D classes [(v, .inr (3, [.ref va, .ref vb, .int (nI n)])), (va, .inl (cI, 48, .inl fa)), (vb, .inl (cI, 48, .inl fb)), (u, .inr (4, [.ref ra, .int (nI m_128), .int x_128, .int y_128])), (ra, .inl (cI, oc, .inl fo_128))] H := hP
    have hD : va_D A_ [(v, .inr (3, [.ref va, .ref vb, .int (nI n)])), (va, .inl (cI, 48, .inl fa)), (vb, .inl (cI, 48, .inl fb)), (u, .inr (4, [.ref ra, .int (nI m_128), .int x_128, .int y_128])), (ra, .inl (cI, oc, .inl fo_128))] := hD
    refine lv_if_eq (tgt := 173) hx hb d_Dr_flexEither_131 (by decide) (fun c_131 => ?_) (fun c_131 => ?_)
    · refine lv_iconst (v := 0) hx hb d_Dr_flexEither_173 (by decide) ?_
      exact t_zret hx hb hr hlk (by first | decide | exact nar01 (by assumption)) d_Dr_flexEither_174 (hP.subm (ws' := [(v, .inr (3, [.ref va, .ref vb, .int (nI n)])), (va, .inl (cI, 48, .inl fa)), (vb, .inl (cI, 48, .inl fb)), (u, .inr (4, [.ref ra, .int (nI m_128), .int x_128, .int y_128])), (ra, .inl (cI, oc, .inl fo_128))]) [0, 1, 2, 3, 4] rfl) (hD.sub (ws' := [(v, .inr (3, [.ref va, .ref vb, .int (nI n)])), (va, .inl (cI, 48, .inl fa)), (vb, .inl (cI, 48, .inl fb)), (u, .inr (4, [.ref ra, .int (nI m_128), .int x_128, .int y_128])), (ra, .inl (cI, oc, .inl fo_128))]) [0, 1, 2, 3, 4] rfl rfl) hS ⟨_, rfl, rfl, rfl, _, _, _, _, rfl, (by omega), (dr2_no (dl_293a c_51) (zR_bad hx_128.1 c_131)), (by first | decide | assumption)⟩
    · refine lv_aload_n hx hb d_Dr_flexEither_134 rfl (lv_at hl 6 rfl) ?_
      refine lv_aload_n hx hb d_Dr_flexEither_135 rfl (lv_at hl 5 rfl) ?_
      refine lv_bipush (v := 6) hx hb d_Dr_flexEither_136 (by decide) ?_
      refine roV (As := [.int 6]) (rest := [.ref u]) ⟨hx, hb, hml, hown, hts⟩ gd_good (c_Va_at l D cB cI cJ v va vb n fa 6 (by omega)) cal_Va_at ml_Dr_47 ⟨Nat.le_of_ble_eq_true rfl, Nat.le_of_ble_eq_true rfl⟩ hZ hP hD (isC := [0, 1]) ⟨rfl, rfl⟩ 0 (ci := 3) rfl rfl rfl rfl hl.1 rfl (Nat.le_of_ble_eq_true rfl) d_Dr_flexEither_138 ⟨Nat.le_of_ble_eq_true rfl, Nat.le_of_ble_eq_true rfl⟩ (fun v hv => ?_)
      have hv : v = .int (trunc n fa 6) := hv.trans (congrArg Value.int (atV_N (j := 6) (by omega) (by omega)))
      subst hv
      refine lv_aload_n hx hb d_Dr_flexEither_141 rfl (lv_at hl 5 rfl) ?_
      refine lv_bipush (v := 7) hx hb d_Dr_flexEither_142 (by decide) ?_
      refine roV (As := [.int 7]) (rest := [.int (trunc n fa 6), .ref u]) ⟨hx, hb, hml, hown, hts⟩ gd_good (c_Va_at l D cB cI cJ v va vb n fa 7 (by omega)) cal_Va_at ml_Dr_47 ⟨Nat.le_of_ble_eq_true rfl, Nat.le_of_ble_eq_true rfl⟩ hZ hP hD (isC := [0, 1]) ⟨rfl, rfl⟩ 0 (ci := 3) rfl rfl rfl rfl hl.1 rfl (Nat.le_of_ble_eq_true rfl) d_Dr_flexEither_144 ⟨Nat.le_of_ble_eq_true rfl, Nat.le_of_ble_eq_true rfl⟩ (fun v hv => ?_)
      have hv : v = .int (trunc n fa 7) := hv.trans (congrArg Value.int (atV_N (j := 7) (by omega) (by omega)))
      subst hv
      refine lv_aload_n hx hb d_Dr_flexEither_147 rfl (lv_at hl 5 rfl) ?_
      refine lv_bipush (v := 8) hx hb d_Dr_flexEither_148 (by decide) ?_
      refine roV (As := [.int 8]) (rest := [.int (trunc n fa 7), .int (trunc n fa 6), .ref u]) ⟨hx, hb, hml, hown, hts⟩ gd_good (c_Va_at l D cB cI cJ v va vb n fa 8 (by omega)) cal_Va_at ml_Dr_47 ⟨Nat.le_of_ble_eq_true rfl, Nat.le_of_ble_eq_true rfl⟩ hZ hP hD (isC := [0, 1]) ⟨rfl, rfl⟩ 0 (ci := 3) rfl rfl rfl rfl hl.1 rfl (Nat.le_of_ble_eq_true rfl) d_Dr_flexEither_150 ⟨Nat.le_of_ble_eq_true rfl, Nat.le_of_ble_eq_true rfl⟩ (fun v hv => ?_)
      have hv : v = .int (trunc n fa 8) := hv.trans (congrArg Value.int (atV_N (j := 8) (by omega) (by omega)))
      subst hv
      refine lv_aload_n hx hb d_Dr_flexEither_153 rfl (lv_at hl 5 rfl) ?_
      refine lv_bipush (v := 9) hx hb d_Dr_flexEither_154 (by decide) ?_
      refine roV (As := [.int 9]) (rest := [.int (trunc n fa 8), .int (trunc n fa 7), .int (trunc n fa 6), .ref u]) ⟨hx, hb, hml, hown, hts⟩ gd_good (c_Va_at l D cB cI cJ v va vb n fa 9 (by omega)) cal_Va_at ml_Dr_47 ⟨Nat.le_of_ble_eq_true rfl, Nat.le_of_ble_eq_true rfl⟩ hZ hP hD (isC := [0, 1]) ⟨rfl, rfl⟩ 0 (ci := 3) rfl rfl rfl rfl hl.1 rfl (Nat.le_of_ble_eq_true rfl) d_Dr_flexEither_156 ⟨Nat.le_of_ble_eq_true rfl, Nat.le_of_ble_eq_true rfl⟩ (fun v hv => ?_)
      have hv : v = .int (trunc n fa 9) := hv.trans (congrArg Value.int (atV_N (j := 9) (by omega) (by omega)))
      subst hv
      refine lv_iload hx hb d_Dr_flexEither_159 (lv_at hl 1 rfl) ?_
      refine lv_iload hx hb d_Dr_flexEither_161 (lv_at hl 0 rfl) ?_
      have hC : Cut [(v, .inr (3, [.ref va, .ref vb, .int (nI n)])), (va, .inl (cI, 48, .inl fa)), (vb, .inl (cI, 48, .inl fb)), (u, .inr (4, [.ref ra, .int (nI m_128), .int x_128, .int y_128])), (ra, .inl (cI, oc, .inl fo_128))] [(u, .inr (4, [.ref ra, .int (nI m_128), .int x_128, .int y_128])), (ra, .inl (cI, oc, .inl fo_128))] [(v, .inr (3, [.ref va, .ref vb, .int (nI n)])), (va, .inl (cI, 48, .inl fa)), (vb, .inl (cI, 48, .inl fb))] [3, 4] [0, 1, 2] := ⟨rfl, rfl, rfl, rfl, by decide⟩
      refine goI0 (trV (As := [.int (trunc n fa 6), .int (trunc n fa 7), .int (trunc n fa 8), .int (trunc n fa 9), .int (trunc n fa 10), .int (-(((((0 + (trunc n fa 1)) + (trunc n fa 3)) + (trunc n fa 5)) + (trunc n fa 7)) + (trunc n fa 9)))]) (rest := []) ⟨hx, hb, hml, hown, hts⟩ gd_good (c_Ou_curve l D cB cI cJ u ra oc m_128 x_128 y_128 fo_128 (trunc n fa 6) (trunc n fa 7) (trunc n fa 8) (trunc n fa 9) (trunc n fa 10) (-(((((0 + (trunc n fa 1)) + (trunc n fa 3)) + (trunc n fa 5)) + (trunc n fa 7)) + (trunc n fa 9))) (by omega) (fun _ => by omega)) cal_Ou_curve ml_Dr_57 ⟨Nat.le_of_ble_eq_true rfl, Nat.le_of_ble_eq_true rfl⟩ hZ hP hD hC 3 (ci := 4) rfl rfl rfl rfl hl.1 rfl (Nat.le_of_ble_eq_true rfl) d_Dr_flexEither_163 ⟨Nat.le_of_ble_eq_true rfl, Nat.le_of_ble_eq_true rfl⟩) hZ hP hD hS hC (fun r_163 w1 H locs hq hP hD hS => ?_)
      obtain ⟨m_163, x_163, y_163, fo_163, rfl, hv0_163, hx_163, hz_163⟩ := hq
      have hP : va_P D classes [(v, .inr (3, [.ref va, .ref vb, .int (nI n)])), (va, .inl (cI, 48, .inl fa)), (vb, .inl (cI, 48, .inl fb)), (u, .inr (4, [.ref ra, .int (nI m_163), .int x_163, .int y_163])), (ra, .inl (cI, oc, .inl fo_163))] H := hP
      have hD : va_D A_ [(v, .inr (3, [.ref va, .ref vb, .int (nI n)])), (va, .inl (cI, 48, .inl fa)), (vb, .inl (cI, 48, .inl fb)), (u, .inr (4, [.ref ra, .int (nI m_163), .int x_163, .int y_163])), (ra, .inl (cI, oc, .inl fo_163))] := hD
      refine lv_if_eq (tgt := 173) hx hb d_Dr_flexEither_166 (by decide) (fun c_166 => ?_) (fun c_166 => ?_)
      · refine lv_iconst (v := 0) hx hb d_Dr_flexEither_173 (by decide) ?_
        exact t_zret hx hb hr hlk (by first | decide | exact nar01 (by assumption)) d_Dr_flexEither_174 (hP.subm (ws' := [(v, .inr (3, [.ref va, .ref vb, .int (nI n)])), (va, .inl (cI, 48, .inl fa)), (vb, .inl (cI, 48, .inl fb)), (u, .inr (4, [.ref ra, .int (nI m_163), .int x_163, .int y_163])), (ra, .inl (cI, oc, .inl fo_163))]) [0, 1, 2, 3, 4] rfl) (hD.sub (ws' := [(v, .inr (3, [.ref va, .ref vb, .int (nI n)])), (va, .inl (cI, 48, .inl fa)), (vb, .inl (cI, 48, .inl fb)), (u, .inr (4, [.ref ra, .int (nI m_163), .int x_163, .int y_163])), (ra, .inl (cI, oc, .inl fo_163))]) [0, 1, 2, 3, 4] rfl rfl) hS ⟨_, rfl, rfl, rfl, _, _, _, _, rfl, (by omega), (dr2_0 (dl_293a c_51) (zR_ok hx_128.1 c_131) (zR_bad hx_163.1 c_166)), (by first | decide | assumption)⟩
      · refine lv_iconst (v := 1) hx hb d_Dr_flexEither_169 (by decide) ?_
        refine lv_goto (tgt := 174) hx hb d_Dr_flexEither_170 (by decide) ?_
        exact t_zret hx hb hr hlk (by first | decide | exact nar01 (by assumption)) d_Dr_flexEither_174 (hP.subm (ws' := [(v, .inr (3, [.ref va, .ref vb, .int (nI n)])), (va, .inl (cI, 48, .inl fa)), (vb, .inl (cI, 48, .inl fb)), (u, .inr (4, [.ref ra, .int (nI m_163), .int x_163, .int y_163])), (ra, .inl (cI, oc, .inl fo_163))]) [0, 1, 2, 3, 4] rfl) (hD.sub (ws' := [(v, .inr (3, [.ref va, .ref vb, .int (nI n)])), (va, .inl (cI, 48, .inl fa)), (vb, .inl (cI, 48, .inl fb)), (u, .inr (4, [.ref ra, .int (nI m_163), .int x_163, .int y_163])), (ra, .inl (cI, oc, .inl fo_163))]) [0, 1, 2, 3, 4] rfl rfl) hS ⟨_, rfl, rfl, rfl, _, _, _, _, rfl, (by omega), (dr2_1 (dl_293a c_51) (zR_ok hx_128.1 c_131) (zR_ok hx_163.1 c_166)), (by first | decide | assumption)⟩
set_option maxHeartbeats 1000000 in
set_option maxRecDepth 100000 in
theorem c_Dr_isDrawing (l : Launch) (D : va_G) (cB cI cJ : ClassId) (c : Nat) (hc : c ≤ 511) : Ro l D classes (TY cB cI cJ) gd_tbl nx_tbl y_Dr_isDrawing b_Dr_isDrawing 1 (some .boolean) ({ frames := 0, cells := 0, slots := 0, locals := 0 }) [.int (nI c)] [] (fun v => v = .int (if isDr c = true then 1 else 0)) := by
  refine Ro.intro (by decide +kernel) nx_ok (Nat.le_of_ble_eq_true rfl) ?_
  intro p_ e_ s_ m_ args_ below_ meth_ c_ A_ ls hx hb hml hown hts hr hlk hnm hZ hP hD hl
  have hl : lv_has ls 1 [(0, .int (nI c))] := hl
  refine lv_iload_n hx hb d_Dr_isDrawing_0 rfl (lv_at hl 0 rfl) ?_
  by_cases h_1_5 : c = 5
  · subst h_1_5
    refine lv_lookup (tgt := 124) (off := 123) hx hb d_Dr_isDrawing_1 (by decide) (by first | rfl | decide) (by decide) ?_
    refine lv_iconst (v := 1) hx hb d_Dr_isDrawing_124 (by decide) ?_
    exact r_zret hx hb hr hlk (by decide) d_Dr_isDrawing_125 rfl
  by_cases h_1_6 : c = 6
  · subst h_1_6
    refine lv_lookup (tgt := 124) (off := 123) hx hb d_Dr_isDrawing_1 (by decide) (by first | rfl | decide) (by decide) ?_
    refine lv_iconst (v := 1) hx hb d_Dr_isDrawing_124 (by decide) ?_
    exact r_zret hx hb hr hlk (by decide) d_Dr_isDrawing_125 rfl
  by_cases h_1_7 : c = 7
  · subst h_1_7
    refine lv_lookup (tgt := 124) (off := 123) hx hb d_Dr_isDrawing_1 (by decide) (by first | rfl | decide) (by decide) ?_
    refine lv_iconst (v := 1) hx hb d_Dr_isDrawing_124 (by decide) ?_
    exact r_zret hx hb hr hlk (by decide) d_Dr_isDrawing_125 rfl
  by_cases h_1_8 : c = 8
  · subst h_1_8
    refine lv_lookup (tgt := 124) (off := 123) hx hb d_Dr_isDrawing_1 (by decide) (by first | rfl | decide) (by decide) ?_
    refine lv_iconst (v := 1) hx hb d_Dr_isDrawing_124 (by decide) ?_
    exact r_zret hx hb hr hlk (by decide) d_Dr_isDrawing_125 rfl
  by_cases h_1_24 : c = 24
  · subst h_1_24
    refine lv_lookup (tgt := 124) (off := 123) hx hb d_Dr_isDrawing_1 (by decide) (by first | rfl | decide) (by decide) ?_
    refine lv_iconst (v := 1) hx hb d_Dr_isDrawing_124 (by decide) ?_
    exact r_zret hx hb hr hlk (by decide) d_Dr_isDrawing_125 rfl
  by_cases h_1_25 : c = 25
  · subst h_1_25
    refine lv_lookup (tgt := 124) (off := 123) hx hb d_Dr_isDrawing_1 (by decide) (by first | rfl | decide) (by decide) ?_
    refine lv_iconst (v := 1) hx hb d_Dr_isDrawing_124 (by decide) ?_
    exact r_zret hx hb hr hlk (by decide) d_Dr_isDrawing_125 rfl
  by_cases h_1_26 : c = 26
  · subst h_1_26
    refine lv_lookup (tgt := 124) (off := 123) hx hb d_Dr_isDrawing_1 (by decide) (by first | rfl | decide) (by decide) ?_
    refine lv_iconst (v := 1) hx hb d_Dr_isDrawing_124 (by decide) ?_
    exact r_zret hx hb hr hlk (by decide) d_Dr_isDrawing_125 rfl
  by_cases h_1_27 : c = 27
  · subst h_1_27
    refine lv_lookup (tgt := 124) (off := 123) hx hb d_Dr_isDrawing_1 (by decide) (by first | rfl | decide) (by decide) ?_
    refine lv_iconst (v := 1) hx hb d_Dr_isDrawing_124 (by decide) ?_
    exact r_zret hx hb hr hlk (by decide) d_Dr_isDrawing_125 rfl
  by_cases h_1_30 : c = 30
  · subst h_1_30
    refine lv_lookup (tgt := 124) (off := 123) hx hb d_Dr_isDrawing_1 (by decide) (by first | rfl | decide) (by decide) ?_
    refine lv_iconst (v := 1) hx hb d_Dr_isDrawing_124 (by decide) ?_
    exact r_zret hx hb hr hlk (by decide) d_Dr_isDrawing_125 rfl
  by_cases h_1_31 : c = 31
  · subst h_1_31
    refine lv_lookup (tgt := 124) (off := 123) hx hb d_Dr_isDrawing_1 (by decide) (by first | rfl | decide) (by decide) ?_
    refine lv_iconst (v := 1) hx hb d_Dr_isDrawing_124 (by decide) ?_
    exact r_zret hx hb hr hlk (by decide) d_Dr_isDrawing_125 rfl
  by_cases h_1_290 : c = 290
  · subst h_1_290
    refine lv_lookup (tgt := 124) (off := 123) hx hb d_Dr_isDrawing_1 (by decide) (by first | rfl | decide) (by decide) ?_
    refine lv_iconst (v := 1) hx hb d_Dr_isDrawing_124 (by decide) ?_
    exact r_zret hx hb hr hlk (by decide) d_Dr_isDrawing_125 rfl
  by_cases h_1_291 : c = 291
  · subst h_1_291
    refine lv_lookup (tgt := 124) (off := 123) hx hb d_Dr_isDrawing_1 (by decide) (by first | rfl | decide) (by decide) ?_
    refine lv_iconst (v := 1) hx hb d_Dr_isDrawing_124 (by decide) ?_
    exact r_zret hx hb hr hlk (by decide) d_Dr_isDrawing_125 rfl
  by_cases h_1_292 : c = 292
  · subst h_1_292
    refine lv_lookup (tgt := 124) (off := 123) hx hb d_Dr_isDrawing_1 (by decide) (by first | rfl | decide) (by decide) ?_
    refine lv_iconst (v := 1) hx hb d_Dr_isDrawing_124 (by decide) ?_
    exact r_zret hx hb hr hlk (by decide) d_Dr_isDrawing_125 rfl
  by_cases h_1_293 : c = 293
  · subst h_1_293
    refine lv_lookup (tgt := 124) (off := 123) hx hb d_Dr_isDrawing_1 (by decide) (by first | rfl | decide) (by decide) ?_
    refine lv_iconst (v := 1) hx hb d_Dr_isDrawing_124 (by decide) ?_
    exact r_zret hx hb hr hlk (by decide) d_Dr_isDrawing_125 rfl
  have gh_1_5 : ¬ nI c = 5 := fun z => h_1_5 ((nI_eq (a := c) (b := 5) (by omega) (by omega)).mp z)
  have gh_1_6 : ¬ nI c = 6 := fun z => h_1_6 ((nI_eq (a := c) (b := 6) (by omega) (by omega)).mp z)
  have gh_1_7 : ¬ nI c = 7 := fun z => h_1_7 ((nI_eq (a := c) (b := 7) (by omega) (by omega)).mp z)
  have gh_1_8 : ¬ nI c = 8 := fun z => h_1_8 ((nI_eq (a := c) (b := 8) (by omega) (by omega)).mp z)
  have gh_1_24 : ¬ nI c = 24 := fun z => h_1_24 ((nI_eq (a := c) (b := 24) (by omega) (by omega)).mp z)
  have gh_1_25 : ¬ nI c = 25 := fun z => h_1_25 ((nI_eq (a := c) (b := 25) (by omega) (by omega)).mp z)
  have gh_1_26 : ¬ nI c = 26 := fun z => h_1_26 ((nI_eq (a := c) (b := 26) (by omega) (by omega)).mp z)
  have gh_1_27 : ¬ nI c = 27 := fun z => h_1_27 ((nI_eq (a := c) (b := 27) (by omega) (by omega)).mp z)
  have gh_1_30 : ¬ nI c = 30 := fun z => h_1_30 ((nI_eq (a := c) (b := 30) (by omega) (by omega)).mp z)
  have gh_1_31 : ¬ nI c = 31 := fun z => h_1_31 ((nI_eq (a := c) (b := 31) (by omega) (by omega)).mp z)
  have gh_1_290 : ¬ nI c = 290 := fun z => h_1_290 ((nI_eq (a := c) (b := 290) (by omega) (by omega)).mp z)
  have gh_1_291 : ¬ nI c = 291 := fun z => h_1_291 ((nI_eq (a := c) (b := 291) (by omega) (by omega)).mp z)
  have gh_1_292 : ¬ nI c = 292 := fun z => h_1_292 ((nI_eq (a := c) (b := 292) (by omega) (by omega)).mp z)
  have gh_1_293 : ¬ nI c = 293 := fun z => h_1_293 ((nI_eq (a := c) (b := 293) (by omega) (by omega)).mp z)
  refine lv_lookup (tgt := 126) (off := 125) hx hb d_Dr_isDrawing_1 (by decide) (by show Op.lookupswitch.offset _ _ _ = _; first | (rw [lv_osw gh_1_5 (by decide), lv_osw gh_1_6 (by decide), lv_osw gh_1_7 (by decide), lv_osw gh_1_8 (by decide), lv_osw gh_1_24 (by decide), lv_osw gh_1_25 (by decide), lv_osw gh_1_26 (by decide), lv_osw gh_1_27 (by decide), lv_osw gh_1_30 (by decide), lv_osw gh_1_31 (by decide), lv_osw gh_1_290 (by decide), lv_osw gh_1_291 (by decide), lv_osw gh_1_292 (by decide), lv_osw gh_1_293 (by decide)]; done) | (rw [lv_osw gh_1_5 (by decide), lv_osw gh_1_6 (by decide), lv_osw gh_1_7 (by decide), lv_osw gh_1_8 (by decide), lv_osw gh_1_24 (by decide), lv_osw gh_1_25 (by decide), lv_osw gh_1_26 (by decide), lv_osw gh_1_27 (by decide), lv_osw gh_1_30 (by decide), lv_osw gh_1_31 (by decide), lv_osw gh_1_290 (by decide), lv_osw gh_1_291 (by decide), lv_osw gh_1_292 (by decide), lv_osw gh_1_293 (by decide)]; rfl)) (by decide) ?_
  clear gh_1_5
  clear gh_1_6
  clear gh_1_7
  clear gh_1_8
  clear gh_1_24
  clear gh_1_25
  clear gh_1_26
  clear gh_1_27
  clear gh_1_30
  clear gh_1_31
  clear gh_1_290
  clear gh_1_291
  clear gh_1_292
  clear gh_1_293
  refine lv_iconst (v := 0) hx hb d_Dr_isDrawing_126 (by decide) ?_
  exact r_zret hx hb hr hlk (by decide) d_Dr_isDrawing_127 (by rw [show isDr c = false from decide_eq_false (by omega)]; rfl)
set_option maxHeartbeats 1000000 in
set_option maxRecDepth 100000 in
theorem c_Dr_takes (l : Launch) (D : va_G) (cB cI cJ : ClassId) (c n : Nat) (hc : c ≤ 511) (hn : n ≤ 48) : Ro l D classes (TY cB cI cJ) gd_tbl nx_tbl y_Dr_takes b_Dr_takes 2 (some .boolean) ({ frames := 0, cells := 0, slots := 0, locals := 0 }) [.int (nI c), .int (nI n)] [] (fun v => v = .int (if takD c n = true then 1 else 0)) := by
  refine Ro.intro (by decide +kernel) nx_ok (Nat.le_of_ble_eq_true rfl) ?_
  intro p_ e_ s_ m_ args_ below_ meth_ c_ A_ ls hx hb hml hown hts hr hlk hnm hZ hP hD hl
  have hl : lv_has ls 2 [(0, .int (nI c)), (1, .int (nI n))] := hl
  refine lv_iload_n hx hb d_Dr_takes_0 rfl (lv_at hl 0 rfl) ?_
  by_cases h_1_5 : c = 5
  · subst h_1_5
    refine lv_lookup (tgt := 92) (off := 91) hx hb d_Dr_takes_1 (by decide) (by first | rfl | decide) (by decide) ?_
    refine lv_iload_n hx hb d_Dr_takes_92 rfl (lv_at hl 1 rfl) ?_
    refine lv_iconst (v := 2) hx hb d_Dr_takes_93 (by decide) ?_
    refine lv_icmp_lt (tgt := 107) hx hb d_Dr_takes_94 (by decide) (fun c_94 => ?_) (fun c_94 => ?_)
    · have n_94 : (n) < (2) := (nI_ltI (a := n) (b := 2) (by omega) (by omega)).mp c_94
      refine lv_iconst (v := 0) hx hb d_Dr_takes_107 (by decide) ?_
      exact r_zret hx hb hr hlk (by decide) d_Dr_takes_108 (by rw [show takD 5 n = false from (show decide _ = false from decide_eq_false (by omega))]; rfl)
    · have n_94 : ¬ (n) < (2) := fun z => c_94 ((nI_ltI (a := n) (b := 2) (by omega) (by omega)).mpr z)
      refine lv_iload_n hx hb d_Dr_takes_97 rfl (lv_at hl 1 rfl) ?_
      refine lv_iconst (v := 2) hx hb d_Dr_takes_98 (by decide) ?_
      refine lv_irem hx hb d_Dr_takes_99 (by decide) ?_
      refine lv_tv (y := nI (n % 2)) (pk_rem (a := n) (d := 2) (by omega) (by omega) (by omega)) ?_
      refine lv_if_ne (tgt := 107) hx hb d_Dr_takes_100 (by decide) (fun c_100 => ?_) (fun c_100 => ?_)
      · have n_100 : ¬ (n % 2) = (0) := fun z => c_100 ((nI_eq (a := n % 2) (b := 0) (by omega) (by omega)).mpr z)
        refine lv_iconst (v := 0) hx hb d_Dr_takes_107 (by decide) ?_
        exact r_zret hx hb hr hlk (by decide) d_Dr_takes_108 (by rw [show takD 5 n = false from (show decide _ = false from decide_eq_false (by omega))]; rfl)
      · have n_100 : (n % 2) = (0) := (nI_eq (a := n % 2) (b := 0) (by omega) (by omega)).mp c_100
        refine lv_iconst (v := 1) hx hb d_Dr_takes_103 (by decide) ?_
        refine lv_goto (tgt := 108) hx hb d_Dr_takes_104 (by decide) ?_
        exact r_zret hx hb hr hlk (by decide) d_Dr_takes_108 (by rw [show takD 5 n = true from (show decide _ = true from decide_eq_true (by omega))]; rfl)
  by_cases h_1_6 : c = 6
  · subst h_1_6
    refine lv_lookup (tgt := 109) (off := 108) hx hb d_Dr_takes_1 (by decide) (by first | rfl | decide) (by decide) ?_
    refine lv_iload_n hx hb d_Dr_takes_109 rfl (lv_at hl 1 rfl) ?_
    refine lv_iconst (v := 1) hx hb d_Dr_takes_110 (by decide) ?_
    refine lv_icmp_lt (tgt := 118) hx hb d_Dr_takes_111 (by decide) (fun c_111 => ?_) (fun c_111 => ?_)
    · have n_111 : (n) < (1) := (nI_ltI (a := n) (b := 1) (by omega) (by omega)).mp c_111
      refine lv_iconst (v := 0) hx hb d_Dr_takes_118 (by decide) ?_
      exact r_zret hx hb hr hlk (by decide) d_Dr_takes_119 (by rw [show takD 6 n = false from (show decide _ = false from decide_eq_false (by omega))]; rfl)
    · have n_111 : ¬ (n) < (1) := fun z => c_111 ((nI_ltI (a := n) (b := 1) (by omega) (by omega)).mpr z)
      refine lv_iconst (v := 1) hx hb d_Dr_takes_114 (by decide) ?_
      refine lv_goto (tgt := 119) hx hb d_Dr_takes_115 (by decide) ?_
      exact r_zret hx hb hr hlk (by decide) d_Dr_takes_119 (by rw [show takD 6 n = true from (show decide _ = true from decide_eq_true (by omega))]; rfl)
  by_cases h_1_7 : c = 7
  · subst h_1_7
    refine lv_lookup (tgt := 109) (off := 108) hx hb d_Dr_takes_1 (by decide) (by first | rfl | decide) (by decide) ?_
    refine lv_iload_n hx hb d_Dr_takes_109 rfl (lv_at hl 1 rfl) ?_
    refine lv_iconst (v := 1) hx hb d_Dr_takes_110 (by decide) ?_
    refine lv_icmp_lt (tgt := 118) hx hb d_Dr_takes_111 (by decide) (fun c_111 => ?_) (fun c_111 => ?_)
    · have n_111 : (n) < (1) := (nI_ltI (a := n) (b := 1) (by omega) (by omega)).mp c_111
      refine lv_iconst (v := 0) hx hb d_Dr_takes_118 (by decide) ?_
      exact r_zret hx hb hr hlk (by decide) d_Dr_takes_119 (by rw [show takD 7 n = false from (show decide _ = false from decide_eq_false (by omega))]; rfl)
    · have n_111 : ¬ (n) < (1) := fun z => c_111 ((nI_ltI (a := n) (b := 1) (by omega) (by omega)).mpr z)
      refine lv_iconst (v := 1) hx hb d_Dr_takes_114 (by decide) ?_
      refine lv_goto (tgt := 119) hx hb d_Dr_takes_115 (by decide) ?_
      exact r_zret hx hb hr hlk (by decide) d_Dr_takes_119 (by rw [show takD 7 n = true from (show decide _ = true from decide_eq_true (by omega))]; rfl)
  by_cases h_1_8 : c = 8
  · subst h_1_8
    refine lv_lookup (tgt := 120) (off := 119) hx hb d_Dr_takes_1 (by decide) (by first | rfl | decide) (by decide) ?_
    refine lv_iload_n hx hb d_Dr_takes_120 rfl (lv_at hl 1 rfl) ?_
    refine lv_bipush (v := 6) hx hb d_Dr_takes_121 (by decide) ?_
    refine lv_icmp_lt (tgt := 137) hx hb d_Dr_takes_123 (by decide) (fun c_123 => ?_) (fun c_123 => ?_)
    · have n_123 : (n) < (6) := (nI_ltI (a := n) (b := 6) (by omega) (by omega)).mp c_123
      refine lv_iconst (v := 0) hx hb d_Dr_takes_137 (by decide) ?_
      exact r_zret hx hb hr hlk (by decide) d_Dr_takes_138 (by rw [show takD 8 n = false from (show decide _ = false from decide_eq_false (by omega))]; rfl)
    · have n_123 : ¬ (n) < (6) := fun z => c_123 ((nI_ltI (a := n) (b := 6) (by omega) (by omega)).mpr z)
      refine lv_iload_n hx hb d_Dr_takes_126 rfl (lv_at hl 1 rfl) ?_
      refine lv_bipush (v := 6) hx hb d_Dr_takes_127 (by decide) ?_
      refine lv_irem hx hb d_Dr_takes_129 (by decide) ?_
      refine lv_tv (y := nI (n % 6)) (pk_rem (a := n) (d := 6) (by omega) (by omega) (by omega)) ?_
      refine lv_if_ne (tgt := 137) hx hb d_Dr_takes_130 (by decide) (fun c_130 => ?_) (fun c_130 => ?_)
      · have n_130 : ¬ (n % 6) = (0) := fun z => c_130 ((nI_eq (a := n % 6) (b := 0) (by omega) (by omega)).mpr z)
        refine lv_iconst (v := 0) hx hb d_Dr_takes_137 (by decide) ?_
        exact r_zret hx hb hr hlk (by decide) d_Dr_takes_138 (by rw [show takD 8 n = false from (show decide _ = false from decide_eq_false (by omega))]; rfl)
      · have n_130 : (n % 6) = (0) := (nI_eq (a := n % 6) (b := 0) (by omega) (by omega)).mp c_130
        refine lv_iconst (v := 1) hx hb d_Dr_takes_133 (by decide) ?_
        refine lv_goto (tgt := 138) hx hb d_Dr_takes_134 (by decide) ?_
        exact r_zret hx hb hr hlk (by decide) d_Dr_takes_138 (by rw [show takD 8 n = true from (show decide _ = true from decide_eq_true (by omega))]; rfl)
  by_cases h_1_24 : c = 24
  · subst h_1_24
    refine lv_lookup (tgt := 139) (off := 138) hx hb d_Dr_takes_1 (by decide) (by first | rfl | decide) (by decide) ?_
    refine lv_iload_n hx hb d_Dr_takes_139 rfl (lv_at hl 1 rfl) ?_
    refine lv_bipush (v := 8) hx hb d_Dr_takes_140 (by decide) ?_
    refine lv_icmp_lt (tgt := 157) hx hb d_Dr_takes_142 (by decide) (fun c_142 => ?_) (fun c_142 => ?_)
    · have n_142 : (n) < (8) := (nI_ltI (a := n) (b := 8) (by omega) (by omega)).mp c_142
      refine lv_iconst (v := 0) hx hb d_Dr_takes_157 (by decide) ?_
      exact r_zret hx hb hr hlk (by decide) d_Dr_takes_158 (by rw [show takD 24 n = false from (show decide _ = false from decide_eq_false (by omega))]; rfl)
    · have n_142 : ¬ (n) < (8) := fun z => c_142 ((nI_ltI (a := n) (b := 8) (by omega) (by omega)).mpr z)
      refine lv_iload_n hx hb d_Dr_takes_145 rfl (lv_at hl 1 rfl) ?_
      refine lv_bipush (v := 6) hx hb d_Dr_takes_146 (by decide) ?_
      refine lv_irem hx hb d_Dr_takes_148 (by decide) ?_
      refine lv_tv (y := nI (n % 6)) (pk_rem (a := n) (d := 6) (by omega) (by omega) (by omega)) ?_
      refine lv_iconst (v := 2) hx hb d_Dr_takes_149 (by decide) ?_
      refine lv_icmp_ne (tgt := 157) hx hb d_Dr_takes_150 (by decide) (fun c_150 => ?_) (fun c_150 => ?_)
      · have n_150 : ¬ (n % 6) = (2) := fun z => c_150 ((nI_eq (a := n % 6) (b := 2) (by omega) (by omega)).mpr z)
        refine lv_iconst (v := 0) hx hb d_Dr_takes_157 (by decide) ?_
        exact r_zret hx hb hr hlk (by decide) d_Dr_takes_158 (by rw [show takD 24 n = false from (show decide _ = false from decide_eq_false (by omega))]; rfl)
      · have n_150 : (n % 6) = (2) := (nI_eq (a := n % 6) (b := 2) (by omega) (by omega)).mp c_150
        refine lv_iconst (v := 1) hx hb d_Dr_takes_153 (by decide) ?_
        refine lv_goto (tgt := 158) hx hb d_Dr_takes_154 (by decide) ?_
        exact r_zret hx hb hr hlk (by decide) d_Dr_takes_158 (by rw [show takD 24 n = true from (show decide _ = true from decide_eq_true (by omega))]; rfl)
  by_cases h_1_25 : c = 25
  · subst h_1_25
    refine lv_lookup (tgt := 159) (off := 158) hx hb d_Dr_takes_1 (by decide) (by first | rfl | decide) (by decide) ?_
    refine lv_iload_n hx hb d_Dr_takes_159 rfl (lv_at hl 1 rfl) ?_
    refine lv_bipush (v := 8) hx hb d_Dr_takes_160 (by decide) ?_
    refine lv_icmp_lt (tgt := 175) hx hb d_Dr_takes_162 (by decide) (fun c_162 => ?_) (fun c_162 => ?_)
    · have n_162 : (n) < (8) := (nI_ltI (a := n) (b := 8) (by omega) (by omega)).mp c_162
      refine lv_iconst (v := 0) hx hb d_Dr_takes_175 (by decide) ?_
      exact r_zret hx hb hr hlk (by decide) d_Dr_takes_176 (by rw [show takD 25 n = false from (show decide _ = false from decide_eq_false (by omega))]; rfl)
    · have n_162 : ¬ (n) < (8) := fun z => c_162 ((nI_ltI (a := n) (b := 8) (by omega) (by omega)).mpr z)
      refine lv_iload_n hx hb d_Dr_takes_165 rfl (lv_at hl 1 rfl) ?_
      refine lv_iconst (v := 2) hx hb d_Dr_takes_166 (by decide) ?_
      refine lv_irem hx hb d_Dr_takes_167 (by decide) ?_
      refine lv_tv (y := nI (n % 2)) (pk_rem (a := n) (d := 2) (by omega) (by omega) (by omega)) ?_
      refine lv_if_ne (tgt := 175) hx hb d_Dr_takes_168 (by decide) (fun c_168 => ?_) (fun c_168 => ?_)
      · have n_168 : ¬ (n % 2) = (0) := fun z => c_168 ((nI_eq (a := n % 2) (b := 0) (by omega) (by omega)).mpr z)
        refine lv_iconst (v := 0) hx hb d_Dr_takes_175 (by decide) ?_
        exact r_zret hx hb hr hlk (by decide) d_Dr_takes_176 (by rw [show takD 25 n = false from (show decide _ = false from decide_eq_false (by omega))]; rfl)
      · have n_168 : (n % 2) = (0) := (nI_eq (a := n % 2) (b := 0) (by omega) (by omega)).mp c_168
        refine lv_iconst (v := 1) hx hb d_Dr_takes_171 (by decide) ?_
        refine lv_goto (tgt := 176) hx hb d_Dr_takes_172 (by decide) ?_
        exact r_zret hx hb hr hlk (by decide) d_Dr_takes_176 (by rw [show takD 25 n = true from (show decide _ = true from decide_eq_true (by omega))]; rfl)
  by_cases h_1_290 : c = 290
  · subst h_1_290
    refine lv_lookup (tgt := 177) (off := 176) hx hb d_Dr_takes_1 (by decide) (by first | rfl | decide) (by decide) ?_
    refine lv_iload_n hx hb d_Dr_takes_177 rfl (lv_at hl 1 rfl) ?_
    refine lv_bipush (v := 7) hx hb d_Dr_takes_178 (by decide) ?_
    refine lv_icmp_ne (tgt := 187) hx hb d_Dr_takes_180 (by decide) (fun c_180 => ?_) (fun c_180 => ?_)
    · have n_180 : ¬ (n) = (7) := fun z => c_180 ((nI_eq (a := n) (b := 7) (by omega) (by omega)).mpr z)
      refine lv_iconst (v := 0) hx hb d_Dr_takes_187 (by decide) ?_
      exact r_zret hx hb hr hlk (by decide) d_Dr_takes_188 (by rw [show takD 290 n = false from (show decide _ = false from decide_eq_false (by omega))]; rfl)
    · have n_180 : (n) = (7) := (nI_eq (a := n) (b := 7) (by omega) (by omega)).mp c_180
      refine lv_iconst (v := 1) hx hb d_Dr_takes_183 (by decide) ?_
      refine lv_goto (tgt := 188) hx hb d_Dr_takes_184 (by decide) ?_
      exact r_zret hx hb hr hlk (by decide) d_Dr_takes_188 (by rw [show takD 290 n = true from (show decide _ = true from decide_eq_true (by omega))]; rfl)
  by_cases h_1_291 : c = 291
  · subst h_1_291
    refine lv_lookup (tgt := 189) (off := 188) hx hb d_Dr_takes_1 (by decide) (by first | rfl | decide) (by decide) ?_
    refine lv_iload_n hx hb d_Dr_takes_189 rfl (lv_at hl 1 rfl) ?_
    refine lv_bipush (v := 13) hx hb d_Dr_takes_190 (by decide) ?_
    refine lv_icmp_ne (tgt := 199) hx hb d_Dr_takes_192 (by decide) (fun c_192 => ?_) (fun c_192 => ?_)
    · have n_192 : ¬ (n) = (13) := fun z => c_192 ((nI_eq (a := n) (b := 13) (by omega) (by omega)).mpr z)
      refine lv_iconst (v := 0) hx hb d_Dr_takes_199 (by decide) ?_
      exact r_zret hx hb hr hlk (by decide) d_Dr_takes_200 (by rw [show takD 291 n = false from (show decide _ = false from decide_eq_false (by omega))]; rfl)
    · have n_192 : (n) = (13) := (nI_eq (a := n) (b := 13) (by omega) (by omega)).mp c_192
      refine lv_iconst (v := 1) hx hb d_Dr_takes_195 (by decide) ?_
      refine lv_goto (tgt := 200) hx hb d_Dr_takes_196 (by decide) ?_
      exact r_zret hx hb hr hlk (by decide) d_Dr_takes_200 (by rw [show takD 291 n = true from (show decide _ = true from decide_eq_true (by omega))]; rfl)
  by_cases h_1_292 : c = 292
  · subst h_1_292
    refine lv_lookup (tgt := 201) (off := 200) hx hb d_Dr_takes_1 (by decide) (by first | rfl | decide) (by decide) ?_
    refine lv_iload_n hx hb d_Dr_takes_201 rfl (lv_at hl 1 rfl) ?_
    refine lv_bipush (v := 9) hx hb d_Dr_takes_202 (by decide) ?_
    refine lv_icmp_ne (tgt := 211) hx hb d_Dr_takes_204 (by decide) (fun c_204 => ?_) (fun c_204 => ?_)
    · have n_204 : ¬ (n) = (9) := fun z => c_204 ((nI_eq (a := n) (b := 9) (by omega) (by omega)).mpr z)
      refine lv_iconst (v := 0) hx hb d_Dr_takes_211 (by decide) ?_
      exact r_zret hx hb hr hlk (by decide) d_Dr_takes_212 (by rw [show takD 292 n = false from (show decide _ = false from decide_eq_false (by omega))]; rfl)
    · have n_204 : (n) = (9) := (nI_eq (a := n) (b := 9) (by omega) (by omega)).mp c_204
      refine lv_iconst (v := 1) hx hb d_Dr_takes_207 (by decide) ?_
      refine lv_goto (tgt := 212) hx hb d_Dr_takes_208 (by decide) ?_
      exact r_zret hx hb hr hlk (by decide) d_Dr_takes_212 (by rw [show takD 292 n = true from (show decide _ = true from decide_eq_true (by omega))]; rfl)
  by_cases h_1_293 : c = 293
  · subst h_1_293
    refine lv_lookup (tgt := 213) (off := 212) hx hb d_Dr_takes_1 (by decide) (by first | rfl | decide) (by decide) ?_
    refine lv_iload_n hx hb d_Dr_takes_213 rfl (lv_at hl 1 rfl) ?_
    refine lv_bipush (v := 11) hx hb d_Dr_takes_214 (by decide) ?_
    refine lv_icmp_ne (tgt := 223) hx hb d_Dr_takes_216 (by decide) (fun c_216 => ?_) (fun c_216 => ?_)
    · have n_216 : ¬ (n) = (11) := fun z => c_216 ((nI_eq (a := n) (b := 11) (by omega) (by omega)).mpr z)
      refine lv_iconst (v := 0) hx hb d_Dr_takes_223 (by decide) ?_
      exact r_zret hx hb hr hlk (by decide) d_Dr_takes_224 (by rw [show takD 293 n = false from (show decide _ = false from decide_eq_false (by omega))]; rfl)
    · have n_216 : (n) = (11) := (nI_eq (a := n) (b := 11) (by omega) (by omega)).mp c_216
      refine lv_iconst (v := 1) hx hb d_Dr_takes_219 (by decide) ?_
      refine lv_goto (tgt := 224) hx hb d_Dr_takes_220 (by decide) ?_
      exact r_zret hx hb hr hlk (by decide) d_Dr_takes_224 (by rw [show takD 293 n = true from (show decide _ = true from decide_eq_true (by omega))]; rfl)
  have gh_1_5 : ¬ nI c = 5 := fun z => h_1_5 ((nI_eq (a := c) (b := 5) (by omega) (by omega)).mp z)
  have gh_1_6 : ¬ nI c = 6 := fun z => h_1_6 ((nI_eq (a := c) (b := 6) (by omega) (by omega)).mp z)
  have gh_1_7 : ¬ nI c = 7 := fun z => h_1_7 ((nI_eq (a := c) (b := 7) (by omega) (by omega)).mp z)
  have gh_1_8 : ¬ nI c = 8 := fun z => h_1_8 ((nI_eq (a := c) (b := 8) (by omega) (by omega)).mp z)
  have gh_1_24 : ¬ nI c = 24 := fun z => h_1_24 ((nI_eq (a := c) (b := 24) (by omega) (by omega)).mp z)
  have gh_1_25 : ¬ nI c = 25 := fun z => h_1_25 ((nI_eq (a := c) (b := 25) (by omega) (by omega)).mp z)
  have gh_1_290 : ¬ nI c = 290 := fun z => h_1_290 ((nI_eq (a := c) (b := 290) (by omega) (by omega)).mp z)
  have gh_1_291 : ¬ nI c = 291 := fun z => h_1_291 ((nI_eq (a := c) (b := 291) (by omega) (by omega)).mp z)
  have gh_1_292 : ¬ nI c = 292 := fun z => h_1_292 ((nI_eq (a := c) (b := 292) (by omega) (by omega)).mp z)
  have gh_1_293 : ¬ nI c = 293 := fun z => h_1_293 ((nI_eq (a := c) (b := 293) (by omega) (by omega)).mp z)
  refine lv_lookup (tgt := 225) (off := 224) hx hb d_Dr_takes_1 (by decide) (by show Op.lookupswitch.offset _ _ _ = _; first | (rw [lv_osw gh_1_5 (by decide), lv_osw gh_1_6 (by decide), lv_osw gh_1_7 (by decide), lv_osw gh_1_8 (by decide), lv_osw gh_1_24 (by decide), lv_osw gh_1_25 (by decide), lv_osw gh_1_290 (by decide), lv_osw gh_1_291 (by decide), lv_osw gh_1_292 (by decide), lv_osw gh_1_293 (by decide)]; done) | (rw [lv_osw gh_1_5 (by decide), lv_osw gh_1_6 (by decide), lv_osw gh_1_7 (by decide), lv_osw gh_1_8 (by decide), lv_osw gh_1_24 (by decide), lv_osw gh_1_25 (by decide), lv_osw gh_1_290 (by decide), lv_osw gh_1_291 (by decide), lv_osw gh_1_292 (by decide), lv_osw gh_1_293 (by decide)]; rfl)) (by decide) ?_
  clear gh_1_5
  clear gh_1_6
  clear gh_1_7
  clear gh_1_8
  clear gh_1_24
  clear gh_1_25
  clear gh_1_290
  clear gh_1_291
  clear gh_1_292
  clear gh_1_293
  refine lv_iload_n hx hb d_Dr_takes_225 rfl (lv_at hl 1 rfl) ?_
  refine lv_iconst (v := 4) hx hb d_Dr_takes_226 (by decide) ?_
  refine lv_icmp_lt (tgt := 241) hx hb d_Dr_takes_227 (by decide) (fun c_227 => ?_) (fun c_227 => ?_)
  · have n_227 : (n) < (4) := (nI_ltI (a := n) (b := 4) (by omega) (by omega)).mp c_227
    refine lv_iconst (v := 0) hx hb d_Dr_takes_241 (by decide) ?_
    exact r_zret hx hb hr hlk (by decide) d_Dr_takes_242 (by rw [show takD c n = false from (by unfold takD; rw [if_neg (by omega), if_neg (by omega), if_neg (by omega), if_neg (by omega), if_neg (by omega), if_neg (by omega), if_neg (by omega), if_neg (by omega), if_neg (by omega)]; exact decide_eq_false (by omega))]; rfl)
  · have n_227 : ¬ (n) < (4) := fun z => c_227 ((nI_ltI (a := n) (b := 4) (by omega) (by omega)).mpr z)
    refine lv_iload_n hx hb d_Dr_takes_230 rfl (lv_at hl 1 rfl) ?_
    refine lv_iconst (v := 4) hx hb d_Dr_takes_231 (by decide) ?_
    refine lv_irem hx hb d_Dr_takes_232 (by decide) ?_
    refine lv_tv (y := nI (n % 4)) (pk_rem (a := n) (d := 4) (by omega) (by omega) (by omega)) ?_
    refine lv_iconst (v := 1) hx hb d_Dr_takes_233 (by decide) ?_
    refine lv_icmp_gt (tgt := 241) hx hb d_Dr_takes_234 (by decide) (fun c_234 => ?_) (fun c_234 => ?_)
    · have n_234 : (1) < (n % 4) := (nI_ltI (a := 1) (b := n % 4) (by omega) (by omega)).mp c_234
      refine lv_iconst (v := 0) hx hb d_Dr_takes_241 (by decide) ?_
      exact r_zret hx hb hr hlk (by decide) d_Dr_takes_242 (by rw [show takD c n = false from (by unfold takD; rw [if_neg (by omega), if_neg (by omega), if_neg (by omega), if_neg (by omega), if_neg (by omega), if_neg (by omega), if_neg (by omega), if_neg (by omega), if_neg (by omega)]; exact decide_eq_false (by omega))]; rfl)
    · have n_234 : ¬ (1) < (n % 4) := fun z => c_234 ((nI_ltI (a := 1) (b := n % 4) (by omega) (by omega)).mpr z)
      refine lv_iconst (v := 1) hx hb d_Dr_takes_237 (by decide) ?_
      refine lv_goto (tgt := 242) hx hb d_Dr_takes_238 (by decide) ?_
      exact r_zret hx hb hr hlk (by decide) d_Dr_takes_242 (by rw [show takD c n = true from (by unfold takD; rw [if_neg (by omega), if_neg (by omega), if_neg (by omega), if_neg (by omega), if_neg (by omega), if_neg (by omega), if_neg (by omega), if_neg (by omega), if_neg (by omega)]; exact decide_eq_true (by omega))]; rfl)
set_option maxHeartbeats 1000000 in
set_option maxRecDepth 100000 in
theorem c_Dr_draw (l : Launch) (D : va_G) (cB cI cJ : ClassId) (v va vb u ra oc : Nat) (n : Nat) (fa : Nat → Int32) (fb : Nat → Int32) (m : Nat) (x : Int32) (y : Int32) (fo : Nat → Int32) (c : Nat) (hiVa : n ≤ 48) (hiOu : m ≤ 4000 ∧ 7 * m ≤ oc ∧ 336 ≤ oc ∧ oc ≤ 28000) (hc : c ≤ 511) (hd : isDr c = true) (ht : takD c n = true) (hroom : 7 * min 4000 (m + 48) ≤ oc) : Tr l D classes (TY cB cI cJ) gd_tbl nx_tbl y_Dr_draw b_Dr_draw 4 (some .boolean) ({ frames := 3, cells := 0, slots := 0, locals := 84 }) [.int (nI c), .ref v, .ref u] [(v, .inr (3, [.ref va, .ref vb, .int (nI n)])), (va, .inl (cI, 48, .inl fa)), (vb, .inl (cI, 48, .inl fb)), (u, .inr (4, [.ref ra, .int (nI m), .int x, .int y])), (ra, .inl (cI, oc, .inl fo))] (pI0 (fun r w => ∃ (m' : Nat) (x' : Int32) (y' : Int32) (fo' : Nat → Int32), w = [(v, .inr (3, [.ref va, .ref vb, .int (nI n)])), (va, .inl (cI, 48, .inl fa)), (vb, .inl (cI, 48, .inl fb)), (u, .inr (4, [.ref ra, .int (nI m'), .int x', .int y'])), (ra, .inl (cI, oc, .inl fo'))] ∧ (m' ≤ 4000 ∧ 7 * m' ≤ oc ∧ 336 ≤ oc ∧ oc ≤ 28000) ∧ (zR r (uS m' x' y' fo') = drawAll (uS m x y fo) (drawL c n (trunc n fa))) ∧ (r = 0 ∨ r = 1))) := by
  refine Tr.intro (by decide +kernel) nx_ok (Nat.le_of_ble_eq_true rfl) ?_
  intro p_ e_ s_ m_ args_ below_ meth_ c_ A_ ls hx hb hml hown hts hr hlk hnm hZ hP hD hS hl
  have hl : lv_has ls 4 [(0, .int (nI c)), (1, .ref v), (2, .ref u)] := hl
  have htk := takD_ok ht
  have hdd := isDr_ok hd
  refine lv_aload_n hx hb d_Dr_draw_0 rfl (lv_at hl 1 rfl) ?_
  refine roV (As := []) (rest := []) ⟨hx, hb, hml, hown, hts⟩ gd_good (c_Va_size l D cB cI cJ v va vb n) cal_Va_size ml_Dr_7 ⟨Nat.le_of_ble_eq_true rfl, Nat.le_of_ble_eq_true rfl⟩ hZ hP hD (isC := [0]) ⟨rfl, rfl⟩ 0 (ci := 3) rfl rfl rfl rfl hl.1 rfl (Nat.le_of_ble_eq_true rfl) d_Dr_draw_1 ⟨Nat.le_of_ble_eq_true rfl, Nat.le_of_ble_eq_true rfl⟩ (fun v hv => ?_)
  subst hv
  refine lv_istore_n (lv' := [(3, .int (nI n)), (0, .int (nI c)), (1, .ref v), (2, .ref u)]) hx hb d_Dr_draw_4 rfl hl (by decide) rfl (fun ls hl => ?_)
  refine lv_iload_n hx hb d_Dr_draw_5 rfl (lv_at hl 1 rfl) ?_
  by_cases h_6_5 : c = 5
  · subst h_6_5
    refine lv_lookup (tgt := 112) (off := 106) hx hb d_Dr_draw_6 (by decide) (by first | rfl | decide) (by decide) ?_
    refine lv_aload_n hx hb d_Dr_draw_112 rfl (lv_at hl 2 rfl) ?_
    refine lv_iconst (v := 0) hx hb d_Dr_draw_113 (by decide) ?_
    refine lv_iload_n hx hb d_Dr_draw_114 rfl (lv_at hl 0 rfl) ?_
    refine lv_aload_n hx hb d_Dr_draw_115 rfl (lv_at hl 3 rfl) ?_
    have hC : Cut [(v, .inr (3, [.ref va, .ref vb, .int (nI n)])), (va, .inl (cI, 48, .inl fa)), (vb, .inl (cI, 48, .inl fb)), (u, .inr (4, [.ref ra, .int (nI m), .int x, .int y])), (ra, .inl (cI, oc, .inl fo))] [(v, .inr (3, [.ref va, .ref vb, .int (nI n)])), (va, .inl (cI, 48, .inl fa)), (vb, .inl (cI, 48, .inl fb)), (u, .inr (4, [.ref ra, .int (nI m), .int x, .int y])), (ra, .inl (cI, oc, .inl fo))] [] [0, 1, 2, 3, 4] [] := ⟨rfl, rfl, rfl, rfl, by decide⟩
    refine goI0 (trS (As := [.ref v, .int 0, .int (nI n), .ref u]) (rest := []) ⟨hx, hb, hml, hown, hts⟩ gd_good (c_Dr_lines l D cB cI cJ v va vb u ra oc n fa fb m x y fo 0 n (by omega) (by omega) (by omega) (by omega) (by omega) (by omega)) cal_Dr_lines ml_Dr_13 ⟨Nat.le_of_ble_eq_true rfl, Nat.le_of_ble_eq_true rfl⟩ hZ hP hD hC rfl hl.1 rfl (Nat.le_of_ble_eq_true rfl) d_Dr_draw_116 ⟨Nat.le_of_ble_eq_true rfl, Nat.le_of_ble_eq_true rfl⟩) hZ hP hD hS hC (fun r_116 w1 H locs hq hP hD hS => ?_)
    obtain ⟨m_116, x_116, y_116, fo_116, rfl, hv0_116, hx_116, hz_116⟩ := hq
    have hP : va_P D classes [(v, .inr (3, [.ref va, .ref vb, .int (nI n)])), (va, .inl (cI, 48, .inl fa)), (vb, .inl (cI, 48, .inl fb)), (u, .inr (4, [.ref ra, .int (nI m_116), .int x_116, .int y_116])), (ra, .inl (cI, oc, .inl fo_116))] H := hP
    have hD : va_D A_ [(v, .inr (3, [.ref va, .ref vb, .int (nI n)])), (va, .inl (cI, 48, .inl fa)), (vb, .inl (cI, 48, .inl fb)), (u, .inr (4, [.ref ra, .int (nI m_116), .int x_116, .int y_116])), (ra, .inl (cI, oc, .inl fo_116))] := hD
    exact t_zret hx hb hr hlk (by first | decide | exact nar01 (by assumption)) d_Dr_draw_119 (hP.subm (ws' := [(v, .inr (3, [.ref va, .ref vb, .int (nI n)])), (va, .inl (cI, 48, .inl fa)), (vb, .inl (cI, 48, .inl fb)), (u, .inr (4, [.ref ra, .int (nI m_116), .int x_116, .int y_116])), (ra, .inl (cI, oc, .inl fo_116))]) [0, 1, 2, 3, 4] rfl) (hD.sub (ws' := [(v, .inr (3, [.ref va, .ref vb, .int (nI n)])), (va, .inl (cI, 48, .inl fa)), (vb, .inl (cI, 48, .inl fb)), (u, .inr (4, [.ref ra, .int (nI m_116), .int x_116, .int y_116])), (ra, .inl (cI, oc, .inl fo_116))]) [0, 1, 2, 3, 4] rfl rfl) hS ⟨_, rfl, rfl, rfl, _, _, _, _, rfl, (by omega), hx_116.1, (by first | decide | assumption)⟩
  by_cases h_6_6 : c = 6
  · subst h_6_6
    refine lv_lookup (tgt := 120) (off := 114) hx hb d_Dr_draw_6 (by decide) (by first | rfl | decide) (by decide) ?_
    refine lv_aload_n hx hb d_Dr_draw_120 rfl (lv_at hl 2 rfl) ?_
    refine lv_iload_n hx hb d_Dr_draw_121 rfl (lv_at hl 1 rfl) ?_
    refine lv_bipush (v := 6) hx hb d_Dr_draw_122 (by decide) ?_
    refine lv_icmp_ne (tgt := 131) hx hb d_Dr_draw_124 (by decide) (fun c_124 => absurd c_124 (by decide)) (fun c_124 => ?_)
    clear c_124
    refine lv_iconst (v := 1) hx hb d_Dr_draw_127 (by decide) ?_
    refine lv_goto (tgt := 132) hx hb d_Dr_draw_128 (by decide) ?_
    refine lv_aload_n hx hb d_Dr_draw_132 rfl (lv_at hl 3 rfl) ?_
    have hC : Cut [(v, .inr (3, [.ref va, .ref vb, .int (nI n)])), (va, .inl (cI, 48, .inl fa)), (vb, .inl (cI, 48, .inl fb)), (u, .inr (4, [.ref ra, .int (nI m), .int x, .int y])), (ra, .inl (cI, oc, .inl fo))] [(v, .inr (3, [.ref va, .ref vb, .int (nI n)])), (va, .inl (cI, 48, .inl fa)), (vb, .inl (cI, 48, .inl fb)), (u, .inr (4, [.ref ra, .int (nI m), .int x, .int y])), (ra, .inl (cI, oc, .inl fo))] [] [0, 1, 2, 3, 4] [] := ⟨rfl, rfl, rfl, rfl, by decide⟩
    refine goI0 (trS (As := [.ref v, .int 1, .ref u]) (rest := []) ⟨hx, hb, hml, hown, hts⟩ gd_good (c_Dr_linesInTurn l D cB cI cJ v va vb u ra oc n fa fb m x y fo 1 (by omega) (by omega) true rfl (by omega)) cal_Dr_linesInTurn ml_Dr_21 ⟨Nat.le_of_ble_eq_true rfl, Nat.le_of_ble_eq_true rfl⟩ hZ hP hD hC rfl hl.1 rfl (Nat.le_of_ble_eq_true rfl) d_Dr_draw_133 ⟨Nat.le_of_ble_eq_true rfl, Nat.le_of_ble_eq_true rfl⟩) hZ hP hD hS hC (fun r_133 w1 H locs hq hP hD hS => ?_)
    obtain ⟨m_133, x_133, y_133, fo_133, rfl, hv0_133, hx_133, hz_133⟩ := hq
    have hP : va_P D classes [(v, .inr (3, [.ref va, .ref vb, .int (nI n)])), (va, .inl (cI, 48, .inl fa)), (vb, .inl (cI, 48, .inl fb)), (u, .inr (4, [.ref ra, .int (nI m_133), .int x_133, .int y_133])), (ra, .inl (cI, oc, .inl fo_133))] H := hP
    have hD : va_D A_ [(v, .inr (3, [.ref va, .ref vb, .int (nI n)])), (va, .inl (cI, 48, .inl fa)), (vb, .inl (cI, 48, .inl fb)), (u, .inr (4, [.ref ra, .int (nI m_133), .int x_133, .int y_133])), (ra, .inl (cI, oc, .inl fo_133))] := hD
    exact t_zret hx hb hr hlk (by first | decide | exact nar01 (by assumption)) d_Dr_draw_136 (hP.subm (ws' := [(v, .inr (3, [.ref va, .ref vb, .int (nI n)])), (va, .inl (cI, 48, .inl fa)), (vb, .inl (cI, 48, .inl fb)), (u, .inr (4, [.ref ra, .int (nI m_133), .int x_133, .int y_133])), (ra, .inl (cI, oc, .inl fo_133))]) [0, 1, 2, 3, 4] rfl) (hD.sub (ws' := [(v, .inr (3, [.ref va, .ref vb, .int (nI n)])), (va, .inl (cI, 48, .inl fa)), (vb, .inl (cI, 48, .inl fb)), (u, .inr (4, [.ref ra, .int (nI m_133), .int x_133, .int y_133])), (ra, .inl (cI, oc, .inl fo_133))]) [0, 1, 2, 3, 4] rfl rfl) hS ⟨_, rfl, rfl, rfl, _, _, _, _, rfl, (by omega), hx_133, (by first | decide | assumption)⟩
  by_cases h_6_7 : c = 7
  · subst h_6_7
    refine lv_lookup (tgt := 120) (off := 114) hx hb d_Dr_draw_6 (by decide) (by first | rfl | decide) (by decide) ?_
    refine lv_aload_n hx hb d_Dr_draw_120 rfl (lv_at hl 2 rfl) ?_
    refine lv_iload_n hx hb d_Dr_draw_121 rfl (lv_at hl 1 rfl) ?_
    refine lv_bipush (v := 6) hx hb d_Dr_draw_122 (by decide) ?_
    refine lv_icmp_ne (tgt := 131) hx hb d_Dr_draw_124 (by decide) (fun c_124 => ?_) (fun c_124 => absurd c_124 (by decide))
    clear c_124
    refine lv_iconst (v := 0) hx hb d_Dr_draw_131 (by decide) ?_
    refine lv_aload_n hx hb d_Dr_draw_132 rfl (lv_at hl 3 rfl) ?_
    have hC : Cut [(v, .inr (3, [.ref va, .ref vb, .int (nI n)])), (va, .inl (cI, 48, .inl fa)), (vb, .inl (cI, 48, .inl fb)), (u, .inr (4, [.ref ra, .int (nI m), .int x, .int y])), (ra, .inl (cI, oc, .inl fo))] [(v, .inr (3, [.ref va, .ref vb, .int (nI n)])), (va, .inl (cI, 48, .inl fa)), (vb, .inl (cI, 48, .inl fb)), (u, .inr (4, [.ref ra, .int (nI m), .int x, .int y])), (ra, .inl (cI, oc, .inl fo))] [] [0, 1, 2, 3, 4] [] := ⟨rfl, rfl, rfl, rfl, by decide⟩
    refine goI0 (trS (As := [.ref v, .int 0, .ref u]) (rest := []) ⟨hx, hb, hml, hown, hts⟩ gd_good (c_Dr_linesInTurn l D cB cI cJ v va vb u ra oc n fa fb m x y fo 0 (by omega) (by omega) false rfl (by omega)) cal_Dr_linesInTurn ml_Dr_21 ⟨Nat.le_of_ble_eq_true rfl, Nat.le_of_ble_eq_true rfl⟩ hZ hP hD hC rfl hl.1 rfl (Nat.le_of_ble_eq_true rfl) d_Dr_draw_133 ⟨Nat.le_of_ble_eq_true rfl, Nat.le_of_ble_eq_true rfl⟩) hZ hP hD hS hC (fun r_133 w1 H locs hq hP hD hS => ?_)
    obtain ⟨m_133, x_133, y_133, fo_133, rfl, hv0_133, hx_133, hz_133⟩ := hq
    have hP : va_P D classes [(v, .inr (3, [.ref va, .ref vb, .int (nI n)])), (va, .inl (cI, 48, .inl fa)), (vb, .inl (cI, 48, .inl fb)), (u, .inr (4, [.ref ra, .int (nI m_133), .int x_133, .int y_133])), (ra, .inl (cI, oc, .inl fo_133))] H := hP
    have hD : va_D A_ [(v, .inr (3, [.ref va, .ref vb, .int (nI n)])), (va, .inl (cI, 48, .inl fa)), (vb, .inl (cI, 48, .inl fb)), (u, .inr (4, [.ref ra, .int (nI m_133), .int x_133, .int y_133])), (ra, .inl (cI, oc, .inl fo_133))] := hD
    exact t_zret hx hb hr hlk (by first | decide | exact nar01 (by assumption)) d_Dr_draw_136 (hP.subm (ws' := [(v, .inr (3, [.ref va, .ref vb, .int (nI n)])), (va, .inl (cI, 48, .inl fa)), (vb, .inl (cI, 48, .inl fb)), (u, .inr (4, [.ref ra, .int (nI m_133), .int x_133, .int y_133])), (ra, .inl (cI, oc, .inl fo_133))]) [0, 1, 2, 3, 4] rfl) (hD.sub (ws' := [(v, .inr (3, [.ref va, .ref vb, .int (nI n)])), (va, .inl (cI, 48, .inl fa)), (vb, .inl (cI, 48, .inl fb)), (u, .inr (4, [.ref ra, .int (nI m_133), .int x_133, .int y_133])), (ra, .inl (cI, oc, .inl fo_133))]) [0, 1, 2, 3, 4] rfl rfl) hS ⟨_, rfl, rfl, rfl, _, _, _, _, rfl, (by omega), hx_133, (by first | decide | assumption)⟩
  by_cases h_6_8 : c = 8
  · subst h_6_8
    refine lv_lookup (tgt := 137) (off := 131) hx hb d_Dr_draw_6 (by decide) (by first | rfl | decide) (by decide) ?_
    refine lv_aload_n hx hb d_Dr_draw_137 rfl (lv_at hl 2 rfl) ?_
    refine lv_iconst (v := 0) hx hb d_Dr_draw_138 (by decide) ?_
    refine lv_iload_n hx hb d_Dr_draw_139 rfl (lv_at hl 0 rfl) ?_
    refine lv_aload_n hx hb d_Dr_draw_140 rfl (lv_at hl 3 rfl) ?_
    have hC : Cut [(v, .inr (3, [.ref va, .ref vb, .int (nI n)])), (va, .inl (cI, 48, .inl fa)), (vb, .inl (cI, 48, .inl fb)), (u, .inr (4, [.ref ra, .int (nI m), .int x, .int y])), (ra, .inl (cI, oc, .inl fo))] [(v, .inr (3, [.ref va, .ref vb, .int (nI n)])), (va, .inl (cI, 48, .inl fa)), (vb, .inl (cI, 48, .inl fb)), (u, .inr (4, [.ref ra, .int (nI m), .int x, .int y])), (ra, .inl (cI, oc, .inl fo))] [] [0, 1, 2, 3, 4] [] := ⟨rfl, rfl, rfl, rfl, by decide⟩
    refine goI0 (trS (As := [.ref v, .int 0, .int (nI n), .ref u]) (rest := []) ⟨hx, hb, hml, hown, hts⟩ gd_good (c_Dr_curves l D cB cI cJ v va vb u ra oc n fa fb m x y fo 0 n (by omega) (by omega) (by omega) (by omega) (by omega) (by omega)) cal_Dr_curves ml_Dr_25 ⟨Nat.le_of_ble_eq_true rfl, Nat.le_of_ble_eq_true rfl⟩ hZ hP hD hC rfl hl.1 rfl (Nat.le_of_ble_eq_true rfl) d_Dr_draw_141 ⟨Nat.le_of_ble_eq_true rfl, Nat.le_of_ble_eq_true rfl⟩) hZ hP hD hS hC (fun r_141 w1 H locs hq hP hD hS => ?_)
    obtain ⟨m_141, x_141, y_141, fo_141, rfl, hv0_141, hx_141, hz_141⟩ := hq
    have hP : va_P D classes [(v, .inr (3, [.ref va, .ref vb, .int (nI n)])), (va, .inl (cI, 48, .inl fa)), (vb, .inl (cI, 48, .inl fb)), (u, .inr (4, [.ref ra, .int (nI m_141), .int x_141, .int y_141])), (ra, .inl (cI, oc, .inl fo_141))] H := hP
    have hD : va_D A_ [(v, .inr (3, [.ref va, .ref vb, .int (nI n)])), (va, .inl (cI, 48, .inl fa)), (vb, .inl (cI, 48, .inl fb)), (u, .inr (4, [.ref ra, .int (nI m_141), .int x_141, .int y_141])), (ra, .inl (cI, oc, .inl fo_141))] := hD
    exact t_zret hx hb hr hlk (by first | decide | exact nar01 (by assumption)) d_Dr_draw_144 (hP.subm (ws' := [(v, .inr (3, [.ref va, .ref vb, .int (nI n)])), (va, .inl (cI, 48, .inl fa)), (vb, .inl (cI, 48, .inl fb)), (u, .inr (4, [.ref ra, .int (nI m_141), .int x_141, .int y_141])), (ra, .inl (cI, oc, .inl fo_141))]) [0, 1, 2, 3, 4] rfl) (hD.sub (ws' := [(v, .inr (3, [.ref va, .ref vb, .int (nI n)])), (va, .inl (cI, 48, .inl fa)), (vb, .inl (cI, 48, .inl fb)), (u, .inr (4, [.ref ra, .int (nI m_141), .int x_141, .int y_141])), (ra, .inl (cI, oc, .inl fo_141))]) [0, 1, 2, 3, 4] rfl rfl) hS ⟨_, rfl, rfl, rfl, _, _, _, _, rfl, (by omega), hx_141.1, (by first | decide | assumption)⟩
  by_cases h_6_24 : c = 24
  · subst h_6_24
    refine lv_lookup (tgt := 145) (off := 139) hx hb d_Dr_draw_6 (by decide) (by first | rfl | decide) (by decide) ?_
    refine lv_aload_n hx hb d_Dr_draw_145 rfl (lv_at hl 2 rfl) ?_
    refine lv_iconst (v := 0) hx hb d_Dr_draw_146 (by decide) ?_
    refine lv_iload_n hx hb d_Dr_draw_147 rfl (lv_at hl 0 rfl) ?_
    refine lv_iconst (v := 2) hx hb d_Dr_draw_148 (by decide) ?_
    refine lv_isub hx hb d_Dr_draw_149 ?_
    refine lv_tv (y := nI (n - 2)) (pk_sub (a := n) (b := 2) (by omega)) ?_
    refine lv_aload_n hx hb d_Dr_draw_150 rfl (lv_at hl 3 rfl) ?_
    have hC : Cut [(v, .inr (3, [.ref va, .ref vb, .int (nI n)])), (va, .inl (cI, 48, .inl fa)), (vb, .inl (cI, 48, .inl fb)), (u, .inr (4, [.ref ra, .int (nI m), .int x, .int y])), (ra, .inl (cI, oc, .inl fo))] [(v, .inr (3, [.ref va, .ref vb, .int (nI n)])), (va, .inl (cI, 48, .inl fa)), (vb, .inl (cI, 48, .inl fb)), (u, .inr (4, [.ref ra, .int (nI m), .int x, .int y])), (ra, .inl (cI, oc, .inl fo))] [] [0, 1, 2, 3, 4] [] := ⟨rfl, rfl, rfl, rfl, by decide⟩
    refine goI0 (trS (As := [.ref v, .int 0, .int (nI (n - 2)), .ref u]) (rest := []) ⟨hx, hb, hml, hown, hts⟩ gd_good (c_Dr_curves l D cB cI cJ v va vb u ra oc n fa fb m x y fo 0 (n - 2) (by omega) (by omega) (by omega) (by omega) (by omega) (by omega)) cal_Dr_curves ml_Dr_25 ⟨Nat.le_of_ble_eq_true rfl, Nat.le_of_ble_eq_true rfl⟩ hZ hP hD hC rfl hl.1 rfl (Nat.le_of_ble_eq_true rfl) d_Dr_draw_151 ⟨Nat.le_of_ble_eq_true rfl, Nat.le_of_ble_eq_true rfl⟩) hZ hP hD hS hC (fun r_151 w1 H locs hq hP hD hS => ?_)
    obtain ⟨m_151, x_151, y_151, fo_151, rfl, hv0_151, hx_151, hz_151⟩ := hq
    have hP : va_P D classes [(v, .inr (3, [.ref va, .ref vb, .int (nI n)])), (va, .inl (cI, 48, .inl fa)), (vb, .inl (cI, 48, .inl fb)), (u, .inr (4, [.ref ra, .int (nI m_151), .int x_151, .int y_151])), (ra, .inl (cI, oc, .inl fo_151))] H := hP
    have hD : va_D A_ [(v, .inr (3, [.ref va, .ref vb, .int (nI n)])), (va, .inl (cI, 48, .inl fa)), (vb, .inl (cI, 48, .inl fb)), (u, .inr (4, [.ref ra, .int (nI m_151), .int x_151, .int y_151])), (ra, .inl (cI, oc, .inl fo_151))] := hD
    refine lv_if_eq (tgt := 173) hx hb d_Dr_draw_154 (by decide) (fun c_154 => ?_) (fun c_154 => ?_)
    · refine lv_iconst (v := 0) hx hb d_Dr_draw_173 (by decide) ?_
      exact t_zret hx hb hr hlk (by first | decide | exact nar01 (by assumption)) d_Dr_draw_174 (hP.subm (ws' := [(v, .inr (3, [.ref va, .ref vb, .int (nI n)])), (va, .inl (cI, 48, .inl fa)), (vb, .inl (cI, 48, .inl fb)), (u, .inr (4, [.ref ra, .int (nI m_151), .int x_151, .int y_151])), (ra, .inl (cI, oc, .inl fo_151))]) [0, 1, 2, 3, 4] rfl) (hD.sub (ws' := [(v, .inr (3, [.ref va, .ref vb, .int (nI n)])), (va, .inl (cI, 48, .inl fa)), (vb, .inl (cI, 48, .inl fb)), (u, .inr (4, [.ref ra, .int (nI m_151), .int x_151, .int y_151])), (ra, .inl (cI, oc, .inl fo_151))]) [0, 1, 2, 3, 4] rfl rfl) hS ⟨_, rfl, rfl, rfl, _, _, _, _, rfl, (by omega), (da_no dl_24 (zR_bad hx_151.1 c_154)), (by first | decide | assumption)⟩
    · refine lv_aload_n hx hb d_Dr_draw_157 rfl (lv_at hl 2 rfl) ?_
      refine lv_iload_n hx hb d_Dr_draw_158 rfl (lv_at hl 0 rfl) ?_
      refine lv_iconst (v := 2) hx hb d_Dr_draw_159 (by decide) ?_
      refine lv_isub hx hb d_Dr_draw_160 ?_
      refine lv_tv (y := nI (n - 2)) (pk_sub (a := n) (b := 2) (by omega)) ?_
      refine lv_iload_n hx hb d_Dr_draw_161 rfl (lv_at hl 0 rfl) ?_
      refine lv_aload_n hx hb d_Dr_draw_162 rfl (lv_at hl 3 rfl) ?_
      have hC : Cut [(v, .inr (3, [.ref va, .ref vb, .int (nI n)])), (va, .inl (cI, 48, .inl fa)), (vb, .inl (cI, 48, .inl fb)), (u, .inr (4, [.ref ra, .int (nI m_151), .int x_151, .int y_151])), (ra, .inl (cI, oc, .inl fo_151))] [(v, .inr (3, [.ref va, .ref vb, .int (nI n)])), (va, .inl (cI, 48, .inl fa)), (vb, .inl (cI, 48, .inl fb)), (u, .inr (4, [.ref ra, .int (nI m_151), .int x_151, .int y_151])), (ra, .inl (cI, oc, .inl fo_151))] [] [0, 1, 2, 3, 4] [] := ⟨rfl, rfl, rfl, rfl, by decide⟩
      refine goI0 (trS (As := [.ref v, .int (nI (n - 2)), .int (nI n), .ref u]) (rest := []) ⟨hx, hb, hml, hown, hts⟩ gd_good (c_Dr_lines l D cB cI cJ v va vb u ra oc n fa fb m_151 x_151 y_151 fo_151 (n - 2) n (by omega) (by omega) (by omega) (by omega) (by omega) (by omega)) cal_Dr_lines ml_Dr_13 ⟨Nat.le_of_ble_eq_true rfl, Nat.le_of_ble_eq_true rfl⟩ hZ hP hD hC rfl hl.1 rfl (Nat.le_of_ble_eq_true rfl) d_Dr_draw_163 ⟨Nat.le_of_ble_eq_true rfl, Nat.le_of_ble_eq_true rfl⟩) hZ hP hD hS hC (fun r_163 w1 H locs hq hP hD hS => ?_)
      obtain ⟨m_163, x_163, y_163, fo_163, rfl, hv0_163, hx_163, hz_163⟩ := hq
      have hP : va_P D classes [(v, .inr (3, [.ref va, .ref vb, .int (nI n)])), (va, .inl (cI, 48, .inl fa)), (vb, .inl (cI, 48, .inl fb)), (u, .inr (4, [.ref ra, .int (nI m_163), .int x_163, .int y_163])), (ra, .inl (cI, oc, .inl fo_163))] H := hP
      have hD : va_D A_ [(v, .inr (3, [.ref va, .ref vb, .int (nI n)])), (va, .inl (cI, 48, .inl fa)), (vb, .inl (cI, 48, .inl fb)), (u, .inr (4, [.ref ra, .int (nI m_163), .int x_163, .int y_163])), (ra, .inl (cI, oc, .inl fo_163))] := hD
      refine lv_if_eq (tgt := 173) hx hb d_Dr_draw_166 (by decide) (fun c_166 => ?_) (fun c_166 => ?_)
      · refine lv_iconst (v := 0) hx hb d_Dr_draw_173 (by decide) ?_
        exact t_zret hx hb hr hlk (by first | decide | exact nar01 (by assumption)) d_Dr_draw_174 (hP.subm (ws' := [(v, .inr (3, [.ref va, .ref vb, .int (nI n)])), (va, .inl (cI, 48, .inl fa)), (vb, .inl (cI, 48, .inl fb)), (u, .inr (4, [.ref ra, .int (nI m_163), .int x_163, .int y_163])), (ra, .inl (cI, oc, .inl fo_163))]) [0, 1, 2, 3, 4] rfl) (hD.sub (ws' := [(v, .inr (3, [.ref va, .ref vb, .int (nI n)])), (va, .inl (cI, 48, .inl fa)), (vb, .inl (cI, 48, .inl fb)), (u, .inr (4, [.ref ra, .int (nI m_163), .int x_163, .int y_163])), (ra, .inl (cI, oc, .inl fo_163))]) [0, 1, 2, 3, 4] rfl rfl) hS ⟨_, rfl, rfl, rfl, _, _, _, _, rfl, (by omega), (da_0 dl_24 (zR_ok hx_151.1 c_154) (by rw [(by omega : (n - (n - 2)) / 2 = 1)]; rfl) (zR_bad hx_163.1 c_166)), (by first | decide | assumption)⟩
      · refine lv_iconst (v := 1) hx hb d_Dr_draw_169 (by decide) ?_
        refine lv_goto (tgt := 174) hx hb d_Dr_draw_170 (by decide) ?_
        exact t_zret hx hb hr hlk (by first | decide | exact nar01 (by assumption)) d_Dr_draw_174 (hP.subm (ws' := [(v, .inr (3, [.ref va, .ref vb, .int (nI n)])), (va, .inl (cI, 48, .inl fa)), (vb, .inl (cI, 48, .inl fb)), (u, .inr (4, [.ref ra, .int (nI m_163), .int x_163, .int y_163])), (ra, .inl (cI, oc, .inl fo_163))]) [0, 1, 2, 3, 4] rfl) (hD.sub (ws' := [(v, .inr (3, [.ref va, .ref vb, .int (nI n)])), (va, .inl (cI, 48, .inl fa)), (vb, .inl (cI, 48, .inl fb)), (u, .inr (4, [.ref ra, .int (nI m_163), .int x_163, .int y_163])), (ra, .inl (cI, oc, .inl fo_163))]) [0, 1, 2, 3, 4] rfl rfl) hS ⟨_, rfl, rfl, rfl, _, _, _, _, rfl, (by omega), (da_1 dl_24 (zR_ok hx_151.1 c_154) (by rw [(by omega : (n - (n - 2)) / 2 = 1)]; rfl) (zR_ok hx_163.1 c_166)), (by first | decide | assumption)⟩
  by_cases h_6_25 : c = 25
  · subst h_6_25
    refine lv_lookup (tgt := 175) (off := 169) hx hb d_Dr_draw_6 (by decide) (by first | rfl | decide) (by decide) ?_
    refine lv_aload_n hx hb d_Dr_draw_175 rfl (lv_at hl 2 rfl) ?_
    refine lv_iconst (v := 0) hx hb d_Dr_draw_176 (by decide) ?_
    refine lv_iload_n hx hb d_Dr_draw_177 rfl (lv_at hl 0 rfl) ?_
    refine lv_bipush (v := 6) hx hb d_Dr_draw_178 (by decide) ?_
    refine lv_isub hx hb d_Dr_draw_180 ?_
    refine lv_tv (y := nI (n - 6)) (pk_sub (a := n) (b := 6) (by omega)) ?_
    refine lv_aload_n hx hb d_Dr_draw_181 rfl (lv_at hl 3 rfl) ?_
    have hC : Cut [(v, .inr (3, [.ref va, .ref vb, .int (nI n)])), (va, .inl (cI, 48, .inl fa)), (vb, .inl (cI, 48, .inl fb)), (u, .inr (4, [.ref ra, .int (nI m), .int x, .int y])), (ra, .inl (cI, oc, .inl fo))] [(v, .inr (3, [.ref va, .ref vb, .int (nI n)])), (va, .inl (cI, 48, .inl fa)), (vb, .inl (cI, 48, .inl fb)), (u, .inr (4, [.ref ra, .int (nI m), .int x, .int y])), (ra, .inl (cI, oc, .inl fo))] [] [0, 1, 2, 3, 4] [] := ⟨rfl, rfl, rfl, rfl, by decide⟩
    refine goI0 (trS (As := [.ref v, .int 0, .int (nI (n - 6)), .ref u]) (rest := []) ⟨hx, hb, hml, hown, hts⟩ gd_good (c_Dr_lines l D cB cI cJ v va vb u ra oc n fa fb m x y fo 0 (n - 6) (by omega) (by omega) (by omega) (by omega) (by omega) (by omega)) cal_Dr_lines ml_Dr_13 ⟨Nat.le_of_ble_eq_true rfl, Nat.le_of_ble_eq_true rfl⟩ hZ hP hD hC rfl hl.1 rfl (Nat.le_of_ble_eq_true rfl) d_Dr_draw_182 ⟨Nat.le_of_ble_eq_true rfl, Nat.le_of_ble_eq_true rfl⟩) hZ hP hD hS hC (fun r_182 w1 H locs hq hP hD hS => ?_)
    obtain ⟨m_182, x_182, y_182, fo_182, rfl, hv0_182, hx_182, hz_182⟩ := hq
    have hP : va_P D classes [(v, .inr (3, [.ref va, .ref vb, .int (nI n)])), (va, .inl (cI, 48, .inl fa)), (vb, .inl (cI, 48, .inl fb)), (u, .inr (4, [.ref ra, .int (nI m_182), .int x_182, .int y_182])), (ra, .inl (cI, oc, .inl fo_182))] H := hP
    have hD : va_D A_ [(v, .inr (3, [.ref va, .ref vb, .int (nI n)])), (va, .inl (cI, 48, .inl fa)), (vb, .inl (cI, 48, .inl fb)), (u, .inr (4, [.ref ra, .int (nI m_182), .int x_182, .int y_182])), (ra, .inl (cI, oc, .inl fo_182))] := hD
    refine lv_if_eq (tgt := 205) hx hb d_Dr_draw_185 (by decide) (fun c_185 => ?_) (fun c_185 => ?_)
    · refine lv_iconst (v := 0) hx hb d_Dr_draw_205 (by decide) ?_
      exact t_zret hx hb hr hlk (by first | decide | exact nar01 (by assumption)) d_Dr_draw_206 (hP.subm (ws' := [(v, .inr (3, [.ref va, .ref vb, .int (nI n)])), (va, .inl (cI, 48, .inl fa)), (vb, .inl (cI, 48, .inl fb)), (u, .inr (4, [.ref ra, .int (nI m_182), .int x_182, .int y_182])), (ra, .inl (cI, oc, .inl fo_182))]) [0, 1, 2, 3, 4] rfl) (hD.sub (ws' := [(v, .inr (3, [.ref va, .ref vb, .int (nI n)])), (va, .inl (cI, 48, .inl fa)), (vb, .inl (cI, 48, .inl fb)), (u, .inr (4, [.ref ra, .int (nI m_182), .int x_182, .int y_182])), (ra, .inl (cI, oc, .inl fo_182))]) [0, 1, 2, 3, 4] rfl rfl) hS ⟨_, rfl, rfl, rfl, _, _, _, _, rfl, (by omega), (da_no dl_25 (zR_bad hx_182.1 c_185)), (by first | decide | assumption)⟩
    · refine lv_aload_n hx hb d_Dr_draw_188 rfl (lv_at hl 2 rfl) ?_
      refine lv_iload_n hx hb d_Dr_draw_189 rfl (lv_at hl 0 rfl) ?_
      refine lv_bipush (v := 6) hx hb d_Dr_draw_190 (by decide) ?_
      refine lv_isub hx hb d_Dr_draw_192 ?_
      refine lv_tv (y := nI (n - 6)) (pk_sub (a := n) (b := 6) (by omega)) ?_
      refine lv_iload_n hx hb d_Dr_draw_193 rfl (lv_at hl 0 rfl) ?_
      refine lv_aload_n hx hb d_Dr_draw_194 rfl (lv_at hl 3 rfl) ?_
      have hC : Cut [(v, .inr (3, [.ref va, .ref vb, .int (nI n)])), (va, .inl (cI, 48, .inl fa)), (vb, .inl (cI, 48, .inl fb)), (u, .inr (4, [.ref ra, .int (nI m_182), .int x_182, .int y_182])), (ra, .inl (cI, oc, .inl fo_182))] [(v, .inr (3, [.ref va, .ref vb, .int (nI n)])), (va, .inl (cI, 48, .inl fa)), (vb, .inl (cI, 48, .inl fb)), (u, .inr (4, [.ref ra, .int (nI m_182), .int x_182, .int y_182])), (ra, .inl (cI, oc, .inl fo_182))] [] [0, 1, 2, 3, 4] [] := ⟨rfl, rfl, rfl, rfl, by decide⟩
      refine goI0 (trS (As := [.ref v, .int (nI (n - 6)), .int (nI n), .ref u]) (rest := []) ⟨hx, hb, hml, hown, hts⟩ gd_good (c_Dr_curves l D cB cI cJ v va vb u ra oc n fa fb m_182 x_182 y_182 fo_182 (n - 6) n (by omega) (by omega) (by omega) (by omega) (by omega) (by omega)) cal_Dr_curves ml_Dr_25 ⟨Nat.le_of_ble_eq_true rfl, Nat.le_of_ble_eq_true rfl⟩ hZ hP hD hC rfl hl.1 rfl (Nat.le_of_ble_eq_true rfl) d_Dr_draw_195 ⟨Nat.le_of_ble_eq_true rfl, Nat.le_of_ble_eq_true rfl⟩) hZ hP hD hS hC (fun r_195 w1 H locs hq hP hD hS => ?_)
      obtain ⟨m_195, x_195, y_195, fo_195, rfl, hv0_195, hx_195, hz_195⟩ := hq
      have hP : va_P D classes [(v, .inr (3, [.ref va, .ref vb, .int (nI n)])), (va, .inl (cI, 48, .inl fa)), (vb, .inl (cI, 48, .inl fb)), (u, .inr (4, [.ref ra, .int (nI m_195), .int x_195, .int y_195])), (ra, .inl (cI, oc, .inl fo_195))] H := hP
      have hD : va_D A_ [(v, .inr (3, [.ref va, .ref vb, .int (nI n)])), (va, .inl (cI, 48, .inl fa)), (vb, .inl (cI, 48, .inl fb)), (u, .inr (4, [.ref ra, .int (nI m_195), .int x_195, .int y_195])), (ra, .inl (cI, oc, .inl fo_195))] := hD
      refine lv_if_eq (tgt := 205) hx hb d_Dr_draw_198 (by decide) (fun c_198 => ?_) (fun c_198 => ?_)
      · refine lv_iconst (v := 0) hx hb d_Dr_draw_205 (by decide) ?_
        exact t_zret hx hb hr hlk (by first | decide | exact nar01 (by assumption)) d_Dr_draw_206 (hP.subm (ws' := [(v, .inr (3, [.ref va, .ref vb, .int (nI n)])), (va, .inl (cI, 48, .inl fa)), (vb, .inl (cI, 48, .inl fb)), (u, .inr (4, [.ref ra, .int (nI m_195), .int x_195, .int y_195])), (ra, .inl (cI, oc, .inl fo_195))]) [0, 1, 2, 3, 4] rfl) (hD.sub (ws' := [(v, .inr (3, [.ref va, .ref vb, .int (nI n)])), (va, .inl (cI, 48, .inl fa)), (vb, .inl (cI, 48, .inl fb)), (u, .inr (4, [.ref ra, .int (nI m_195), .int x_195, .int y_195])), (ra, .inl (cI, oc, .inl fo_195))]) [0, 1, 2, 3, 4] rfl rfl) hS ⟨_, rfl, rfl, rfl, _, _, _, _, rfl, (by omega), (da_0 dl_25 (zR_ok hx_182.1 c_185) (by rw [(by omega : (n - (n - 6)) / 6 = 1)]; rfl) (zR_bad hx_195.1 c_198)), (by first | decide | assumption)⟩
      · refine lv_iconst (v := 1) hx hb d_Dr_draw_201 (by decide) ?_
        refine lv_goto (tgt := 206) hx hb d_Dr_draw_202 (by decide) ?_
        exact t_zret hx hb hr hlk (by first | decide | exact nar01 (by assumption)) d_Dr_draw_206 (hP.subm (ws' := [(v, .inr (3, [.ref va, .ref vb, .int (nI n)])), (va, .inl (cI, 48, .inl fa)), (vb, .inl (cI, 48, .inl fb)), (u, .inr (4, [.ref ra, .int (nI m_195), .int x_195, .int y_195])), (ra, .inl (cI, oc, .inl fo_195))]) [0, 1, 2, 3, 4] rfl) (hD.sub (ws' := [(v, .inr (3, [.ref va, .ref vb, .int (nI n)])), (va, .inl (cI, 48, .inl fa)), (vb, .inl (cI, 48, .inl fb)), (u, .inr (4, [.ref ra, .int (nI m_195), .int x_195, .int y_195])), (ra, .inl (cI, oc, .inl fo_195))]) [0, 1, 2, 3, 4] rfl rfl) hS ⟨_, rfl, rfl, rfl, _, _, _, _, rfl, (by omega), (da_1 dl_25 (zR_ok hx_182.1 c_185) (by rw [(by omega : (n - (n - 6)) / 6 = 1)]; rfl) (zR_ok hx_195.1 c_198)), (by first | decide | assumption)⟩
  by_cases h_6_26 : c = 26
  · subst h_6_26
    refine lv_lookup (tgt := 213) (off := 207) hx hb d_Dr_draw_6 (by decide) (by first | rfl | decide) (by decide) ?_
    refine lv_aload_n hx hb d_Dr_draw_213 rfl (lv_at hl 2 rfl) ?_
    refine lv_aload_n hx hb d_Dr_draw_214 rfl (lv_at hl 3 rfl) ?_
    have hC : Cut [(v, .inr (3, [.ref va, .ref vb, .int (nI n)])), (va, .inl (cI, 48, .inl fa)), (vb, .inl (cI, 48, .inl fb)), (u, .inr (4, [.ref ra, .int (nI m), .int x, .int y])), (ra, .inl (cI, oc, .inl fo))] [(v, .inr (3, [.ref va, .ref vb, .int (nI n)])), (va, .inl (cI, 48, .inl fa)), (vb, .inl (cI, 48, .inl fb)), (u, .inr (4, [.ref ra, .int (nI m), .int x, .int y])), (ra, .inl (cI, oc, .inl fo))] [] [0, 1, 2, 3, 4] [] := ⟨rfl, rfl, rfl, rfl, by decide⟩
    refine goI0 (trS (As := [.ref v, .ref u]) (rest := []) ⟨hx, hb, hml, hown, hts⟩ gd_good (c_Dr_curvesUpright l D cB cI cJ v va vb u ra oc n fa fb m x y fo (by omega) (by omega) (by omega)) cal_Dr_curvesUpright ml_Dr_32 ⟨Nat.le_of_ble_eq_true rfl, Nat.le_of_ble_eq_true rfl⟩ hZ hP hD hC rfl hl.1 rfl (Nat.le_of_ble_eq_true rfl) d_Dr_draw_215 ⟨Nat.le_of_ble_eq_true rfl, Nat.le_of_ble_eq_true rfl⟩) hZ hP hD hS hC (fun r_215 w1 H locs hq hP hD hS => ?_)
    obtain ⟨m_215, x_215, y_215, fo_215, rfl, hv0_215, hx_215, hz_215⟩ := hq
    have hP : va_P D classes [(v, .inr (3, [.ref va, .ref vb, .int (nI n)])), (va, .inl (cI, 48, .inl fa)), (vb, .inl (cI, 48, .inl fb)), (u, .inr (4, [.ref ra, .int (nI m_215), .int x_215, .int y_215])), (ra, .inl (cI, oc, .inl fo_215))] H := hP
    have hD : va_D A_ [(v, .inr (3, [.ref va, .ref vb, .int (nI n)])), (va, .inl (cI, 48, .inl fa)), (vb, .inl (cI, 48, .inl fb)), (u, .inr (4, [.ref ra, .int (nI m_215), .int x_215, .int y_215])), (ra, .inl (cI, oc, .inl fo_215))] := hD
    exact t_zret hx hb hr hlk (by first | decide | exact nar01 (by assumption)) d_Dr_draw_218 (hP.subm (ws' := [(v, .inr (3, [.ref va, .ref vb, .int (nI n)])), (va, .inl (cI, 48, .inl fa)), (vb, .inl (cI, 48, .inl fb)), (u, .inr (4, [.ref ra, .int (nI m_215), .int x_215, .int y_215])), (ra, .inl (cI, oc, .inl fo_215))]) [0, 1, 2, 3, 4] rfl) (hD.sub (ws' := [(v, .inr (3, [.ref va, .ref vb, .int (nI n)])), (va, .inl (cI, 48, .inl fa)), (vb, .inl (cI, 48, .inl fb)), (u, .inr (4, [.ref ra, .int (nI m_215), .int x_215, .int y_215])), (ra, .inl (cI, oc, .inl fo_215))]) [0, 1, 2, 3, 4] rfl rfl) hS ⟨_, rfl, rfl, rfl, _, _, _, _, rfl, (by omega), hx_215, (by first | decide | assumption)⟩
  by_cases h_6_27 : c = 27
  · subst h_6_27
    refine lv_lookup (tgt := 207) (off := 201) hx hb d_Dr_draw_6 (by decide) (by first | rfl | decide) (by decide) ?_
    refine lv_aload_n hx hb d_Dr_draw_207 rfl (lv_at hl 2 rfl) ?_
    refine lv_aload_n hx hb d_Dr_draw_208 rfl (lv_at hl 3 rfl) ?_
    have hC : Cut [(v, .inr (3, [.ref va, .ref vb, .int (nI n)])), (va, .inl (cI, 48, .inl fa)), (vb, .inl (cI, 48, .inl fb)), (u, .inr (4, [.ref ra, .int (nI m), .int x, .int y])), (ra, .inl (cI, oc, .inl fo))] [(v, .inr (3, [.ref va, .ref vb, .int (nI n)])), (va, .inl (cI, 48, .inl fa)), (vb, .inl (cI, 48, .inl fb)), (u, .inr (4, [.ref ra, .int (nI m), .int x, .int y])), (ra, .inl (cI, oc, .inl fo))] [] [0, 1, 2, 3, 4] [] := ⟨rfl, rfl, rfl, rfl, by decide⟩
    refine goI0 (trS (As := [.ref v, .ref u]) (rest := []) ⟨hx, hb, hml, hown, hts⟩ gd_good (c_Dr_curvesAcross l D cB cI cJ v va vb u ra oc n fa fb m x y fo (by omega) (by omega) (by omega)) cal_Dr_curvesAcross ml_Dr_28 ⟨Nat.le_of_ble_eq_true rfl, Nat.le_of_ble_eq_true rfl⟩ hZ hP hD hC rfl hl.1 rfl (Nat.le_of_ble_eq_true rfl) d_Dr_draw_209 ⟨Nat.le_of_ble_eq_true rfl, Nat.le_of_ble_eq_true rfl⟩) hZ hP hD hS hC (fun r_209 w1 H locs hq hP hD hS => ?_)
    obtain ⟨m_209, x_209, y_209, fo_209, rfl, hv0_209, hx_209, hz_209⟩ := hq
    have hP : va_P D classes [(v, .inr (3, [.ref va, .ref vb, .int (nI n)])), (va, .inl (cI, 48, .inl fa)), (vb, .inl (cI, 48, .inl fb)), (u, .inr (4, [.ref ra, .int (nI m_209), .int x_209, .int y_209])), (ra, .inl (cI, oc, .inl fo_209))] H := hP
    have hD : va_D A_ [(v, .inr (3, [.ref va, .ref vb, .int (nI n)])), (va, .inl (cI, 48, .inl fa)), (vb, .inl (cI, 48, .inl fb)), (u, .inr (4, [.ref ra, .int (nI m_209), .int x_209, .int y_209])), (ra, .inl (cI, oc, .inl fo_209))] := hD
    exact t_zret hx hb hr hlk (by first | decide | exact nar01 (by assumption)) d_Dr_draw_212 (hP.subm (ws' := [(v, .inr (3, [.ref va, .ref vb, .int (nI n)])), (va, .inl (cI, 48, .inl fa)), (vb, .inl (cI, 48, .inl fb)), (u, .inr (4, [.ref ra, .int (nI m_209), .int x_209, .int y_209])), (ra, .inl (cI, oc, .inl fo_209))]) [0, 1, 2, 3, 4] rfl) (hD.sub (ws' := [(v, .inr (3, [.ref va, .ref vb, .int (nI n)])), (va, .inl (cI, 48, .inl fa)), (vb, .inl (cI, 48, .inl fb)), (u, .inr (4, [.ref ra, .int (nI m_209), .int x_209, .int y_209])), (ra, .inl (cI, oc, .inl fo_209))]) [0, 1, 2, 3, 4] rfl rfl) hS ⟨_, rfl, rfl, rfl, _, _, _, _, rfl, (by omega), hx_209, (by first | decide | assumption)⟩
  by_cases h_6_290 : c = 290
  · subst h_6_290
    refine lv_lookup (tgt := 219) (off := 213) hx hb d_Dr_draw_6 (by decide) (by first | rfl | decide) (by decide) ?_
    refine lv_aload_n hx hb d_Dr_draw_219 rfl (lv_at hl 2 rfl) ?_
    refine lv_aload_n hx hb d_Dr_draw_220 rfl (lv_at hl 3 rfl) ?_
    have hC : Cut [(v, .inr (3, [.ref va, .ref vb, .int (nI n)])), (va, .inl (cI, 48, .inl fa)), (vb, .inl (cI, 48, .inl fb)), (u, .inr (4, [.ref ra, .int (nI m), .int x, .int y])), (ra, .inl (cI, oc, .inl fo))] [(v, .inr (3, [.ref va, .ref vb, .int (nI n)])), (va, .inl (cI, 48, .inl fa)), (vb, .inl (cI, 48, .inl fb)), (u, .inr (4, [.ref ra, .int (nI m), .int x, .int y])), (ra, .inl (cI, oc, .inl fo))] [] [0, 1, 2, 3, 4] [] := ⟨rfl, rfl, rfl, rfl, by decide⟩
    refine goI0 (trS (As := [.ref v, .ref u]) (rest := []) ⟨hx, hb, hml, hown, hts⟩ gd_good (c_Dr_flexAcross l D cB cI cJ v va vb u ra oc n fa fb m x y fo (by omega) (by omega) (by omega) (by omega)) cal_Dr_flexAcross ml_Dr_35 ⟨Nat.le_of_ble_eq_true rfl, Nat.le_of_ble_eq_true rfl⟩ hZ hP hD hC rfl hl.1 rfl (Nat.le_of_ble_eq_true rfl) d_Dr_draw_221 ⟨Nat.le_of_ble_eq_true rfl, Nat.le_of_ble_eq_true rfl⟩) hZ hP hD hS hC (fun r_221 w1 H locs hq hP hD hS => ?_)
    obtain ⟨m_221, x_221, y_221, fo_221, rfl, hv0_221, hx_221, hz_221⟩ := hq
    have hP : va_P D classes [(v, .inr (3, [.ref va, .ref vb, .int (nI n)])), (va, .inl (cI, 48, .inl fa)), (vb, .inl (cI, 48, .inl fb)), (u, .inr (4, [.ref ra, .int (nI m_221), .int x_221, .int y_221])), (ra, .inl (cI, oc, .inl fo_221))] H := hP
    have hD : va_D A_ [(v, .inr (3, [.ref va, .ref vb, .int (nI n)])), (va, .inl (cI, 48, .inl fa)), (vb, .inl (cI, 48, .inl fb)), (u, .inr (4, [.ref ra, .int (nI m_221), .int x_221, .int y_221])), (ra, .inl (cI, oc, .inl fo_221))] := hD
    exact t_zret hx hb hr hlk (by first | decide | exact nar01 (by assumption)) d_Dr_draw_224 (hP.subm (ws' := [(v, .inr (3, [.ref va, .ref vb, .int (nI n)])), (va, .inl (cI, 48, .inl fa)), (vb, .inl (cI, 48, .inl fb)), (u, .inr (4, [.ref ra, .int (nI m_221), .int x_221, .int y_221])), (ra, .inl (cI, oc, .inl fo_221))]) [0, 1, 2, 3, 4] rfl) (hD.sub (ws' := [(v, .inr (3, [.ref va, .ref vb, .int (nI n)])), (va, .inl (cI, 48, .inl fa)), (vb, .inl (cI, 48, .inl fb)), (u, .inr (4, [.ref ra, .int (nI m_221), .int x_221, .int y_221])), (ra, .inl (cI, oc, .inl fo_221))]) [0, 1, 2, 3, 4] rfl rfl) hS ⟨_, rfl, rfl, rfl, _, _, _, _, rfl, (by omega), hx_221, (by first | decide | assumption)⟩
  by_cases h_6_291 : c = 291
  · subst h_6_291
    refine lv_lookup (tgt := 225) (off := 219) hx hb d_Dr_draw_6 (by decide) (by first | rfl | decide) (by decide) ?_
    refine lv_aload_n hx hb d_Dr_draw_225 rfl (lv_at hl 2 rfl) ?_
    refine lv_iconst (v := 0) hx hb d_Dr_draw_226 (by decide) ?_
    refine lv_bipush (v := 12) hx hb d_Dr_draw_227 (by decide) ?_
    refine lv_aload_n hx hb d_Dr_draw_229 rfl (lv_at hl 3 rfl) ?_
    have hC : Cut [(v, .inr (3, [.ref va, .ref vb, .int (nI n)])), (va, .inl (cI, 48, .inl fa)), (vb, .inl (cI, 48, .inl fb)), (u, .inr (4, [.ref ra, .int (nI m), .int x, .int y])), (ra, .inl (cI, oc, .inl fo))] [(v, .inr (3, [.ref va, .ref vb, .int (nI n)])), (va, .inl (cI, 48, .inl fa)), (vb, .inl (cI, 48, .inl fb)), (u, .inr (4, [.ref ra, .int (nI m), .int x, .int y])), (ra, .inl (cI, oc, .inl fo))] [] [0, 1, 2, 3, 4] [] := ⟨rfl, rfl, rfl, rfl, by decide⟩
    refine goI0 (trS (As := [.ref v, .int 0, .int 12, .ref u]) (rest := []) ⟨hx, hb, hml, hown, hts⟩ gd_good (c_Dr_curves l D cB cI cJ v va vb u ra oc n fa fb m x y fo 0 12 (by omega) (by omega) (by omega) (by omega) (by omega) (by omega)) cal_Dr_curves ml_Dr_25 ⟨Nat.le_of_ble_eq_true rfl, Nat.le_of_ble_eq_true rfl⟩ hZ hP hD hC rfl hl.1 rfl (Nat.le_of_ble_eq_true rfl) d_Dr_draw_230 ⟨Nat.le_of_ble_eq_true rfl, Nat.le_of_ble_eq_true rfl⟩) hZ hP hD hS hC (fun r_230 w1 H locs hq hP hD hS => ?_)
    obtain ⟨m_230, x_230, y_230, fo_230, rfl, hv0_230, hx_230, hz_230⟩ := hq
    have hP : va_P D classes [(v, .inr (3, [.ref va, .ref vb, .int (nI n)])), (va, .inl (cI, 48, .inl fa)), (vb, .inl (cI, 48, .inl fb)), (u, .inr (4, [.ref ra, .int (nI m_230), .int x_230, .int y_230])), (ra, .inl (cI, oc, .inl fo_230))] H := hP
    have hD : va_D A_ [(v, .inr (3, [.ref va, .ref vb, .int (nI n)])), (va, .inl (cI, 48, .inl fa)), (vb, .inl (cI, 48, .inl fb)), (u, .inr (4, [.ref ra, .int (nI m_230), .int x_230, .int y_230])), (ra, .inl (cI, oc, .inl fo_230))] := hD
    exact t_zret hx hb hr hlk (by first | decide | exact nar01 (by assumption)) d_Dr_draw_233 (hP.subm (ws' := [(v, .inr (3, [.ref va, .ref vb, .int (nI n)])), (va, .inl (cI, 48, .inl fa)), (vb, .inl (cI, 48, .inl fb)), (u, .inr (4, [.ref ra, .int (nI m_230), .int x_230, .int y_230])), (ra, .inl (cI, oc, .inl fo_230))]) [0, 1, 2, 3, 4] rfl) (hD.sub (ws' := [(v, .inr (3, [.ref va, .ref vb, .int (nI n)])), (va, .inl (cI, 48, .inl fa)), (vb, .inl (cI, 48, .inl fb)), (u, .inr (4, [.ref ra, .int (nI m_230), .int x_230, .int y_230])), (ra, .inl (cI, oc, .inl fo_230))]) [0, 1, 2, 3, 4] rfl rfl) hS ⟨_, rfl, rfl, rfl, _, _, _, _, rfl, (by omega), hx_230.1, (by first | decide | assumption)⟩
  by_cases h_6_292 : c = 292
  · subst h_6_292
    refine lv_lookup (tgt := 234) (off := 228) hx hb d_Dr_draw_6 (by decide) (by first | rfl | decide) (by decide) ?_
    refine lv_aload_n hx hb d_Dr_draw_234 rfl (lv_at hl 2 rfl) ?_
    refine lv_aload_n hx hb d_Dr_draw_235 rfl (lv_at hl 3 rfl) ?_
    have hC : Cut [(v, .inr (3, [.ref va, .ref vb, .int (nI n)])), (va, .inl (cI, 48, .inl fa)), (vb, .inl (cI, 48, .inl fb)), (u, .inr (4, [.ref ra, .int (nI m), .int x, .int y])), (ra, .inl (cI, oc, .inl fo))] [(v, .inr (3, [.ref va, .ref vb, .int (nI n)])), (va, .inl (cI, 48, .inl fa)), (vb, .inl (cI, 48, .inl fb)), (u, .inr (4, [.ref ra, .int (nI m), .int x, .int y])), (ra, .inl (cI, oc, .inl fo))] [] [0, 1, 2, 3, 4] [] := ⟨rfl, rfl, rfl, rfl, by decide⟩
    refine goI0 (trS (As := [.ref v, .ref u]) (rest := []) ⟨hx, hb, hml, hown, hts⟩ gd_good (c_Dr_flexBack l D cB cI cJ v va vb u ra oc n fa fb m x y fo (by omega) (by omega) (by omega) (by omega)) cal_Dr_flexBack ml_Dr_38 ⟨Nat.le_of_ble_eq_true rfl, Nat.le_of_ble_eq_true rfl⟩ hZ hP hD hC rfl hl.1 rfl (Nat.le_of_ble_eq_true rfl) d_Dr_draw_236 ⟨Nat.le_of_ble_eq_true rfl, Nat.le_of_ble_eq_true rfl⟩) hZ hP hD hS hC (fun r_236 w1 H locs hq hP hD hS => ?_)
    obtain ⟨m_236, x_236, y_236, fo_236, rfl, hv0_236, hx_236, hz_236⟩ := hq
    have hP : va_P D classes [(v, .inr (3, [.ref va, .ref vb, .int (nI n)])), (va, .inl (cI, 48, .inl fa)), (vb, .inl (cI, 48, .inl fb)), (u, .inr (4, [.ref ra, .int (nI m_236), .int x_236, .int y_236])), (ra, .inl (cI, oc, .inl fo_236))] H := hP
    have hD : va_D A_ [(v, .inr (3, [.ref va, .ref vb, .int (nI n)])), (va, .inl (cI, 48, .inl fa)), (vb, .inl (cI, 48, .inl fb)), (u, .inr (4, [.ref ra, .int (nI m_236), .int x_236, .int y_236])), (ra, .inl (cI, oc, .inl fo_236))] := hD
    exact t_zret hx hb hr hlk (by first | decide | exact nar01 (by assumption)) d_Dr_draw_239 (hP.subm (ws' := [(v, .inr (3, [.ref va, .ref vb, .int (nI n)])), (va, .inl (cI, 48, .inl fa)), (vb, .inl (cI, 48, .inl fb)), (u, .inr (4, [.ref ra, .int (nI m_236), .int x_236, .int y_236])), (ra, .inl (cI, oc, .inl fo_236))]) [0, 1, 2, 3, 4] rfl) (hD.sub (ws' := [(v, .inr (3, [.ref va, .ref vb, .int (nI n)])), (va, .inl (cI, 48, .inl fa)), (vb, .inl (cI, 48, .inl fb)), (u, .inr (4, [.ref ra, .int (nI m_236), .int x_236, .int y_236])), (ra, .inl (cI, oc, .inl fo_236))]) [0, 1, 2, 3, 4] rfl rfl) hS ⟨_, rfl, rfl, rfl, _, _, _, _, rfl, (by omega), hx_236, (by first | decide | assumption)⟩
  by_cases h_6_293 : c = 293
  · subst h_6_293
    refine lv_lookup (tgt := 240) (off := 234) hx hb d_Dr_draw_6 (by decide) (by first | rfl | decide) (by decide) ?_
    refine lv_aload_n hx hb d_Dr_draw_240 rfl (lv_at hl 2 rfl) ?_
    refine lv_aload_n hx hb d_Dr_draw_241 rfl (lv_at hl 3 rfl) ?_
    have hC : Cut [(v, .inr (3, [.ref va, .ref vb, .int (nI n)])), (va, .inl (cI, 48, .inl fa)), (vb, .inl (cI, 48, .inl fb)), (u, .inr (4, [.ref ra, .int (nI m), .int x, .int y])), (ra, .inl (cI, oc, .inl fo))] [(v, .inr (3, [.ref va, .ref vb, .int (nI n)])), (va, .inl (cI, 48, .inl fa)), (vb, .inl (cI, 48, .inl fb)), (u, .inr (4, [.ref ra, .int (nI m), .int x, .int y])), (ra, .inl (cI, oc, .inl fo))] [] [0, 1, 2, 3, 4] [] := ⟨rfl, rfl, rfl, rfl, by decide⟩
    refine goI0 (trS (As := [.ref v, .ref u]) (rest := []) ⟨hx, hb, hml, hown, hts⟩ gd_good (c_Dr_flexEither l D cB cI cJ v va vb u ra oc n fa fb m x y fo (by omega) (by omega) (by omega) (by omega)) cal_Dr_flexEither ml_Dr_41 ⟨Nat.le_of_ble_eq_true rfl, Nat.le_of_ble_eq_true rfl⟩ hZ hP hD hC rfl hl.1 rfl (Nat.le_of_ble_eq_true rfl) d_Dr_draw_242 ⟨Nat.le_of_ble_eq_true rfl, Nat.le_of_ble_eq_true rfl⟩) hZ hP hD hS hC (fun r_242 w1 H locs hq hP hD hS => ?_)
    obtain ⟨m_242, x_242, y_242, fo_242, rfl, hv0_242, hx_242, hz_242⟩ := hq
    have hP : va_P D classes [(v, .inr (3, [.ref va, .ref vb, .int (nI n)])), (va, .inl (cI, 48, .inl fa)), (vb, .inl (cI, 48, .inl fb)), (u, .inr (4, [.ref ra, .int (nI m_242), .int x_242, .int y_242])), (ra, .inl (cI, oc, .inl fo_242))] H := hP
    have hD : va_D A_ [(v, .inr (3, [.ref va, .ref vb, .int (nI n)])), (va, .inl (cI, 48, .inl fa)), (vb, .inl (cI, 48, .inl fb)), (u, .inr (4, [.ref ra, .int (nI m_242), .int x_242, .int y_242])), (ra, .inl (cI, oc, .inl fo_242))] := hD
    exact t_zret hx hb hr hlk (by first | decide | exact nar01 (by assumption)) d_Dr_draw_245 (hP.subm (ws' := [(v, .inr (3, [.ref va, .ref vb, .int (nI n)])), (va, .inl (cI, 48, .inl fa)), (vb, .inl (cI, 48, .inl fb)), (u, .inr (4, [.ref ra, .int (nI m_242), .int x_242, .int y_242])), (ra, .inl (cI, oc, .inl fo_242))]) [0, 1, 2, 3, 4] rfl) (hD.sub (ws' := [(v, .inr (3, [.ref va, .ref vb, .int (nI n)])), (va, .inl (cI, 48, .inl fa)), (vb, .inl (cI, 48, .inl fb)), (u, .inr (4, [.ref ra, .int (nI m_242), .int x_242, .int y_242])), (ra, .inl (cI, oc, .inl fo_242))]) [0, 1, 2, 3, 4] rfl rfl) hS ⟨_, rfl, rfl, rfl, _, _, _, _, rfl, (by omega), hx_242, (by first | decide | assumption)⟩
  have gh_6_5 : ¬ nI c = 5 := fun z => h_6_5 ((nI_eq (a := c) (b := 5) (by omega) (by omega)).mp z)
  have gh_6_6 : ¬ nI c = 6 := fun z => h_6_6 ((nI_eq (a := c) (b := 6) (by omega) (by omega)).mp z)
  have gh_6_7 : ¬ nI c = 7 := fun z => h_6_7 ((nI_eq (a := c) (b := 7) (by omega) (by omega)).mp z)
  have gh_6_8 : ¬ nI c = 8 := fun z => h_6_8 ((nI_eq (a := c) (b := 8) (by omega) (by omega)).mp z)
  have gh_6_24 : ¬ nI c = 24 := fun z => h_6_24 ((nI_eq (a := c) (b := 24) (by omega) (by omega)).mp z)
  have gh_6_25 : ¬ nI c = 25 := fun z => h_6_25 ((nI_eq (a := c) (b := 25) (by omega) (by omega)).mp z)
  have gh_6_26 : ¬ nI c = 26 := fun z => h_6_26 ((nI_eq (a := c) (b := 26) (by omega) (by omega)).mp z)
  have gh_6_27 : ¬ nI c = 27 := fun z => h_6_27 ((nI_eq (a := c) (b := 27) (by omega) (by omega)).mp z)
  have gh_6_290 : ¬ nI c = 290 := fun z => h_6_290 ((nI_eq (a := c) (b := 290) (by omega) (by omega)).mp z)
  have gh_6_291 : ¬ nI c = 291 := fun z => h_6_291 ((nI_eq (a := c) (b := 291) (by omega) (by omega)).mp z)
  have gh_6_292 : ¬ nI c = 292 := fun z => h_6_292 ((nI_eq (a := c) (b := 292) (by omega) (by omega)).mp z)
  have gh_6_293 : ¬ nI c = 293 := fun z => h_6_293 ((nI_eq (a := c) (b := 293) (by omega) (by omega)).mp z)
  refine lv_lookup (tgt := 246) (off := 240) hx hb d_Dr_draw_6 (by decide) (by show Op.lookupswitch.offset _ _ _ = _; first | (rw [lv_osw gh_6_5 (by decide), lv_osw gh_6_6 (by decide), lv_osw gh_6_7 (by decide), lv_osw gh_6_8 (by decide), lv_osw gh_6_24 (by decide), lv_osw gh_6_25 (by decide), lv_osw gh_6_26 (by decide), lv_osw gh_6_27 (by decide), lv_osw gh_6_290 (by decide), lv_osw gh_6_291 (by decide), lv_osw gh_6_292 (by decide), lv_osw gh_6_293 (by decide)]; done) | (rw [lv_osw gh_6_5 (by decide), lv_osw gh_6_6 (by decide), lv_osw gh_6_7 (by decide), lv_osw gh_6_8 (by decide), lv_osw gh_6_24 (by decide), lv_osw gh_6_25 (by decide), lv_osw gh_6_26 (by decide), lv_osw gh_6_27 (by decide), lv_osw gh_6_290 (by decide), lv_osw gh_6_291 (by decide), lv_osw gh_6_292 (by decide), lv_osw gh_6_293 (by decide)]; rfl)) (by decide) ?_
  clear gh_6_5
  clear gh_6_6
  clear gh_6_7
  clear gh_6_8
  clear gh_6_24
  clear gh_6_25
  clear gh_6_26
  clear gh_6_27
  clear gh_6_290
  clear gh_6_291
  clear gh_6_292
  clear gh_6_293
  refine lv_aload_n hx hb d_Dr_draw_246 rfl (lv_at hl 2 rfl) ?_
  refine lv_iload_n hx hb d_Dr_draw_247 rfl (lv_at hl 1 rfl) ?_
  refine lv_bipush (v := 31) hx hb d_Dr_draw_248 (by decide) ?_
  refine lv_icmp_ne (tgt := 257) hx hb d_Dr_draw_250 (by decide) (fun c_250 => ?_) (fun c_250 => ?_)
  · have n_250 : ¬ (c) = (31) := fun z => c_250 ((nI_eq (a := c) (b := 31) (by omega) (by omega)).mpr z)
    refine lv_iconst (v := 0) hx hb d_Dr_draw_257 (by decide) ?_
    refine lv_aload_n hx hb d_Dr_draw_258 rfl (lv_at hl 3 rfl) ?_
    have hC : Cut [(v, .inr (3, [.ref va, .ref vb, .int (nI n)])), (va, .inl (cI, 48, .inl fa)), (vb, .inl (cI, 48, .inl fb)), (u, .inr (4, [.ref ra, .int (nI m), .int x, .int y])), (ra, .inl (cI, oc, .inl fo))] [(v, .inr (3, [.ref va, .ref vb, .int (nI n)])), (va, .inl (cI, 48, .inl fa)), (vb, .inl (cI, 48, .inl fb)), (u, .inr (4, [.ref ra, .int (nI m), .int x, .int y])), (ra, .inl (cI, oc, .inl fo))] [] [0, 1, 2, 3, 4] [] := ⟨rfl, rfl, rfl, rfl, by decide⟩
    refine goI0 (trS (As := [.ref v, .int 0, .ref u]) (rest := []) ⟨hx, hb, hml, hown, hts⟩ gd_good (c_Dr_curvesInTurn l D cB cI cJ v va vb u ra oc n fa fb m x y fo 0 (by omega) (by omega) false rfl (by omega)) cal_Dr_curvesInTurn ml_Dr_44 ⟨Nat.le_of_ble_eq_true rfl, Nat.le_of_ble_eq_true rfl⟩ hZ hP hD hC rfl hl.1 rfl (Nat.le_of_ble_eq_true rfl) d_Dr_draw_259 ⟨Nat.le_of_ble_eq_true rfl, Nat.le_of_ble_eq_true rfl⟩) hZ hP hD hS hC (fun r_259 w1 H locs hq hP hD hS => ?_)
    obtain ⟨m_259, x_259, y_259, fo_259, rfl, hv0_259, hx_259, hz_259⟩ := hq
    have hP : va_P D classes [(v, .inr (3, [.ref va, .ref vb, .int (nI n)])), (va, .inl (cI, 48, .inl fa)), (vb, .inl (cI, 48, .inl fb)), (u, .inr (4, [.ref ra, .int (nI m_259), .int x_259, .int y_259])), (ra, .inl (cI, oc, .inl fo_259))] H := hP
    have hD : va_D A_ [(v, .inr (3, [.ref va, .ref vb, .int (nI n)])), (va, .inl (cI, 48, .inl fa)), (vb, .inl (cI, 48, .inl fb)), (u, .inr (4, [.ref ra, .int (nI m_259), .int x_259, .int y_259])), (ra, .inl (cI, oc, .inl fo_259))] := hD
    exact t_zret hx hb hr hlk (by first | decide | exact nar01 (by assumption)) d_Dr_draw_262 (hP.subm (ws' := [(v, .inr (3, [.ref va, .ref vb, .int (nI n)])), (va, .inl (cI, 48, .inl fa)), (vb, .inl (cI, 48, .inl fb)), (u, .inr (4, [.ref ra, .int (nI m_259), .int x_259, .int y_259])), (ra, .inl (cI, oc, .inl fo_259))]) [0, 1, 2, 3, 4] rfl) (hD.sub (ws' := [(v, .inr (3, [.ref va, .ref vb, .int (nI n)])), (va, .inl (cI, 48, .inl fa)), (vb, .inl (cI, 48, .inl fb)), (u, .inr (4, [.ref ra, .int (nI m_259), .int x_259, .int y_259])), (ra, .inl (cI, oc, .inl fo_259))]) [0, 1, 2, 3, 4] rfl rfl) hS ⟨_, rfl, rfl, rfl, _, _, _, _, rfl, (by omega), (hx_259.trans (by rw [dl_30 (by omega)]; rfl)), (by first | decide | assumption)⟩
  · have n_250 : (c) = (31) := (nI_eq (a := c) (b := 31) (by omega) (by omega)).mp c_250
    refine lv_iconst (v := 1) hx hb d_Dr_draw_253 (by decide) ?_
    refine lv_goto (tgt := 258) hx hb d_Dr_draw_254 (by decide) ?_
    refine lv_aload_n hx hb d_Dr_draw_258 rfl (lv_at hl 3 rfl) ?_
    have hC : Cut [(v, .inr (3, [.ref va, .ref vb, .int (nI n)])), (va, .inl (cI, 48, .inl fa)), (vb, .inl (cI, 48, .inl fb)), (u, .inr (4, [.ref ra, .int (nI m), .int x, .int y])), (ra, .inl (cI, oc, .inl fo))] [(v, .inr (3, [.ref va, .ref vb, .int (nI n)])), (va, .inl (cI, 48, .inl fa)), (vb, .inl (cI, 48, .inl fb)), (u, .inr (4, [.ref ra, .int (nI m), .int x, .int y])), (ra, .inl (cI, oc, .inl fo))] [] [0, 1, 2, 3, 4] [] := ⟨rfl, rfl, rfl, rfl, by decide⟩
    refine goI0 (trS (As := [.ref v, .int 1, .ref u]) (rest := []) ⟨hx, hb, hml, hown, hts⟩ gd_good (c_Dr_curvesInTurn l D cB cI cJ v va vb u ra oc n fa fb m x y fo 1 (by omega) (by omega) true rfl (by omega)) cal_Dr_curvesInTurn ml_Dr_44 ⟨Nat.le_of_ble_eq_true rfl, Nat.le_of_ble_eq_true rfl⟩ hZ hP hD hC rfl hl.1 rfl (Nat.le_of_ble_eq_true rfl) d_Dr_draw_259 ⟨Nat.le_of_ble_eq_true rfl, Nat.le_of_ble_eq_true rfl⟩) hZ hP hD hS hC (fun r_259 w1 H locs hq hP hD hS => ?_)
    obtain ⟨m_259, x_259, y_259, fo_259, rfl, hv0_259, hx_259, hz_259⟩ := hq
    have hP : va_P D classes [(v, .inr (3, [.ref va, .ref vb, .int (nI n)])), (va, .inl (cI, 48, .inl fa)), (vb, .inl (cI, 48, .inl fb)), (u, .inr (4, [.ref ra, .int (nI m_259), .int x_259, .int y_259])), (ra, .inl (cI, oc, .inl fo_259))] H := hP
    have hD : va_D A_ [(v, .inr (3, [.ref va, .ref vb, .int (nI n)])), (va, .inl (cI, 48, .inl fa)), (vb, .inl (cI, 48, .inl fb)), (u, .inr (4, [.ref ra, .int (nI m_259), .int x_259, .int y_259])), (ra, .inl (cI, oc, .inl fo_259))] := hD
    exact t_zret hx hb hr hlk (by first | decide | exact nar01 (by assumption)) d_Dr_draw_262 (hP.subm (ws' := [(v, .inr (3, [.ref va, .ref vb, .int (nI n)])), (va, .inl (cI, 48, .inl fa)), (vb, .inl (cI, 48, .inl fb)), (u, .inr (4, [.ref ra, .int (nI m_259), .int x_259, .int y_259])), (ra, .inl (cI, oc, .inl fo_259))]) [0, 1, 2, 3, 4] rfl) (hD.sub (ws' := [(v, .inr (3, [.ref va, .ref vb, .int (nI n)])), (va, .inl (cI, 48, .inl fa)), (vb, .inl (cI, 48, .inl fb)), (u, .inr (4, [.ref ra, .int (nI m_259), .int x_259, .int y_259])), (ra, .inl (cI, oc, .inl fo_259))]) [0, 1, 2, 3, 4] rfl rfl) hS ⟨_, rfl, rfl, rfl, _, _, _, _, rfl, (by omega), (hx_259.trans (by rw [dl_31 n_250]; rfl)), (by first | decide | assumption)⟩
set_option maxHeartbeats 1000000 in
set_option maxRecDepth 100000 in
theorem c_Re_valuesTaken (l : Launch) (D : va_G) (cB cI cJ : ClassId) (c : Nat) (hc : c ≤ 511) : Ro l D classes (TY cB cI cJ) gd_tbl nx_tbl y_Re_valuesTaken b_Re_valuesTaken 1 (some .int) ({ frames := 0, cells := 0, slots := 0, locals := 0 }) [.int (nI c)] [] (fun v => v = .int (nI (takN c))) := by
  refine Ro.intro (by decide +kernel) nx_ok (Nat.le_of_ble_eq_true rfl) ?_
  intro p_ e_ s_ m_ args_ below_ meth_ c_ A_ ls hx hb hml hown hts hr hlk hnm hZ hP hD hl
  have hl : lv_has ls 1 [(0, .int (nI c))] := hl
  refine lv_iload_n hx hb d_Re_valuesTaken_0 rfl (lv_at hl 0 rfl) ?_
  by_cases h_1_259 : c = 259
  · subst h_1_259
    refine lv_tableIn (tgt := 130) hx hb d_Re_valuesTaken_1 (by decide) (by decide) (by rfl) (by decide) ?_
    refine lv_iconst (v := 2) hx hb d_Re_valuesTaken_130 (by decide) ?_
    exact r_iret hx hb hr hlk d_Re_valuesTaken_131 rfl
  by_cases h_1_260 : c = 260
  · subst h_1_260
    refine lv_tableIn (tgt := 130) hx hb d_Re_valuesTaken_1 (by decide) (by decide) (by rfl) (by decide) ?_
    refine lv_iconst (v := 2) hx hb d_Re_valuesTaken_130 (by decide) ?_
    exact r_iret hx hb hr hlk d_Re_valuesTaken_131 rfl
  by_cases h_1_261 : c = 261
  · subst h_1_261
    refine lv_tableIn (tgt := 128) hx hb d_Re_valuesTaken_1 (by decide) (by decide) (by rfl) (by decide) ?_
    refine lv_iconst (v := 1) hx hb d_Re_valuesTaken_128 (by decide) ?_
    exact r_iret hx hb hr hlk d_Re_valuesTaken_129 rfl
  by_cases h_1_262 : c = 262
  · subst h_1_262
    refine lv_tableIn (tgt := 134) hx hb d_Re_valuesTaken_1 (by decide) (by decide) (by rfl) (by decide) ?_
    refine lv_iconst (v := 0) hx hb d_Re_valuesTaken_134 (by decide) ?_
    exact r_iret hx hb hr hlk d_Re_valuesTaken_135 rfl
  by_cases h_1_263 : c = 263
  · subst h_1_263
    refine lv_tableIn (tgt := 134) hx hb d_Re_valuesTaken_1 (by decide) (by decide) (by rfl) (by decide) ?_
    refine lv_iconst (v := 0) hx hb d_Re_valuesTaken_134 (by decide) ?_
    exact r_iret hx hb hr hlk d_Re_valuesTaken_135 rfl
  by_cases h_1_264 : c = 264
  · subst h_1_264
    refine lv_tableIn (tgt := 134) hx hb d_Re_valuesTaken_1 (by decide) (by decide) (by rfl) (by decide) ?_
    refine lv_iconst (v := 0) hx hb d_Re_valuesTaken_134 (by decide) ?_
    exact r_iret hx hb hr hlk d_Re_valuesTaken_135 rfl
  by_cases h_1_265 : c = 265
  · subst h_1_265
    refine lv_tableIn (tgt := 128) hx hb d_Re_valuesTaken_1 (by decide) (by decide) (by rfl) (by decide) ?_
    refine lv_iconst (v := 1) hx hb d_Re_valuesTaken_128 (by decide) ?_
    exact r_iret hx hb hr hlk d_Re_valuesTaken_129 rfl
  by_cases h_1_266 : c = 266
  · subst h_1_266
    refine lv_tableIn (tgt := 130) hx hb d_Re_valuesTaken_1 (by decide) (by decide) (by rfl) (by decide) ?_
    refine lv_iconst (v := 2) hx hb d_Re_valuesTaken_130 (by decide) ?_
    exact r_iret hx hb hr hlk d_Re_valuesTaken_131 rfl
  by_cases h_1_267 : c = 267
  · subst h_1_267
    refine lv_tableIn (tgt := 130) hx hb d_Re_valuesTaken_1 (by decide) (by decide) (by rfl) (by decide) ?_
    refine lv_iconst (v := 2) hx hb d_Re_valuesTaken_130 (by decide) ?_
    exact r_iret hx hb hr hlk d_Re_valuesTaken_131 rfl
  by_cases h_1_268 : c = 268
  · subst h_1_268
    refine lv_tableIn (tgt := 130) hx hb d_Re_valuesTaken_1 (by decide) (by decide) (by rfl) (by decide) ?_
    refine lv_iconst (v := 2) hx hb d_Re_valuesTaken_130 (by decide) ?_
    exact r_iret hx hb hr hlk d_Re_valuesTaken_131 rfl
  by_cases h_1_269 : c = 269
  · subst h_1_269
    refine lv_tableIn (tgt := 134) hx hb d_Re_valuesTaken_1 (by decide) (by decide) (by rfl) (by decide) ?_
    refine lv_iconst (v := 0) hx hb d_Re_valuesTaken_134 (by decide) ?_
    exact r_iret hx hb hr hlk d_Re_valuesTaken_135 rfl
  by_cases h_1_270 : c = 270
  · subst h_1_270
    refine lv_tableIn (tgt := 128) hx hb d_Re_valuesTaken_1 (by decide) (by decide) (by rfl) (by decide) ?_
    refine lv_iconst (v := 1) hx hb d_Re_valuesTaken_128 (by decide) ?_
    exact r_iret hx hb hr hlk d_Re_valuesTaken_129 rfl
  by_cases h_1_271 : c = 271
  · subst h_1_271
    refine lv_tableIn (tgt := 130) hx hb d_Re_valuesTaken_1 (by decide) (by decide) (by rfl) (by decide) ?_
    refine lv_iconst (v := 2) hx hb d_Re_valuesTaken_130 (by decide) ?_
    exact r_iret hx hb hr hlk d_Re_valuesTaken_131 rfl
  by_cases h_1_272 : c = 272
  · subst h_1_272
    refine lv_tableIn (tgt := 134) hx hb d_Re_valuesTaken_1 (by decide) (by decide) (by rfl) (by decide) ?_
    refine lv_iconst (v := 0) hx hb d_Re_valuesTaken_134 (by decide) ?_
    exact r_iret hx hb hr hlk d_Re_valuesTaken_135 rfl
  by_cases h_1_273 : c = 273
  · subst h_1_273
    refine lv_tableIn (tgt := 134) hx hb d_Re_valuesTaken_1 (by decide) (by decide) (by rfl) (by decide) ?_
    refine lv_iconst (v := 0) hx hb d_Re_valuesTaken_134 (by decide) ?_
    exact r_iret hx hb hr hlk d_Re_valuesTaken_135 rfl
  by_cases h_1_274 : c = 274
  · subst h_1_274
    refine lv_tableIn (tgt := 128) hx hb d_Re_valuesTaken_1 (by decide) (by decide) (by rfl) (by decide) ?_
    refine lv_iconst (v := 1) hx hb d_Re_valuesTaken_128 (by decide) ?_
    exact r_iret hx hb hr hlk d_Re_valuesTaken_129 rfl
  by_cases h_1_275 : c = 275
  · subst h_1_275
    refine lv_tableIn (tgt := 134) hx hb d_Re_valuesTaken_1 (by decide) (by decide) (by rfl) (by decide) ?_
    refine lv_iconst (v := 0) hx hb d_Re_valuesTaken_134 (by decide) ?_
    exact r_iret hx hb hr hlk d_Re_valuesTaken_135 rfl
  by_cases h_1_276 : c = 276
  · subst h_1_276
    refine lv_tableIn (tgt := 130) hx hb d_Re_valuesTaken_1 (by decide) (by decide) (by rfl) (by decide) ?_
    refine lv_iconst (v := 2) hx hb d_Re_valuesTaken_130 (by decide) ?_
    exact r_iret hx hb hr hlk d_Re_valuesTaken_131 rfl
  by_cases h_1_277 : c = 277
  · subst h_1_277
    refine lv_tableIn (tgt := 128) hx hb d_Re_valuesTaken_1 (by decide) (by decide) (by rfl) (by decide) ?_
    refine lv_iconst (v := 1) hx hb d_Re_valuesTaken_128 (by decide) ?_
    exact r_iret hx hb hr hlk d_Re_valuesTaken_129 rfl
  by_cases h_1_278 : c = 278
  · subst h_1_278
    refine lv_tableIn (tgt := 132) hx hb d_Re_valuesTaken_1 (by decide) (by decide) (by rfl) (by decide) ?_
    refine lv_iconst (v := 4) hx hb d_Re_valuesTaken_132 (by decide) ?_
    exact r_iret hx hb hr hlk d_Re_valuesTaken_133 rfl
  by_cases h_1_279 : c = 279
  · subst h_1_279
    refine lv_tableIn (tgt := 134) hx hb d_Re_valuesTaken_1 (by decide) (by decide) (by rfl) (by decide) ?_
    refine lv_iconst (v := 0) hx hb d_Re_valuesTaken_134 (by decide) ?_
    exact r_iret hx hb hr hlk d_Re_valuesTaken_135 rfl
  by_cases h_1_280 : c = 280
  · subst h_1_280
    refine lv_tableIn (tgt := 130) hx hb d_Re_valuesTaken_1 (by decide) (by decide) (by rfl) (by decide) ?_
    refine lv_iconst (v := 2) hx hb d_Re_valuesTaken_130 (by decide) ?_
    exact r_iret hx hb hr hlk d_Re_valuesTaken_131 rfl
  by_cases h_1_281 : c = 281
  · subst h_1_281
    refine lv_tableIn (tgt := 134) hx hb d_Re_valuesTaken_1 (by decide) (by decide) (by rfl) (by decide) ?_
    refine lv_iconst (v := 0) hx hb d_Re_valuesTaken_134 (by decide) ?_
    exact r_iret hx hb hr hlk d_Re_valuesTaken_135 rfl
  by_cases h_1_282 : c = 282
  · subst h_1_282
    refine lv_tableIn (tgt := 128) hx hb d_Re_valuesTaken_1 (by decide) (by decide) (by rfl) (by decide) ?_
    refine lv_iconst (v := 1) hx hb d_Re_valuesTaken_128 (by decide) ?_
    exact r_iret hx hb hr hlk d_Re_valuesTaken_129 rfl
  by_cases h_1_283 : c = 283
  · subst h_1_283
    refine lv_tableIn (tgt := 128) hx hb d_Re_valuesTaken_1 (by decide) (by decide) (by rfl) (by decide) ?_
    refine lv_iconst (v := 1) hx hb d_Re_valuesTaken_128 (by decide) ?_
    exact r_iret hx hb hr hlk d_Re_valuesTaken_129 rfl
  by_cases h_1_284 : c = 284
  · subst h_1_284
    refine lv_tableIn (tgt := 130) hx hb d_Re_valuesTaken_1 (by decide) (by decide) (by rfl) (by decide) ?_
    refine lv_iconst (v := 2) hx hb d_Re_valuesTaken_130 (by decide) ?_
    exact r_iret hx hb hr hlk d_Re_valuesTaken_131 rfl
  by_cases h_1_285 : c = 285
  · subst h_1_285
    refine lv_tableIn (tgt := 128) hx hb d_Re_valuesTaken_1 (by decide) (by decide) (by rfl) (by decide) ?_
    refine lv_iconst (v := 1) hx hb d_Re_valuesTaken_128 (by decide) ?_
    exact r_iret hx hb hr hlk d_Re_valuesTaken_129 rfl
  by_cases h_1_286 : c = 286
  · subst h_1_286
    refine lv_tableIn (tgt := 130) hx hb d_Re_valuesTaken_1 (by decide) (by decide) (by rfl) (by decide) ?_
    refine lv_iconst (v := 2) hx hb d_Re_valuesTaken_130 (by decide) ?_
    exact r_iret hx hb hr hlk d_Re_valuesTaken_131 rfl
  have gh_1_259 : ¬ nI c = 259 := fun z => h_1_259 ((nI_eq (a := c) (b := 259) (by omega) (by omega)).mp z)
  have gh_1_260 : ¬ nI c = 260 := fun z => h_1_260 ((nI_eq (a := c) (b := 260) (by omega) (by omega)).mp z)
  have gh_1_261 : ¬ nI c = 261 := fun z => h_1_261 ((nI_eq (a := c) (b := 261) (by omega) (by omega)).mp z)
  have gh_1_262 : ¬ nI c = 262 := fun z => h_1_262 ((nI_eq (a := c) (b := 262) (by omega) (by omega)).mp z)
  have gh_1_263 : ¬ nI c = 263 := fun z => h_1_263 ((nI_eq (a := c) (b := 263) (by omega) (by omega)).mp z)
  have gh_1_264 : ¬ nI c = 264 := fun z => h_1_264 ((nI_eq (a := c) (b := 264) (by omega) (by omega)).mp z)
  have gh_1_265 : ¬ nI c = 265 := fun z => h_1_265 ((nI_eq (a := c) (b := 265) (by omega) (by omega)).mp z)
  have gh_1_266 : ¬ nI c = 266 := fun z => h_1_266 ((nI_eq (a := c) (b := 266) (by omega) (by omega)).mp z)
  have gh_1_267 : ¬ nI c = 267 := fun z => h_1_267 ((nI_eq (a := c) (b := 267) (by omega) (by omega)).mp z)
  have gh_1_268 : ¬ nI c = 268 := fun z => h_1_268 ((nI_eq (a := c) (b := 268) (by omega) (by omega)).mp z)
  have gh_1_269 : ¬ nI c = 269 := fun z => h_1_269 ((nI_eq (a := c) (b := 269) (by omega) (by omega)).mp z)
  have gh_1_270 : ¬ nI c = 270 := fun z => h_1_270 ((nI_eq (a := c) (b := 270) (by omega) (by omega)).mp z)
  have gh_1_271 : ¬ nI c = 271 := fun z => h_1_271 ((nI_eq (a := c) (b := 271) (by omega) (by omega)).mp z)
  have gh_1_272 : ¬ nI c = 272 := fun z => h_1_272 ((nI_eq (a := c) (b := 272) (by omega) (by omega)).mp z)
  have gh_1_273 : ¬ nI c = 273 := fun z => h_1_273 ((nI_eq (a := c) (b := 273) (by omega) (by omega)).mp z)
  have gh_1_274 : ¬ nI c = 274 := fun z => h_1_274 ((nI_eq (a := c) (b := 274) (by omega) (by omega)).mp z)
  have gh_1_275 : ¬ nI c = 275 := fun z => h_1_275 ((nI_eq (a := c) (b := 275) (by omega) (by omega)).mp z)
  have gh_1_276 : ¬ nI c = 276 := fun z => h_1_276 ((nI_eq (a := c) (b := 276) (by omega) (by omega)).mp z)
  have gh_1_277 : ¬ nI c = 277 := fun z => h_1_277 ((nI_eq (a := c) (b := 277) (by omega) (by omega)).mp z)
  have gh_1_278 : ¬ nI c = 278 := fun z => h_1_278 ((nI_eq (a := c) (b := 278) (by omega) (by omega)).mp z)
  have gh_1_279 : ¬ nI c = 279 := fun z => h_1_279 ((nI_eq (a := c) (b := 279) (by omega) (by omega)).mp z)
  have gh_1_280 : ¬ nI c = 280 := fun z => h_1_280 ((nI_eq (a := c) (b := 280) (by omega) (by omega)).mp z)
  have gh_1_281 : ¬ nI c = 281 := fun z => h_1_281 ((nI_eq (a := c) (b := 281) (by omega) (by omega)).mp z)
  have gh_1_282 : ¬ nI c = 282 := fun z => h_1_282 ((nI_eq (a := c) (b := 282) (by omega) (by omega)).mp z)
  have gh_1_283 : ¬ nI c = 283 := fun z => h_1_283 ((nI_eq (a := c) (b := 283) (by omega) (by omega)).mp z)
  have gh_1_284 : ¬ nI c = 284 := fun z => h_1_284 ((nI_eq (a := c) (b := 284) (by omega) (by omega)).mp z)
  have gh_1_285 : ¬ nI c = 285 := fun z => h_1_285 ((nI_eq (a := c) (b := 285) (by omega) (by omega)).mp z)
  have gh_1_286 : ¬ nI c = 286 := fun z => h_1_286 ((nI_eq (a := c) (b := 286) (by omega) (by omega)).mp z)
  have hsw_1 : (nI c).toInt < 259 ∨ 286 < (nI c).toInt := by
    have z0 := lv_neT gh_1_259 (a := 259) (by decide); have z1 := lv_neT gh_1_260 (a := 260) (by decide); have z2 := lv_neT gh_1_261 (a := 261) (by decide); have z3 := lv_neT gh_1_262 (a := 262) (by decide); have z4 := lv_neT gh_1_263 (a := 263) (by decide); have z5 := lv_neT gh_1_264 (a := 264) (by decide); have z6 := lv_neT gh_1_265 (a := 265) (by decide); have z7 := lv_neT gh_1_266 (a := 266) (by decide); have z8 := lv_neT gh_1_267 (a := 267) (by decide); have z9 := lv_neT gh_1_268 (a := 268) (by decide); have z10 := lv_neT gh_1_269 (a := 269) (by decide); have z11 := lv_neT gh_1_270 (a := 270) (by decide); have z12 := lv_neT gh_1_271 (a := 271) (by decide); have z13 := lv_neT gh_1_272 (a := 272) (by decide); have z14 := lv_neT gh_1_273 (a := 273) (by decide); have z15 := lv_neT gh_1_274 (a := 274) (by decide); have z16 := lv_neT gh_1_275 (a := 275) (by decide); have z17 := lv_neT gh_1_276 (a := 276) (by decide); have z18 := lv_neT gh_1_277 (a := 277) (by decide); have z19 := lv_neT gh_1_278 (a := 278) (by decide); have z20 := lv_neT gh_1_279 (a := 279) (by decide); have z21 := lv_neT gh_1_280 (a := 280) (by decide); have z22 := lv_neT gh_1_281 (a := 281) (by decide); have z23 := lv_neT gh_1_282 (a := 282) (by decide); have z24 := lv_neT gh_1_283 (a := 283) (by decide); have z25 := lv_neT gh_1_284 (a := 284) (by decide); have z26 := lv_neT gh_1_285 (a := 285) (by decide); have z27 := lv_neT gh_1_286 (a := 286) (by decide); omega
  refine lv_tableOut (tgt := 134) hx hb d_Re_valuesTaken_1 hsw_1 (by decide) ?_
  clear gh_1_259
  clear gh_1_260
  clear gh_1_261
  clear gh_1_262
  clear gh_1_263
  clear gh_1_264
  clear gh_1_265
  clear gh_1_266
  clear gh_1_267
  clear gh_1_268
  clear gh_1_269
  clear gh_1_270
  clear gh_1_271
  clear gh_1_272
  clear gh_1_273
  clear gh_1_274
  clear gh_1_275
  clear gh_1_276
  clear gh_1_277
  clear gh_1_278
  clear gh_1_279
  clear gh_1_280
  clear gh_1_281
  clear gh_1_282
  clear gh_1_283
  clear gh_1_284
  clear gh_1_285
  clear gh_1_286
  clear hsw_1
  refine lv_iconst (v := 0) hx hb d_Re_valuesTaken_134 (by decide) ?_
  exact r_iret hx hb hr hlk d_Re_valuesTaken_135 (by rw [show takN c = 0 by unfold takN; rw [if_neg (by omega), if_neg (by omega), if_neg (by omega)]]; rfl)
set_option maxHeartbeats 1000000 in
set_option maxRecDepth 100000 in
theorem c_Re_truth (l : Launch) (D : va_G) (cB cI cJ : ClassId) (z : Int32) : Ro l D classes (TY cB cI cJ) gd_tbl nx_tbl y_Re_truth b_Re_truth 1 (some .int) ({ frames := 0, cells := 0, slots := 0, locals := 0 }) [.int z] [] (fun v => v = .int (if z = 0 then 0 else 65536)) := by
  refine Ro.intro (by decide +kernel) nx_ok (Nat.le_of_ble_eq_true rfl) ?_
  intro p_ e_ s_ m_ args_ below_ meth_ c_ A_ ls hx hb hml hown hts hr hlk hnm hZ hP hD hl
  have hl : lv_has ls 1 [(0, .int z)] := hl
  refine lv_iload_n hx hb d_Re_truth_0 rfl (lv_at hl 0 rfl) ?_
  refine lv_if_eq (tgt := 9) hx hb d_Re_truth_1 (by decide) (fun c_1 => ?_) (fun c_1 => ?_)
  · refine lv_iconst (v := 0) hx hb d_Re_truth_9 (by decide) ?_
    exact r_iret hx hb hr hlk d_Re_truth_10 (by rw [if_pos c_1])
  · refine lv_ldc (v := 65536) hx hb hown (hts _ kc_Re_86) d_Re_truth_4 ?_
    refine lv_goto (tgt := 10) hx hb d_Re_truth_6 (by decide) ?_
    exact r_iret hx hb hr hlk d_Re_truth_10 (by rw [if_neg c_1])
set_option maxHeartbeats 1000000 in
set_option maxRecDepth 100000 in
theorem c_Math_floorMod (l : Launch) (D : va_G) (cB cI cJ : ClassId) (x : Int32) (k : Nat) (hn0 : 0 < k) (hn1 : k < 2 ^ 31) : Ro l D classes (TY cB cI cJ) gd_tbl nx_tbl y_Math_floorMod b_Math_floorMod 3 (some .int) ({ frames := 0, cells := 0, slots := 0, locals := 0 }) [.int x, .int (nI k)] [] (fun v => v = .int (nI (fmN x k))) := by
  refine Ro.intro (by decide +kernel) nx_ok (Nat.le_of_ble_eq_true rfl) ?_
  intro p_ e_ s_ m_ args_ below_ meth_ c_ A_ ls hx hb hml hown hts hr hlk hnm hZ hP hD hl
  have hl : lv_has ls 3 [(0, .int x), (1, .int (nI k))] := hl
  refine lv_iload_n hx hb d_Math_floorMod_0 rfl (lv_at hl 0 rfl) ?_
  refine lv_iload_n hx hb d_Math_floorMod_1 rfl (lv_at hl 1 rfl) ?_
  refine lv_irem hx hb d_Math_floorMod_2 (nI_ne0 hn0 hn1) ?_
  refine lv_istore_n (lv' := [(2, .int (x - x / (nI k) * (nI k))), (0, .int x), (1, .int (nI k))]) hx hb d_Math_floorMod_3 rfl hl (by decide) rfl (fun ls hl => ?_)
  refine lv_iload_n hx hb d_Math_floorMod_4 rfl (lv_at hl 1 rfl) ?_
  refine lv_iload_n hx hb d_Math_floorMod_5 rfl (lv_at hl 2 rfl) ?_
  refine lv_ixor hx hb d_Math_floorMod_6 ?_
  refine lv_if_ge (tgt := 18) hx hb d_Math_floorMod_7 (by decide) (fun c_7 => ?_) (fun c_7 => ?_)
  · refine lv_iload_n hx hb d_Math_floorMod_18 rfl (lv_at hl 0 rfl) ?_
    exact r_iret hx hb hr hlk d_Math_floorMod_19 (congrArg Value.int (fm_same hn0 hn1 c_7))
  · refine lv_iload_n hx hb d_Math_floorMod_10 rfl (lv_at hl 0 rfl) ?_
    refine lv_if_eq (tgt := 18) hx hb d_Math_floorMod_11 (by decide) (fun c_11 => ?_) (fun c_11 => ?_)
    · refine lv_iload_n hx hb d_Math_floorMod_18 rfl (lv_at hl 0 rfl) ?_
      exact r_iret hx hb hr hlk d_Math_floorMod_19 (congrArg Value.int (fm_zero hn0 hn1 c_11))
    · refine lv_iload_n hx hb d_Math_floorMod_14 rfl (lv_at hl 0 rfl) ?_
      refine lv_iload_n hx hb d_Math_floorMod_15 rfl (lv_at hl 2 rfl) ?_
      refine lv_iadd hx hb d_Math_floorMod_16 ?_
      exact r_iret hx hb hr hlk d_Math_floorMod_17 (congrArg Value.int (fm_add hn0 hn1 c_7 c_11))
set_option maxHeartbeats 1000000 in
set_option maxRecDepth 100000 in
theorem c_Math_floorDiv (l : Launch) (D : va_G) (cB cI cJ : ClassId) (x y : Int64) (hy : y ≠ 0) : Ro l D classes (TY cB cI cJ) gd_tbl nx_tbl y_Math_floorDiv b_Math_floorDiv 6 (some .long) ({ frames := 0, cells := 0, slots := 0, locals := 0 }) [.long x, .long y] [] (fun v => v = .long (fdJ x y)) := by
  refine Ro.intro (by decide +kernel) nx_ok (Nat.le_of_ble_eq_true rfl) ?_
  intro p_ e_ s_ m_ args_ below_ meth_ c_ A_ ls hx hb hml hown hts hr hlk hnm hZ hP hD hl
  have hl : lv_has ls 6 [(0, .long x), (2, .long y)] := hl
  refine lv_lload_n hx hb d_Math_floorDiv_0 rfl (lv_at hl 0 rfl) ?_
  refine lv_lload_n hx hb d_Math_floorDiv_1 rfl (lv_at hl 1 rfl) ?_
  refine lv_ldiv hx hb d_Math_floorDiv_2 hy ?_
  refine lv_lstore (lv' := [(4, .long (x / y)), (0, .long x), (2, .long y)]) hx hb d_Math_floorDiv_3 hl (by decide) rfl (fun ls hl => ?_)
  refine lv_lload_n hx hb d_Math_floorDiv_5 rfl (lv_at hl 1 rfl) ?_
  refine lv_lload_n hx hb d_Math_floorDiv_6 rfl (lv_at hl 2 rfl) ?_
  refine lv_lxor hx hb d_Math_floorDiv_7 ?_
  refine lv_lconst (v := 0) hx hb d_Math_floorDiv_8 (by decide) ?_
  refine W.lcmp hx hb d_Math_floorDiv_9 ?_
  refine lv_if_ge (tgt := 27) hx hb d_Math_floorDiv_10 (by decide) (fun c_10 => ?_) (fun c_10 => ?_)
  · refine lv_lload hx hb d_Math_floorDiv_27 (lv_at hl 0 rfl) ?_
    exact r_lret hx hb hr hlk d_Math_floorDiv_29 (by rw [fdJ, if_neg (fun z => absurd (lcmp_ge.mpr z) (Int32.not_lt.mpr c_10))])
  · refine lv_lload hx hb d_Math_floorDiv_13 (lv_at hl 0 rfl) ?_
    refine lv_lload_n hx hb d_Math_floorDiv_15 rfl (lv_at hl 2 rfl) ?_
    refine lv_lmul hx hb d_Math_floorDiv_16 ?_
    refine lv_lload_n hx hb d_Math_floorDiv_17 rfl (lv_at hl 1 rfl) ?_
    refine W.lcmp hx hb d_Math_floorDiv_18 ?_
    refine lv_if_eq (tgt := 27) hx hb d_Math_floorDiv_19 (by decide) (fun c_19 => ?_) (fun c_19 => ?_)
    · refine lv_lload hx hb d_Math_floorDiv_27 (lv_at hl 0 rfl) ?_
      exact r_lret hx hb hr hlk d_Math_floorDiv_29 (by rw [fdJ, if_pos (lcmp_ge.mp (Int32.not_le.mp c_10)), if_pos (lcmp_eq.mp c_19)])
    · refine lv_lload hx hb d_Math_floorDiv_22 (lv_at hl 0 rfl) ?_
      refine lv_lconst (v := 1) hx hb d_Math_floorDiv_24 (by decide) ?_
      refine lv_lsub hx hb d_Math_floorDiv_25 ?_
      exact r_lret hx hb hr hlk d_Math_floorDiv_26 (by rw [fdJ, if_pos (lcmp_ge.mp (Int32.not_le.mp c_10)), if_neg (fun z => c_19 (lcmp_eq.mpr z))])
set_option maxHeartbeats 1000000 in
set_option maxRecDepth 100000 in
theorem c_Re_root (l : Launch) (D : va_G) (cB cI cJ : ClassId) (x : Nat) (hx47 : x < 2 ^ 47) : Ro l D classes (TY cB cI cJ) gd_tbl nx_tbl y_Re_root b_Re_root 8 (some .int) ({ frames := 0, cells := 0, slots := 0, locals := 0 }) [.long (lN x)] [] (fun v => v = .int (nI (rootN x))) := by
  refine Ro.intro (by decide +kernel) nx_ok (Nat.le_of_ble_eq_true rfl) ?_
  intro p_ e_ s_ m_ args_ below_ meth_ c_ A_ ls hx hb hml hown hts hr hlk hnm hZ hP hD hl
  have hl : lv_has ls 8 [(0, .long (lN x))] := hl
  refine lv_lconst (v := 0) hx hb d_Re_root_0 (by decide) ?_
  refine lv_lstore_n (lv' := [(2, .long 0), (0, .long (lN x))]) hx hb d_Re_root_1 rfl hl (by decide) rfl (fun ls hl => ?_)
  refine lv_ldc2 (v := 8388608) hx hb hown (hts _ kl_Re_94) d_Re_root_2 ?_
  refine lv_lstore (lv' := [(4, .long 8388608), (2, .long 0), (0, .long (lN x))]) hx hb d_Re_root_5 hl (by decide) rfl (fun ls hl => ?_)
  have lp_7 : ∀ (fu : Nat) (j : Nat) (g : Nat) (ls : Array Slot), (j ≤ 24 ∧ g + 2 ^ j ≤ 2 ^ 24 ∧ rootB x j g = rootN x) → (j) < fu → lv_has ls 8 [(0, .long (lN x)), (2, .long (lN g)), (4, .long (bitL j))] → W p_ l e_ ({ frames := 0, cells := 0, slots := 0, locals := 0 }) s_ m_ args_ below_ meth_ c_ s_.heap [] 0 0 (MQR below_ (fun v => v = .int (nI (rootN x))) s_) (F0 m_ 7 ls []) := by
    intro fu
    induction fu with
    | zero => intro j g ls hinv hfu; exact absurd hfu (Nat.not_lt_zero _)
    | succ fu ih_7 =>
      intro j g ls hinv hfu hl
      obtain ⟨hj24, hg2, hg3⟩ := hinv
      refine lv_lload hx hb d_Re_root_7 (lv_at hl 2 rfl) ?_
      refine lv_lconst (v := 0) hx hb d_Re_root_9 (by decide) ?_
      refine W.lcmp hx hb d_Re_root_10 ?_
      refine lv_if_le (tgt := 42) hx hb d_Re_root_11 (by decide) (fun c_11 => ?_) (fun c_11 => ?_)
      · refine lv_lload_n hx hb d_Re_root_42 rfl (lv_at hl 1 rfl) ?_
        refine lv_l2i hx hb d_Re_root_43 rfl ?_
        exact r_iret hx hb hr hlk d_Re_root_44 (by rw [lN_i, ← hg3, bit_end c_11 hj24]; rfl)
      · obtain ⟨i, rfl⟩ := bit_pos c_11
        have hp2 : 2 ^ (i + 1) = 2 * 2 ^ i := by rw [Nat.pow_succ]; omega
        have hpi : 2 ^ i ≤ 2 ^ 23 := Nat.pow_le_pow_right (by decide) (by omega)
        refine lv_lload_n hx hb d_Re_root_14 rfl (lv_at hl 1 rfl) ?_
        refine lv_lload hx hb d_Re_root_15 (lv_at hl 2 rfl) ?_
        refine lv_ladd hx hb d_Re_root_17 ?_
        refine lv_tvl (y := lN (g + 2 ^ i)) (bit_add g i) ?_
        refine lv_lstore (lv' := [(6, .long (lN (g + 2 ^ i))), (0, .long (lN x)), (2, .long (lN g)), (4, .long (bitL (i + 1)))]) hx hb d_Re_root_18 hl (by decide) rfl (fun ls hl => ?_)
        refine lv_lload hx hb d_Re_root_20 (lv_at hl 0 rfl) ?_
        refine lv_lload hx hb d_Re_root_22 (lv_at hl 0 rfl) ?_
        refine lv_lmul hx hb d_Re_root_24 ?_
        refine lv_tvl (y := lN ((g + 2 ^ i) * (g + 2 ^ i))) (lN_mul _ _) ?_
        refine lv_lload_n hx hb d_Re_root_25 rfl (lv_at hl 1 rfl) ?_
        refine W.lcmp hx hb d_Re_root_26 ?_
        refine lv_if_gt (tgt := 33) hx hb d_Re_root_27 (by decide) (fun c_27 => ?_) (fun c_27 => ?_)
        · have c_27 : ¬ (g + 2 ^ i) * (g + 2 ^ i) ≤ x := rt_gt hg2 hp2 hpi hx47 c_27
          refine lv_lload hx hb d_Re_root_33 (lv_at hl 3 rfl) ?_
          refine lv_iconst (v := 1) hx hb d_Re_root_35 (by decide) ?_
          refine lv_lshr hx hb d_Re_root_36 rfl ?_
          refine lv_tvl (y := bitL i) (bit_shr i (by omega)) ?_
          refine lv_lstore (lv' := [(4, .long (bitL i)), (6, .long (lN (g + 2 ^ i))), (0, .long (lN x)), (2, .long (lN g))]) hx hb d_Re_root_37 hl (by decide) rfl (fun ls hl => ?_)
          refine lv_goto (tgt := 7) hx hb d_Re_root_39 (by decide) ?_
          exact ih_7  i g _ ⟨by omega, by omega, rb_no hg3 c_27⟩ (by omega) (lv_sub hl [2, 3, 0] rfl)
        · have c_27 : (g + 2 ^ i) * (g + 2 ^ i) ≤ x := rt_le hg2 hp2 hpi hx47 c_27
          refine lv_lload hx hb d_Re_root_30 (lv_at hl 0 rfl) ?_
          refine lv_lstore_n (lv' := [(2, .long (lN (g + 2 ^ i))), (6, .long (lN (g + 2 ^ i))), (0, .long (lN x)), (4, .long (bitL (i + 1)))]) hx hb d_Re_root_32 rfl hl (by decide) rfl (fun ls hl => ?_)
          refine lv_lload hx hb d_Re_root_33 (lv_at hl 3 rfl) ?_
          refine lv_iconst (v := 1) hx hb d_Re_root_35 (by decide) ?_
          refine lv_lshr hx hb d_Re_root_36 rfl ?_
          refine lv_tvl (y := bitL i) (bit_shr i (by omega)) ?_
          refine lv_lstore (lv' := [(4, .long (bitL i)), (2, .long (lN (g + 2 ^ i))), (6, .long (lN (g + 2 ^ i))), (0, .long (lN x))]) hx hb d_Re_root_37 hl (by decide) rfl (fun ls hl => ?_)
          refine lv_goto (tgt := 7) hx hb d_Re_root_39 (by decide) ?_
          exact ih_7  i (g + 2 ^ i) _ ⟨by omega, by omega, rb_ok hg3 c_27⟩ (by omega) (lv_sub hl [3, 1, 0] rfl)
  exact lp_7 _ 24 0 _ ⟨by omega, by decide, rfl⟩ (Nat.lt_succ_self _) (lv_sub hl [2, 1, 0] rfl)
set_option maxHeartbeats 1000000 in
set_option maxRecDepth 100000 in
theorem c_Re_copyBelow (l : Launch) (D : va_G) (cB cI cJ : ClassId) (v va vb : Nat) (n : Nat) (fa : Nat → Int32) (fb : Nat → Int32) (i : Nat) (hiVa : n ≤ 48) (hi : i < 2 ^ 31) : Tr l D classes (TY cB cI cJ) gd_tbl nx_tbl y_Re_copyBelow b_Re_copyBelow 2 (some .int) ({ frames := 1, cells := 0, slots := 0, locals := 21 }) [.int (nI i), .ref v] [(v, .inr (3, [.ref va, .ref vb, .int (nI n)])), (va, .inl (cI, 48, .inl fa)), (vb, .inl (cI, 48, .inl fb))] (pI0 (fun r w => ∃ (n' : Nat) (fa' : Nat → Int32) (fb' : Nat → Int32), w = [(v, .inr (3, [.ref va, .ref vb, .int (nI n')])), (va, .inl (cI, 48, .inl fa')), (vb, .inl (cI, 48, .inl fb'))] ∧ (n' ≤ 48) ∧ (qR r (vS n' fa') = gP (belowP (nI i) (vS n fa))))) := by
  refine Tr.intro (by decide +kernel) nx_ok (Nat.le_of_ble_eq_true rfl) ?_
  intro p_ e_ s_ m_ args_ below_ meth_ c_ A_ ls hx hb hml hown hts hr hlk hnm hZ hP hD hS hl
  have hl : lv_has ls 2 [(0, .int (nI i)), (1, .ref v)] := hl
  refine lv_iload_n hx hb d_Re_copyBelow_0 rfl (lv_at hl 0 rfl) ?_
  refine lv_aload_n hx hb d_Re_copyBelow_1 rfl (lv_at hl 1 rfl) ?_
  refine roV (As := []) (rest := [.int (nI i)]) ⟨hx, hb, hml, hown, hts⟩ gd_good (c_Va_size l D cB cI cJ v va vb n) cal_Va_size ml_Re_25 ⟨Nat.le_of_ble_eq_true rfl, Nat.le_of_ble_eq_true rfl⟩ hZ hP hD (isC := [0]) ⟨rfl, rfl⟩ 0 (ci := 3) rfl rfl rfl rfl hl.1 rfl (Nat.le_of_ble_eq_true rfl) d_Re_copyBelow_2 ⟨Nat.le_of_ble_eq_true rfl, Nat.le_of_ble_eq_true rfl⟩ (fun v hv => ?_)
  subst hv
  refine lv_icmp_lt (tgt := 13) hx hb d_Re_copyBelow_5 (by decide) (fun c_5 => ?_) (fun c_5 => ?_)
  · have n_5 : (i) < (n) := (nI_ltI (a := i) (b := n) (by omega) (by omega)).mp c_5
    refine lv_aload_n hx hb d_Re_copyBelow_13 rfl (lv_at hl 1 rfl) ?_
    refine lv_aload_n hx hb d_Re_copyBelow_14 rfl (lv_at hl 1 rfl) ?_
    refine lv_aload_n hx hb d_Re_copyBelow_15 rfl (lv_at hl 1 rfl) ?_
    refine roV (As := []) (rest := [.ref v, .ref v]) ⟨hx, hb, hml, hown, hts⟩ gd_good (c_Va_size l D cB cI cJ v va vb n) cal_Va_size ml_Re_25 ⟨Nat.le_of_ble_eq_true rfl, Nat.le_of_ble_eq_true rfl⟩ hZ hP hD (isC := [0]) ⟨rfl, rfl⟩ 0 (ci := 3) rfl rfl rfl rfl hl.1 rfl (Nat.le_of_ble_eq_true rfl) d_Re_copyBelow_16 ⟨Nat.le_of_ble_eq_true rfl, Nat.le_of_ble_eq_true rfl⟩ (fun v hv => ?_)
    subst hv
    refine lv_iconst (v := 1) hx hb d_Re_copyBelow_19 (by decide) ?_
    refine lv_isub hx hb d_Re_copyBelow_20 ?_
    refine lv_tv (y := nI (n - 1)) (pk_sub (a := n) (b := 1) (by omega)) ?_
    refine lv_iload_n hx hb d_Re_copyBelow_21 rfl (lv_at hl 0 rfl) ?_
    refine lv_isub hx hb d_Re_copyBelow_22 ?_
    refine lv_tv (y := nI ((n - 1) - i)) (pk_sub (a := n - 1) (b := i) (by omega)) ?_
    refine roV (As := [.int (nI ((n - 1) - i))]) (rest := [.ref v]) ⟨hx, hb, hml, hown, hts⟩ gd_good (c_Va_at l D cB cI cJ v va vb n fa (nI ((n - 1) - i)) (by omega)) cal_Va_at ml_Re_44 ⟨Nat.le_of_ble_eq_true rfl, Nat.le_of_ble_eq_true rfl⟩ hZ hP hD (isC := [0, 1]) ⟨rfl, rfl⟩ 0 (ci := 3) rfl rfl rfl rfl hl.1 rfl (Nat.le_of_ble_eq_true rfl) d_Re_copyBelow_23 ⟨Nat.le_of_ble_eq_true rfl, Nat.le_of_ble_eq_true rfl⟩ (fun v hv => ?_)
    have hv : v = .int (trunc n fa ((n - 1) - i)) := hv.trans (congrArg Value.int (atV_N (j := (n - 1) - i) (by omega) (by omega)))
    subst hv
    have hC : Cut [(v, .inr (3, [.ref va, .ref vb, .int (nI n)])), (va, .inl (cI, 48, .inl fa)), (vb, .inl (cI, 48, .inl fb))] [(v, .inr (3, [.ref va, .ref vb, .int (nI n)])), (va, .inl (cI, 48, .inl fa)), (vb, .inl (cI, 48, .inl fb))] [] [0, 1, 2] [] := ⟨rfl, rfl, rfl, rfl, by decide⟩
    refine goI0 (trV (As := [.int (trunc n fa ((n - 1) - i))]) (rest := []) ⟨hx, hb, hml, hown, hts⟩ gd_good (c_Va_push l D cB cI cJ v va vb n fa fb (trunc n fa ((n - 1) - i)) (by omega) ) cal_Va_push ml_Re_47 ⟨Nat.le_of_ble_eq_true rfl, Nat.le_of_ble_eq_true rfl⟩ hZ hP hD hC 0 (ci := 3) rfl rfl rfl rfl hl.1 rfl (Nat.le_of_ble_eq_true rfl) d_Re_copyBelow_26 ⟨Nat.le_of_ble_eq_true rfl, Nat.le_of_ble_eq_true rfl⟩) hZ hP hD hS hC (fun r_26 w1 H locs hq hP hD hS => ?_)
    obtain ⟨n_26, fa_26, fb_26, rfl, hv0_26, hx_26⟩ := hq
    have hP : va_P D classes [(v, .inr (3, [.ref va, .ref vb, .int (nI n_26)])), (va, .inl (cI, 48, .inl fa_26)), (vb, .inl (cI, 48, .inl fb_26))] H := hP
    have hD : va_D A_ [(v, .inr (3, [.ref va, .ref vb, .int (nI n_26)])), (va, .inl (cI, 48, .inl fa_26)), (vb, .inl (cI, 48, .inl fb_26))] := hD
    exact t_iret hx hb hr hlk d_Re_copyBelow_29 (hP.subm (ws' := [(v, .inr (3, [.ref va, .ref vb, .int (nI n_26)])), (va, .inl (cI, 48, .inl fa_26)), (vb, .inl (cI, 48, .inl fb_26))]) [0, 1, 2] rfl) (hD.sub (ws' := [(v, .inr (3, [.ref va, .ref vb, .int (nI n_26)])), (va, .inl (cI, 48, .inl fa_26)), (vb, .inl (cI, 48, .inl fb_26))]) [0, 1, 2] rfl rfl) hS ⟨_, rfl, rfl, rfl, _, _, _, rfl, (by omega), (be_ok (by omega) (by omega) hx_26)⟩
  · have n_5 : ¬ (i) < (n) := fun z => c_5 ((nI_ltI (a := i) (b := n) (by omega) (by omega)).mpr z)
    refine lv_bipush (v := (-4)) hx hb d_Re_copyBelow_8 (by decide) ?_
    refine lv_goto (tgt := 29) hx hb d_Re_copyBelow_10 (by decide) ?_
    exact t_iret hx hb hr hlk d_Re_copyBelow_29 (hP.subm (ws' := [(v, .inr (3, [.ref va, .ref vb, .int (nI n)])), (va, .inl (cI, 48, .inl fa)), (vb, .inl (cI, 48, .inl fb))]) [0, 1, 2] rfl) (hD.sub (ws' := [(v, .inr (3, [.ref va, .ref vb, .int (nI n)])), (va, .inl (cI, 48, .inl fa)), (vb, .inl (cI, 48, .inl fb))]) [0, 1, 2] rfl rfl) hS ⟨_, rfl, rfl, rfl, _, _, _, rfl, (by omega), (be_no (by omega) (by omega))⟩
set_option maxHeartbeats 1000000 in
set_option maxRecDepth 100000 in
theorem c_Re_roll (l : Launch) (D : va_G) (cB cI cJ : ClassId) (v va vb : Nat) (n : Nat) (fa : Nat → Int32) (fb : Nat → Int32) (j : Int32) (b : Int32) (hiVa : n ≤ 48) : Tr l D classes (TY cB cI cJ) gd_tbl nx_tbl y_Re_roll b_Re_roll 3 (some .int) ({ frames := 2, cells := 0, slots := 0, locals := 41 }) [.int j, .int b, .ref v] [(v, .inr (3, [.ref va, .ref vb, .int (nI n)])), (va, .inl (cI, 48, .inl fa)), (vb, .inl (cI, 48, .inl fb))] (pI0 (fun r w => ∃ (n' : Nat) (fa' : Nat → Int32) (fb' : Nat → Int32), w = [(v, .inr (3, [.ref va, .ref vb, .int (nI n')])), (va, .inl (cI, 48, .inl fa')), (vb, .inl (cI, 48, .inl fb'))] ∧ (n' ≤ 48) ∧ (qR r (vS n' fa') = gP (rollP (vS n fa) j b)))) := by
  refine Tr.intro (by decide +kernel) nx_ok (Nat.le_of_ble_eq_true rfl) ?_
  intro p_ e_ s_ m_ args_ below_ meth_ c_ A_ ls hx hb hml hown hts hr hlk hnm hZ hP hD hS hl
  have hl : lv_has ls 3 [(0, .int j), (1, .int b), (2, .ref v)] := hl
  refine lv_iload_n hx hb d_Re_roll_0 rfl (lv_at hl 0 rfl) ?_
  refine lv_if_lt (tgt := 12) hx hb d_Re_roll_1 (by decide) (fun c_1 => ?_) (fun c_1 => ?_)
  · refine lv_bipush (v := (-4)) hx hb d_Re_roll_12 (by decide) ?_
    exact t_iret hx hb hr hlk d_Re_roll_14 (hP.subm (ws' := [(v, .inr (3, [.ref va, .ref vb, .int (nI n)])), (va, .inl (cI, 48, .inl fa)), (vb, .inl (cI, 48, .inl fb))]) [0, 1, 2] rfl) (hD.sub (ws' := [(v, .inr (3, [.ref va, .ref vb, .int (nI n)])), (va, .inl (cI, 48, .inl fa)), (vb, .inl (cI, 48, .inl fb))]) [0, 1, 2] rfl rfl) hS ⟨_, rfl, rfl, rfl, _, _, _, rfl, (by omega), (ro_neg c_1)⟩
  · obtain ⟨jj, hjj, ej⟩ := nI_of c_1
    subst ej
    refine lv_iload_n hx hb d_Re_roll_4 rfl (lv_at hl 0 rfl) ?_
    refine lv_aload_n hx hb d_Re_roll_5 rfl (lv_at hl 2 rfl) ?_
    refine roV (As := []) (rest := [.int (nI jj)]) ⟨hx, hb, hml, hown, hts⟩ gd_good (c_Va_size l D cB cI cJ v va vb n) cal_Va_size ml_Re_25 ⟨Nat.le_of_ble_eq_true rfl, Nat.le_of_ble_eq_true rfl⟩ hZ hP hD (isC := [0]) ⟨rfl, rfl⟩ 0 (ci := 3) rfl rfl rfl rfl hl.1 rfl (Nat.le_of_ble_eq_true rfl) d_Re_roll_6 ⟨Nat.le_of_ble_eq_true rfl, Nat.le_of_ble_eq_true rfl⟩ (fun v hv => ?_)
    subst hv
    refine lv_icmp_le (tgt := 15) hx hb d_Re_roll_9 (by decide) (fun c_9 => ?_) (fun c_9 => ?_)
    · have n_9 : (jj) ≤ (n) := (nI_leI (a := jj) (b := n) (by omega) (by omega)).mp c_9
      refine lv_iload_n hx hb d_Re_roll_15 rfl (lv_at hl 0 rfl) ?_
      refine lv_if_le (tgt := 29) hx hb d_Re_roll_16 (by decide) (fun c_16 => ?_) (fun c_16 => ?_)
      · have n_16 : (jj) ≤ (0) := (nI_leI (a := jj) (b := 0) (by omega) (by omega)).mp c_16
        refine lv_iconst (v := 0) hx hb d_Re_roll_29 (by decide) ?_
        exact t_iret hx hb hr hlk d_Re_roll_30 (hP.subm (ws' := [(v, .inr (3, [.ref va, .ref vb, .int (nI n)])), (va, .inl (cI, 48, .inl fa)), (vb, .inl (cI, 48, .inl fb))]) [0, 1, 2] rfl) (hD.sub (ws' := [(v, .inr (3, [.ref va, .ref vb, .int (nI n)])), (va, .inl (cI, 48, .inl fa)), (vb, .inl (cI, 48, .inl fb))]) [0, 1, 2] rfl rfl) hS ⟨_, rfl, rfl, rfl, _, _, _, rfl, (by omega), (ro_nil hjj (by omega))⟩
      · have n_16 : ¬ (jj) ≤ (0) := fun z => c_16 ((nI_leI (a := jj) (b := 0) (by omega) (by omega)).mpr z)
        refine lv_aload_n hx hb d_Re_roll_19 rfl (lv_at hl 2 rfl) ?_
        refine lv_iload_n hx hb d_Re_roll_20 rfl (lv_at hl 0 rfl) ?_
        refine lv_iload_n hx hb d_Re_roll_21 rfl (lv_at hl 1 rfl) ?_
        refine lv_iload_n hx hb d_Re_roll_22 rfl (lv_at hl 0 rfl) ?_
        refine roS (As := [.int b, .int (nI jj)]) (rest := [.int (nI jj), .ref v]) ⟨hx, hb, hml, hown, hts⟩ gd_good (c_Math_floorMod l D cB cI cJ b jj (by omega) (by omega)) cal_Math_floorMod ml_Re_87 ⟨Nat.le_of_ble_eq_true rfl, Nat.le_of_ble_eq_true rfl⟩ hZ hP hD (isC := []) ⟨rfl, rfl⟩ rfl hl.1 rfl (Nat.le_of_ble_eq_true rfl) d_Re_roll_23 ⟨Nat.le_of_ble_eq_true rfl, Nat.le_of_ble_eq_true rfl⟩ (fun v hv => ?_)
        subst hv
        have hC : Cut [(v, .inr (3, [.ref va, .ref vb, .int (nI n)])), (va, .inl (cI, 48, .inl fa)), (vb, .inl (cI, 48, .inl fb))] [(v, .inr (3, [.ref va, .ref vb, .int (nI n)])), (va, .inl (cI, 48, .inl fa)), (vb, .inl (cI, 48, .inl fb))] [] [0, 1, 2] [] := ⟨rfl, rfl, rfl, rfl, by decide⟩
        refine goV0 (trV (As := [.int (nI jj), .int (nI (fmN b jj))]) (rest := []) ⟨hx, hb, hml, hown, hts⟩ gd_good (c_Va_turn l D cB cI cJ v va vb n fa fb jj (fmN b jj) (by omega) (by omega) (by omega) (fm_lt (by omega))) cal_Va_turn ml_Re_90 ⟨Nat.le_of_ble_eq_true rfl, Nat.le_of_ble_eq_true rfl⟩ hZ hP hD hC 0 (ci := 3) rfl rfl rfl rfl hl.1 rfl (Nat.le_of_ble_eq_true rfl) d_Re_roll_26 ⟨Nat.le_of_ble_eq_true rfl, Nat.le_of_ble_eq_true rfl⟩) hZ hP hD hS hC (fun w1 H locs hq hP hD hS => ?_)
        obtain ⟨n_26, fa_26, fb_26, rfl, hv0_26, hx_26⟩ := hq
        have hP : va_P D classes [(v, .inr (3, [.ref va, .ref vb, .int (nI n_26)])), (va, .inl (cI, 48, .inl fa_26)), (vb, .inl (cI, 48, .inl fb_26))] H := hP
        have hD : va_D A_ [(v, .inr (3, [.ref va, .ref vb, .int (nI n_26)])), (va, .inl (cI, 48, .inl fa_26)), (vb, .inl (cI, 48, .inl fb_26))] := hD
        refine lv_iconst (v := 0) hx hb d_Re_roll_29 (by decide) ?_
        exact t_iret hx hb hr hlk d_Re_roll_30 (hP.subm (ws' := [(v, .inr (3, [.ref va, .ref vb, .int (nI n_26)])), (va, .inl (cI, 48, .inl fa_26)), (vb, .inl (cI, 48, .inl fb_26))]) [0, 1, 2] rfl) (hD.sub (ws' := [(v, .inr (3, [.ref va, .ref vb, .int (nI n_26)])), (va, .inl (cI, 48, .inl fa_26)), (vb, .inl (cI, 48, .inl fb_26))]) [0, 1, 2] rfl rfl) hS ⟨_, rfl, rfl, rfl, _, _, _, rfl, (by omega), (ro_ok hjj (by omega) (by omega) hx_26)⟩
    · have n_9 : ¬ (jj) ≤ (n) := fun z => c_9 ((nI_leI (a := jj) (b := n) (by omega) (by omega)).mpr z)
      refine lv_bipush (v := (-4)) hx hb d_Re_roll_12 (by decide) ?_
      exact t_iret hx hb hr hlk d_Re_roll_14 (hP.subm (ws' := [(v, .inr (3, [.ref va, .ref vb, .int (nI n)])), (va, .inl (cI, 48, .inl fa)), (vb, .inl (cI, 48, .inl fb))]) [0, 1, 2] rfl) (hD.sub (ws' := [(v, .inr (3, [.ref va, .ref vb, .int (nI n)])), (va, .inl (cI, 48, .inl fa)), (vb, .inl (cI, 48, .inl fb))]) [0, 1, 2] rfl rfl) hS ⟨_, rfl, rfl, rfl, _, _, _, rfl, (by omega), (ro_big hjj (by omega))⟩
set_option maxHeartbeats 1000000 in
set_option maxRecDepth 100000 in
theorem c_Re_choose (l : Launch) (D : va_G) (cB cI cJ : ClassId) (v va vb : Nat) (n : Nat) (fa : Nat → Int32) (fb : Nat → Int32)  (hiVa : n ≤ 48) : Tr l D classes (TY cB cI cJ) gd_tbl nx_tbl y_Re_choose b_Re_choose 5 (some .int) ({ frames := 1, cells := 0, slots := 0, locals := 21 }) [.ref v] [(v, .inr (3, [.ref va, .ref vb, .int (nI n)])), (va, .inl (cI, 48, .inl fa)), (vb, .inl (cI, 48, .inl fb))] (pI0 (fun r w => ∃ (n' : Nat) (fa' : Nat → Int32) (fb' : Nat → Int32), w = [(v, .inr (3, [.ref va, .ref vb, .int (nI n')])), (va, .inl (cI, 48, .inl fa')), (vb, .inl (cI, 48, .inl fb'))] ∧ (n' ≤ 48) ∧ (qR r (vS n' fa') = gP (chooP (vS n fa))))) := by
  refine Tr.intro (by decide +kernel) nx_ok (Nat.le_of_ble_eq_true rfl) ?_
  intro p_ e_ s_ m_ args_ below_ meth_ c_ A_ ls hx hb hml hown hts hr hlk hnm hZ hP hD hS hl
  have hl : lv_has ls 5 [(0, .ref v)] := hl
  refine lv_aload_n hx hb d_Re_choose_0 rfl (lv_at hl 0 rfl) ?_
  have hC : Cut [(v, .inr (3, [.ref va, .ref vb, .int (nI n)])), (va, .inl (cI, 48, .inl fa)), (vb, .inl (cI, 48, .inl fb))] [(v, .inr (3, [.ref va, .ref vb, .int (nI n)])), (va, .inl (cI, 48, .inl fa)), (vb, .inl (cI, 48, .inl fb))] [] [0, 1, 2] [] := ⟨rfl, rfl, rfl, rfl, by decide⟩
  refine goI0 (trV (As := []) (rest := []) ⟨hx, hb, hml, hown, hts⟩ gd_good (c_Va_pop l D cB cI cJ v va vb n fa fb (by omega) ) cal_Va_pop ml_Re_50 ⟨Nat.le_of_ble_eq_true rfl, Nat.le_of_ble_eq_true rfl⟩ hZ hP hD hC 0 (ci := 3) rfl rfl rfl rfl hl.1 rfl (Nat.le_of_ble_eq_true rfl) d_Re_choose_1 ⟨Nat.le_of_ble_eq_true rfl, Nat.le_of_ble_eq_true rfl⟩) hZ hP hD hS hC (fun r_1 w1 H locs hq hP hD hS => ?_)
  obtain ⟨n_1, fa_1, fb_1, rfl, hv0_1, hx_1⟩ := hq
  have hP : va_P D classes [(v, .inr (3, [.ref va, .ref vb, .int (nI n_1)])), (va, .inl (cI, 48, .inl fa_1)), (vb, .inl (cI, 48, .inl fb_1))] H := hP
  have hD : va_D A_ [(v, .inr (3, [.ref va, .ref vb, .int (nI n_1)])), (va, .inl (cI, 48, .inl fa_1)), (vb, .inl (cI, 48, .inl fb_1))] := hD
  refine lv_istore_n (lv' := [(1, .int r_1), (0, .ref v)]) hx hb d_Re_choose_4 rfl hl (by decide) rfl (fun ls hl => ?_)
  refine lv_aload_n hx hb d_Re_choose_5 rfl (lv_at hl 1 rfl) ?_
  have hC : Cut [(v, .inr (3, [.ref va, .ref vb, .int (nI n_1)])), (va, .inl (cI, 48, .inl fa_1)), (vb, .inl (cI, 48, .inl fb_1))] [(v, .inr (3, [.ref va, .ref vb, .int (nI n_1)])), (va, .inl (cI, 48, .inl fa_1)), (vb, .inl (cI, 48, .inl fb_1))] [] [0, 1, 2] [] := ⟨rfl, rfl, rfl, rfl, by decide⟩
  refine goI0 (trV (As := []) (rest := []) ⟨hx, hb, hml, hown, hts⟩ gd_good (c_Va_pop l D cB cI cJ v va vb n_1 fa_1 fb_1 (by omega) ) cal_Va_pop ml_Re_50 ⟨Nat.le_of_ble_eq_true rfl, Nat.le_of_ble_eq_true rfl⟩ hZ hP hD hC 0 (ci := 3) rfl rfl rfl rfl hl.1 rfl (Nat.le_of_ble_eq_true rfl) d_Re_choose_6 ⟨Nat.le_of_ble_eq_true rfl, Nat.le_of_ble_eq_true rfl⟩) hZ hP hD hS hC (fun r_6 w1 H locs hq hP hD hS => ?_)
  obtain ⟨n_6, fa_6, fb_6, rfl, hv0_6, hx_6⟩ := hq
  have hP : va_P D classes [(v, .inr (3, [.ref va, .ref vb, .int (nI n_6)])), (va, .inl (cI, 48, .inl fa_6)), (vb, .inl (cI, 48, .inl fb_6))] H := hP
  have hD : va_D A_ [(v, .inr (3, [.ref va, .ref vb, .int (nI n_6)])), (va, .inl (cI, 48, .inl fa_6)), (vb, .inl (cI, 48, .inl fb_6))] := hD
  refine lv_istore_n (lv' := [(2, .int r_6), (1, .int r_1), (0, .ref v)]) hx hb d_Re_choose_9 rfl hl (by decide) rfl (fun ls hl => ?_)
  refine lv_aload_n hx hb d_Re_choose_10 rfl (lv_at hl 2 rfl) ?_
  have hC : Cut [(v, .inr (3, [.ref va, .ref vb, .int (nI n_6)])), (va, .inl (cI, 48, .inl fa_6)), (vb, .inl (cI, 48, .inl fb_6))] [(v, .inr (3, [.ref va, .ref vb, .int (nI n_6)])), (va, .inl (cI, 48, .inl fa_6)), (vb, .inl (cI, 48, .inl fb_6))] [] [0, 1, 2] [] := ⟨rfl, rfl, rfl, rfl, by decide⟩
  refine goI0 (trV (As := []) (rest := []) ⟨hx, hb, hml, hown, hts⟩ gd_good (c_Va_pop l D cB cI cJ v va vb n_6 fa_6 fb_6 (by omega) ) cal_Va_pop ml_Re_50 ⟨Nat.le_of_ble_eq_true rfl, Nat.le_of_ble_eq_true rfl⟩ hZ hP hD hC 0 (ci := 3) rfl rfl rfl rfl hl.1 rfl (Nat.le_of_ble_eq_true rfl) d_Re_choose_11 ⟨Nat.le_of_ble_eq_true rfl, Nat.le_of_ble_eq_true rfl⟩) hZ hP hD hS hC (fun r_11 w1 H locs hq hP hD hS => ?_)
  obtain ⟨n_11, fa_11, fb_11, rfl, hv0_11, hx_11⟩ := hq
  have hP : va_P D classes [(v, .inr (3, [.ref va, .ref vb, .int (nI n_11)])), (va, .inl (cI, 48, .inl fa_11)), (vb, .inl (cI, 48, .inl fb_11))] H := hP
  have hD : va_D A_ [(v, .inr (3, [.ref va, .ref vb, .int (nI n_11)])), (va, .inl (cI, 48, .inl fa_11)), (vb, .inl (cI, 48, .inl fb_11))] := hD
  refine lv_istore_n (lv' := [(3, .int r_11), (2, .int r_6), (1, .int r_1), (0, .ref v)]) hx hb d_Re_choose_14 rfl hl (by decide) rfl (fun ls hl => ?_)
  refine lv_aload_n hx hb d_Re_choose_15 rfl (lv_at hl 3 rfl) ?_
  have hC : Cut [(v, .inr (3, [.ref va, .ref vb, .int (nI n_11)])), (va, .inl (cI, 48, .inl fa_11)), (vb, .inl (cI, 48, .inl fb_11))] [(v, .inr (3, [.ref va, .ref vb, .int (nI n_11)])), (va, .inl (cI, 48, .inl fa_11)), (vb, .inl (cI, 48, .inl fb_11))] [] [0, 1, 2] [] := ⟨rfl, rfl, rfl, rfl, by decide⟩
  refine goI0 (trV (As := []) (rest := []) ⟨hx, hb, hml, hown, hts⟩ gd_good (c_Va_pop l D cB cI cJ v va vb n_11 fa_11 fb_11 (by omega) ) cal_Va_pop ml_Re_50 ⟨Nat.le_of_ble_eq_true rfl, Nat.le_of_ble_eq_true rfl⟩ hZ hP hD hC 0 (ci := 3) rfl rfl rfl rfl hl.1 rfl (Nat.le_of_ble_eq_true rfl) d_Re_choose_16 ⟨Nat.le_of_ble_eq_true rfl, Nat.le_of_ble_eq_true rfl⟩) hZ hP hD hS hC (fun r_16 w1 H locs hq hP hD hS => ?_)
  obtain ⟨n_16, fa_16, fb_16, rfl, hv0_16, hx_16⟩ := hq
  have hP : va_P D classes [(v, .inr (3, [.ref va, .ref vb, .int (nI n_16)])), (va, .inl (cI, 48, .inl fa_16)), (vb, .inl (cI, 48, .inl fb_16))] H := hP
  have hD : va_D A_ [(v, .inr (3, [.ref va, .ref vb, .int (nI n_16)])), (va, .inl (cI, 48, .inl fa_16)), (vb, .inl (cI, 48, .inl fb_16))] := hD
  refine lv_istore (lv' := [(4, .int r_16), (3, .int r_11), (2, .int r_6), (1, .int r_1), (0, .ref v)]) hx hb d_Re_choose_19 hl (by decide) rfl (fun ls hl => ?_)
  refine lv_aload_n hx hb d_Re_choose_21 rfl (lv_at hl 4 rfl) ?_
  refine lv_iload_n hx hb d_Re_choose_22 rfl (lv_at hl 2 rfl) ?_
  refine lv_iload_n hx hb d_Re_choose_23 rfl (lv_at hl 3 rfl) ?_
  refine lv_icmp_gt (tgt := 32) hx hb d_Re_choose_24 (by decide) (fun c_24 => ?_) (fun c_24 => ?_)
  · refine lv_iload_n hx hb d_Re_choose_32 rfl (lv_at hl 1 rfl) ?_
    have hC : Cut [(v, .inr (3, [.ref va, .ref vb, .int (nI n_16)])), (va, .inl (cI, 48, .inl fa_16)), (vb, .inl (cI, 48, .inl fb_16))] [(v, .inr (3, [.ref va, .ref vb, .int (nI n_16)])), (va, .inl (cI, 48, .inl fa_16)), (vb, .inl (cI, 48, .inl fb_16))] [] [0, 1, 2] [] := ⟨rfl, rfl, rfl, rfl, by decide⟩
    refine goI0 (trV (As := [.int r_11]) (rest := []) ⟨hx, hb, hml, hown, hts⟩ gd_good (c_Va_push l D cB cI cJ v va vb n_16 fa_16 fb_16 r_11 (by omega) ) cal_Va_push ml_Re_47 ⟨Nat.le_of_ble_eq_true rfl, Nat.le_of_ble_eq_true rfl⟩ hZ hP hD hC 0 (ci := 3) rfl rfl rfl rfl hl.1 rfl (Nat.le_of_ble_eq_true rfl) d_Re_choose_33 ⟨Nat.le_of_ble_eq_true rfl, Nat.le_of_ble_eq_true rfl⟩) hZ hP hD hS hC (fun r_33 w1 H locs hq hP hD hS => ?_)
    obtain ⟨n_33, fa_33, fb_33, rfl, hv0_33, hx_33⟩ := hq
    have hP : va_P D classes [(v, .inr (3, [.ref va, .ref vb, .int (nI n_33)])), (va, .inl (cI, 48, .inl fa_33)), (vb, .inl (cI, 48, .inl fb_33))] H := hP
    have hD : va_D A_ [(v, .inr (3, [.ref va, .ref vb, .int (nI n_33)])), (va, .inl (cI, 48, .inl fa_33)), (vb, .inl (cI, 48, .inl fb_33))] := hD
    exact t_iret hx hb hr hlk d_Re_choose_36 (hP.subm (ws' := [(v, .inr (3, [.ref va, .ref vb, .int (nI n_33)])), (va, .inl (cI, 48, .inl fa_33)), (vb, .inl (cI, 48, .inl fb_33))]) [0, 1, 2] rfl) (hD.sub (ws' := [(v, .inr (3, [.ref va, .ref vb, .int (nI n_33)])), (va, .inl (cI, 48, .inl fa_33)), (vb, .inl (cI, 48, .inl fb_33))]) [0, 1, 2] rfl rfl) hS ⟨_, rfl, rfl, rfl, _, _, _, rfl, (by omega), (by rw [chooP, ← hx_1.1, ← hx_1.2, ← hx_6.1, ← hx_6.2, ← hx_11.1, ← hx_11.2, ← hx_16.1, ← hx_16.2, if_pos c_24]; exact hx_33)⟩
  · refine lv_iload hx hb d_Re_choose_27 (lv_at hl 0 rfl) ?_
    refine lv_goto (tgt := 33) hx hb d_Re_choose_29 (by decide) ?_
    have hC : Cut [(v, .inr (3, [.ref va, .ref vb, .int (nI n_16)])), (va, .inl (cI, 48, .inl fa_16)), (vb, .inl (cI, 48, .inl fb_16))] [(v, .inr (3, [.ref va, .ref vb, .int (nI n_16)])), (va, .inl (cI, 48, .inl fa_16)), (vb, .inl (cI, 48, .inl fb_16))] [] [0, 1, 2] [] := ⟨rfl, rfl, rfl, rfl, by decide⟩
    refine goI0 (trV (As := [.int r_16]) (rest := []) ⟨hx, hb, hml, hown, hts⟩ gd_good (c_Va_push l D cB cI cJ v va vb n_16 fa_16 fb_16 r_16 (by omega) ) cal_Va_push ml_Re_47 ⟨Nat.le_of_ble_eq_true rfl, Nat.le_of_ble_eq_true rfl⟩ hZ hP hD hC 0 (ci := 3) rfl rfl rfl rfl hl.1 rfl (Nat.le_of_ble_eq_true rfl) d_Re_choose_33 ⟨Nat.le_of_ble_eq_true rfl, Nat.le_of_ble_eq_true rfl⟩) hZ hP hD hS hC (fun r_33 w1 H locs hq hP hD hS => ?_)
    obtain ⟨n_33, fa_33, fb_33, rfl, hv0_33, hx_33⟩ := hq
    have hP : va_P D classes [(v, .inr (3, [.ref va, .ref vb, .int (nI n_33)])), (va, .inl (cI, 48, .inl fa_33)), (vb, .inl (cI, 48, .inl fb_33))] H := hP
    have hD : va_D A_ [(v, .inr (3, [.ref va, .ref vb, .int (nI n_33)])), (va, .inl (cI, 48, .inl fa_33)), (vb, .inl (cI, 48, .inl fb_33))] := hD
    exact t_iret hx hb hr hlk d_Re_choose_36 (hP.subm (ws' := [(v, .inr (3, [.ref va, .ref vb, .int (nI n_33)])), (va, .inl (cI, 48, .inl fa_33)), (vb, .inl (cI, 48, .inl fb_33))]) [0, 1, 2] rfl) (hD.sub (ws' := [(v, .inr (3, [.ref va, .ref vb, .int (nI n_33)])), (va, .inl (cI, 48, .inl fa_33)), (vb, .inl (cI, 48, .inl fb_33))]) [0, 1, 2] rfl rfl) hS ⟨_, rfl, rfl, rfl, _, _, _, rfl, (by omega), (by rw [chooP, ← hx_1.1, ← hx_1.2, ← hx_6.1, ← hx_6.2, ← hx_11.1, ← hx_11.2, ← hx_16.1, ← hx_16.2, if_neg c_24]; exact hx_33)⟩
set_option maxHeartbeats 1000000 in
set_option maxRecDepth 100000 in
theorem c_Re_store (l : Launch) (D : va_G) (cB cI cJ : ClassId) (re rp : Nat) (fp : Nat → Int32) (g : Int32) (i : Int32) : Tr l D classes (TY cB cI cJ) gd_tbl nx_tbl y_Re_store b_Re_store 3 (some .int) ({ frames := 0, cells := 0, slots := 0, locals := 0 }) [.ref re, .int g, .int i] [(re, .inr (5, [.ref rp])), (rp, .inl (cI, 32, .inl fp))] (pI0 (fun r w => ∃ (fp' : Nat → Int32), w = [(re, .inr (5, [.ref rp])), (rp, .inl (cI, 32, .inl fp'))] ∧ (qR r (trunc 32 fp') = gP (storeP (trunc 32 fp) g i)))) := by
  refine Tr.intro (by decide +kernel) nx_ok (Nat.le_of_ble_eq_true rfl) ?_
  intro p_ e_ s_ m_ args_ below_ meth_ c_ A_ ls hx hb hml hown hts hr hlk hnm hZ hP hD hS hl
  have hl : lv_has ls 3 [(0, .ref re), (1, .int g), (2, .int i)] := hl
  refine lv_iload_n hx hb d_Re_store_0 rfl (lv_at hl 2 rfl) ?_
  refine lv_if_lt (tgt := 10) hx hb d_Re_store_1 (by decide) (fun c_1 => ?_) (fun c_1 => ?_)
  · refine lv_bipush (v := (-4)) hx hb d_Re_store_10 (by decide) ?_
    exact t_iret hx hb hr hlk d_Re_store_12 (hP.subm (ws' := [(re, .inr (5, [.ref rp])), (rp, .inl (cI, 32, .inl fp))]) [0, 1] rfl) (hD.sub (ws' := [(re, .inr (5, [.ref rp])), (rp, .inl (cI, 32, .inl fp))]) [0, 1] rfl rfl) hS ⟨_, rfl, rfl, rfl, _, rfl, (sto_neg c_1)⟩
  · refine lv_iload_n hx hb d_Re_store_4 rfl (lv_at hl 2 rfl) ?_
    refine lv_bipush (v := 32) hx hb d_Re_store_5 (by decide) ?_
    refine lv_icmp_lt (tgt := 13) hx hb d_Re_store_7 (by decide) (fun c_7 => ?_) (fun c_7 => ?_)
    · refine lv_aload_n hx hb d_Re_store_13 rfl (lv_at hl 0 rfl) ?_
      refine va_get (D := D) (ci := 5) (v := .ref rp) (C := R_Re) (T := F_Re) (N := 1) hx hb hts i_Re hown hZ.1 hP 0 rfl rfl 0 (by decide) (hts _ fl_Re_9) (fun _ h9 => h9) rfl d_Re_store_14 ?_
      refine lv_iload_n hx hb d_Re_store_17 rfl (lv_at hl 2 rfl) ?_
      refine lv_iload_n hx hb d_Re_store_18 rfl (lv_at hl 1 rfl) ?_
      refine va_iast hx hb hZ.1 hP hD hS 1 1 rfl rfl (in_d (n := 32) c_1 c_7 (by omega) (by omega)) d_Re_store_19 (fun H locs hP hD hS => ?_)
      have hP : va_P D classes [(re, .inr (5, [.ref rp])), (rp, .inl (cI, 32, .inl (upd fp i.toNatClampNeg g)))] H := hP
      have hD : va_D A_ [(re, .inr (5, [.ref rp])), (rp, .inl (cI, 32, .inl (upd fp i.toNatClampNeg g)))] := hD
      refine lv_iconst (v := 0) hx hb d_Re_store_20 (by decide) ?_
      exact t_iret hx hb hr hlk d_Re_store_21 (hP.subm (ws' := [(re, .inr (5, [.ref rp])), (rp, .inl (cI, 32, .inl (upd fp i.toNatClampNeg g)))]) [0, 1] rfl) (hD.sub (ws' := [(re, .inr (5, [.ref rp])), (rp, .inl (cI, 32, .inl (upd fp i.toNatClampNeg g)))]) [0, 1] rfl rfl) hS ⟨_, rfl, rfl, rfl, _, rfl, (sto_ok c_1 (Int32.not_le.mpr c_7))⟩
    · refine lv_bipush (v := (-4)) hx hb d_Re_store_10 (by decide) ?_
      exact t_iret hx hb hr hlk d_Re_store_12 (hP.subm (ws' := [(re, .inr (5, [.ref rp])), (rp, .inl (cI, 32, .inl fp))]) [0, 1] rfl) (hD.sub (ws' := [(re, .inr (5, [.ref rp])), (rp, .inl (cI, 32, .inl fp))]) [0, 1] rfl rfl) hS ⟨_, rfl, rfl, rfl, _, rfl, (sto_big c_1 (Int32.not_lt.mp c_7))⟩
set_option maxHeartbeats 1000000 in
set_option maxRecDepth 100000 in
theorem c_Re_load (l : Launch) (D : va_G) (cB cI cJ : ClassId) (re rp v va vb : Nat) (fp : Nat → Int32) (n : Nat) (fa : Nat → Int32) (fb : Nat → Int32) (i : Int32) (hiVa : n ≤ 48) : Tr l D classes (TY cB cI cJ) gd_tbl nx_tbl y_Re_load b_Re_load 3 (some .int) ({ frames := 1, cells := 0, slots := 0, locals := 21 }) [.ref re, .int i, .ref v] [(re, .inr (5, [.ref rp])), (rp, .inl (cI, 32, .inl fp)), (v, .inr (3, [.ref va, .ref vb, .int (nI n)])), (va, .inl (cI, 48, .inl fa)), (vb, .inl (cI, 48, .inl fb))] (pI0 (fun r w => ∃ (n' : Nat) (fa' : Nat → Int32) (fb' : Nat → Int32), w = [(re, .inr (5, [.ref rp])), (rp, .inl (cI, 32, .inl fp)), (v, .inr (3, [.ref va, .ref vb, .int (nI n')])), (va, .inl (cI, 48, .inl fa')), (vb, .inl (cI, 48, .inl fb'))] ∧ (n' ≤ 48) ∧ (qR r (vS n' fa') = gP (loadP (trunc 32 fp) i (vS n fa))))) := by
  refine Tr.intro (by decide +kernel) nx_ok (Nat.le_of_ble_eq_true rfl) ?_
  intro p_ e_ s_ m_ args_ below_ meth_ c_ A_ ls hx hb hml hown hts hr hlk hnm hZ hP hD hS hl
  have hl : lv_has ls 3 [(0, .ref re), (1, .int i), (2, .ref v)] := hl
  refine lv_iload_n hx hb d_Re_load_0 rfl (lv_at hl 1 rfl) ?_
  refine lv_if_lt (tgt := 10) hx hb d_Re_load_1 (by decide) (fun c_1 => ?_) (fun c_1 => ?_)
  · refine lv_bipush (v := (-4)) hx hb d_Re_load_10 (by decide) ?_
    refine lv_goto (tgt := 25) hx hb d_Re_load_12 (by decide) ?_
    exact t_iret hx hb hr hlk d_Re_load_25 (hP.subm (ws' := [(re, .inr (5, [.ref rp])), (rp, .inl (cI, 32, .inl fp)), (v, .inr (3, [.ref va, .ref vb, .int (nI n)])), (va, .inl (cI, 48, .inl fa)), (vb, .inl (cI, 48, .inl fb))]) [0, 1, 2, 3, 4] rfl) (hD.sub (ws' := [(re, .inr (5, [.ref rp])), (rp, .inl (cI, 32, .inl fp)), (v, .inr (3, [.ref va, .ref vb, .int (nI n)])), (va, .inl (cI, 48, .inl fa)), (vb, .inl (cI, 48, .inl fb))]) [0, 1, 2, 3, 4] rfl rfl) hS ⟨_, rfl, rfl, rfl, _, _, _, rfl, (by omega), (loa_neg c_1)⟩
  · refine lv_iload_n hx hb d_Re_load_4 rfl (lv_at hl 1 rfl) ?_
    refine lv_bipush (v := 32) hx hb d_Re_load_5 (by decide) ?_
    refine lv_icmp_lt (tgt := 15) hx hb d_Re_load_7 (by decide) (fun c_7 => ?_) (fun c_7 => ?_)
    · refine lv_aload_n hx hb d_Re_load_15 rfl (lv_at hl 2 rfl) ?_
      refine lv_aload_n hx hb d_Re_load_16 rfl (lv_at hl 0 rfl) ?_
      refine va_get (D := D) (ci := 5) (v := .ref rp) (C := R_Re) (T := F_Re) (N := 1) hx hb hts i_Re hown hZ.1 hP 0 rfl rfl 0 (by decide) (hts _ fl_Re_9) (fun _ h9 => h9) rfl d_Re_load_17 ?_
      refine lv_iload_n hx hb d_Re_load_20 rfl (lv_at hl 1 rfl) ?_
      refine va_iald hx hb hZ.1 hP 1 1 rfl rfl (in_d (n := 32) c_1 c_7 (by omega) (by omega)) d_Re_load_21 ?_
      have hC : Cut [(re, .inr (5, [.ref rp])), (rp, .inl (cI, 32, .inl fp)), (v, .inr (3, [.ref va, .ref vb, .int (nI n)])), (va, .inl (cI, 48, .inl fa)), (vb, .inl (cI, 48, .inl fb))] [(v, .inr (3, [.ref va, .ref vb, .int (nI n)])), (va, .inl (cI, 48, .inl fa)), (vb, .inl (cI, 48, .inl fb))] [(re, .inr (5, [.ref rp])), (rp, .inl (cI, 32, .inl fp))] [2, 3, 4] [0, 1] := ⟨rfl, rfl, rfl, rfl, by decide⟩
      refine goI0 (trV (As := [.int (fp i.toNatClampNeg)]) (rest := []) ⟨hx, hb, hml, hown, hts⟩ gd_good (c_Va_push l D cB cI cJ v va vb n fa fb (fp i.toNatClampNeg) (by omega) ) cal_Va_push ml_Re_47 ⟨Nat.le_of_ble_eq_true rfl, Nat.le_of_ble_eq_true rfl⟩ hZ hP hD hC 2 (ci := 3) rfl rfl rfl rfl hl.1 rfl (Nat.le_of_ble_eq_true rfl) d_Re_load_22 ⟨Nat.le_of_ble_eq_true rfl, Nat.le_of_ble_eq_true rfl⟩) hZ hP hD hS hC (fun r_22 w1 H locs hq hP hD hS => ?_)
      obtain ⟨n_22, fa_22, fb_22, rfl, hv0_22, hx_22⟩ := hq
      have hP : va_P D classes [(re, .inr (5, [.ref rp])), (rp, .inl (cI, 32, .inl fp)), (v, .inr (3, [.ref va, .ref vb, .int (nI n_22)])), (va, .inl (cI, 48, .inl fa_22)), (vb, .inl (cI, 48, .inl fb_22))] H := hP
      have hD : va_D A_ [(re, .inr (5, [.ref rp])), (rp, .inl (cI, 32, .inl fp)), (v, .inr (3, [.ref va, .ref vb, .int (nI n_22)])), (va, .inl (cI, 48, .inl fa_22)), (vb, .inl (cI, 48, .inl fb_22))] := hD
      exact t_iret hx hb hr hlk d_Re_load_25 (hP.subm (ws' := [(re, .inr (5, [.ref rp])), (rp, .inl (cI, 32, .inl fp)), (v, .inr (3, [.ref va, .ref vb, .int (nI n_22)])), (va, .inl (cI, 48, .inl fa_22)), (vb, .inl (cI, 48, .inl fb_22))]) [0, 1, 2, 3, 4] rfl) (hD.sub (ws' := [(re, .inr (5, [.ref rp])), (rp, .inl (cI, 32, .inl fp)), (v, .inr (3, [.ref va, .ref vb, .int (nI n_22)])), (va, .inl (cI, 48, .inl fa_22)), (vb, .inl (cI, 48, .inl fb_22))]) [0, 1, 2, 3, 4] rfl rfl) hS ⟨_, rfl, rfl, rfl, _, _, _, rfl, (by omega), (loa_ok c_1 (Int32.not_le.mpr c_7) hx_22)⟩
    · refine lv_bipush (v := (-4)) hx hb d_Re_load_10 (by decide) ?_
      refine lv_goto (tgt := 25) hx hb d_Re_load_12 (by decide) ?_
      exact t_iret hx hb hr hlk d_Re_load_25 (hP.subm (ws' := [(re, .inr (5, [.ref rp])), (rp, .inl (cI, 32, .inl fp)), (v, .inr (3, [.ref va, .ref vb, .int (nI n)])), (va, .inl (cI, 48, .inl fa)), (vb, .inl (cI, 48, .inl fb))]) [0, 1, 2, 3, 4] rfl) (hD.sub (ws' := [(re, .inr (5, [.ref rp])), (rp, .inl (cI, 32, .inl fp)), (v, .inr (3, [.ref va, .ref vb, .int (nI n)])), (va, .inl (cI, 48, .inl fa)), (vb, .inl (cI, 48, .inl fb))]) [0, 1, 2, 3, 4] rfl rfl) hS ⟨_, rfl, rfl, rfl, _, _, _, rfl, (by omega), (loa_big c_1 (Int32.not_lt.mp c_7))⟩
set_option maxHeartbeats 1000000 in
set_option maxRecDepth 100000 in
theorem c_Re_ofOne (l : Launch) (D : va_G) (cB cI cJ : ClassId) (re rp v va vb : Nat) (fp : Nat → Int32) (n : Nat) (fa : Nat → Int32) (fb : Nat → Int32) (c : Nat) (hiVa : n ≤ 48) (hc : c ≤ 511) (hn1 : 1 ≤ n) : Tr l D classes (TY cB cI cJ) gd_tbl nx_tbl y_Re_ofOne b_Re_ofOne 4 (some .int) ({ frames := 2, cells := 0, slots := 0, locals := 43 }) [.ref re, .int (nI c), .ref v] [(re, .inr (5, [.ref rp])), (rp, .inl (cI, 32, .inl fp)), (v, .inr (3, [.ref va, .ref vb, .int (nI n)])), (va, .inl (cI, 48, .inl fa)), (vb, .inl (cI, 48, .inl fb))] (pI0 (fun r w => ∃ (n' : Nat) (fa' : Nat → Int32) (fb' : Nat → Int32), w = [(re, .inr (5, [.ref rp])), (rp, .inl (cI, 32, .inl fp)), (v, .inr (3, [.ref va, .ref vb, .int (nI n')])), (va, .inl (cI, 48, .inl fa')), (vb, .inl (cI, 48, .inl fb'))] ∧ (n' ≤ 48) ∧ (qR r (vS n' fa') = gP (oneP c (vS n fa) (trunc 32 fp))))) := by
  refine Tr.intro (by decide +kernel) nx_ok (Nat.le_of_ble_eq_true rfl) ?_
  intro p_ e_ s_ m_ args_ below_ meth_ c_ A_ ls hx hb hml hown hts hr hlk hnm hZ hP hD hS hl
  have hl : lv_has ls 4 [(0, .ref re), (1, .int (nI c)), (2, .ref v)] := hl
  refine lv_iload_n hx hb d_Re_ofOne_0 rfl (lv_at hl 1 rfl) ?_
  refine lv_sipush (v := 283) hx hb d_Re_ofOne_1 (by decide) ?_
  refine lv_icmp_ne (tgt := 22) hx hb d_Re_ofOne_4 (by decide) (fun c_4 => ?_) (fun c_4 => ?_)
  · have n_4 : ¬ (c) = (283) := fun z => c_4 ((nI_eq (a := c) (b := 283) (by omega) (by omega)).mpr z)
    refine lv_aload_n hx hb d_Re_ofOne_22 rfl (lv_at hl 2 rfl) ?_
    have hC : Cut [(re, .inr (5, [.ref rp])), (rp, .inl (cI, 32, .inl fp)), (v, .inr (3, [.ref va, .ref vb, .int (nI n)])), (va, .inl (cI, 48, .inl fa)), (vb, .inl (cI, 48, .inl fb))] [(v, .inr (3, [.ref va, .ref vb, .int (nI n)])), (va, .inl (cI, 48, .inl fa)), (vb, .inl (cI, 48, .inl fb))] [(re, .inr (5, [.ref rp])), (rp, .inl (cI, 32, .inl fp))] [2, 3, 4] [0, 1] := ⟨rfl, rfl, rfl, rfl, by decide⟩
    refine goI0 (trV (As := []) (rest := []) ⟨hx, hb, hml, hown, hts⟩ gd_good (c_Va_pop l D cB cI cJ v va vb n fa fb (by omega) ) cal_Va_pop ml_Re_50 ⟨Nat.le_of_ble_eq_true rfl, Nat.le_of_ble_eq_true rfl⟩ hZ hP hD hC 2 (ci := 3) rfl rfl rfl rfl hl.1 rfl (Nat.le_of_ble_eq_true rfl) d_Re_ofOne_23 ⟨Nat.le_of_ble_eq_true rfl, Nat.le_of_ble_eq_true rfl⟩) hZ hP hD hS hC (fun r_23 w1 H locs hq hP hD hS => ?_)
    obtain ⟨n_23, fa_23, fb_23, rfl, hv0_23, hx_23⟩ := hq
    have hP : va_P D classes [(re, .inr (5, [.ref rp])), (rp, .inl (cI, 32, .inl fp)), (v, .inr (3, [.ref va, .ref vb, .int (nI n_23)])), (va, .inl (cI, 48, .inl fa_23)), (vb, .inl (cI, 48, .inl fb_23))] H := hP
    have hD : va_D A_ [(re, .inr (5, [.ref rp])), (rp, .inl (cI, 32, .inl fp)), (v, .inr (3, [.ref va, .ref vb, .int (nI n_23)])), (va, .inl (cI, 48, .inl fa_23)), (vb, .inl (cI, 48, .inl fb_23))] := hD
    refine lv_istore_n (lv' := [(3, .int r_23), (0, .ref re), (1, .int (nI c)), (2, .ref v)]) hx hb d_Re_ofOne_26 rfl hl (by decide) rfl (fun ls hl => ?_)
    refine lv_iload_n hx hb d_Re_ofOne_27 rfl (lv_at hl 2 rfl) ?_
    by_cases h_28_261 : c = 261
    · subst h_28_261
      refine lv_lookup (tgt := 88) (off := 60) hx hb d_Re_ofOne_28 (by decide) (by first | rfl | decide) (by decide) ?_
      refine lv_aload_n hx hb d_Re_ofOne_88 rfl (lv_at hl 3 rfl) ?_
      refine lv_iload_n hx hb d_Re_ofOne_89 rfl (lv_at hl 0 rfl) ?_
      refine lv_if_ne (tgt := 97) hx hb d_Re_ofOne_90 (by decide) (fun c_90 => ?_) (fun c_90 => ?_)
      · refine lv_iconst (v := 0) hx hb d_Re_ofOne_97 (by decide) ?_
        refine roS (As := [.int 0]) (rest := [.ref v]) ⟨hx, hb, hml, hown, hts⟩ gd_good (c_Re_truth l D cB cI cJ 0) cal_Re_truth ml_Re_53 ⟨Nat.le_of_ble_eq_true rfl, Nat.le_of_ble_eq_true rfl⟩ hZ hP hD (isC := []) ⟨rfl, rfl⟩ rfl hl.1 rfl (Nat.le_of_ble_eq_true rfl) d_Re_ofOne_98 ⟨Nat.le_of_ble_eq_true rfl, Nat.le_of_ble_eq_true rfl⟩ (fun v hv => ?_)
        have hv : v = .int 0 := hv
        subst hv
        have hC : Cut [(re, .inr (5, [.ref rp])), (rp, .inl (cI, 32, .inl fp)), (v, .inr (3, [.ref va, .ref vb, .int (nI n_23)])), (va, .inl (cI, 48, .inl fa_23)), (vb, .inl (cI, 48, .inl fb_23))] [(v, .inr (3, [.ref va, .ref vb, .int (nI n_23)])), (va, .inl (cI, 48, .inl fa_23)), (vb, .inl (cI, 48, .inl fb_23))] [(re, .inr (5, [.ref rp])), (rp, .inl (cI, 32, .inl fp))] [2, 3, 4] [0, 1] := ⟨rfl, rfl, rfl, rfl, by decide⟩
        refine goI0 (trV (As := [.int 0]) (rest := []) ⟨hx, hb, hml, hown, hts⟩ gd_good (c_Va_push l D cB cI cJ v va vb n_23 fa_23 fb_23 0 (by omega) ) cal_Va_push ml_Re_47 ⟨Nat.le_of_ble_eq_true rfl, Nat.le_of_ble_eq_true rfl⟩ hZ hP hD hC 2 (ci := 3) rfl rfl rfl rfl hl.1 rfl (Nat.le_of_ble_eq_true rfl) d_Re_ofOne_101 ⟨Nat.le_of_ble_eq_true rfl, Nat.le_of_ble_eq_true rfl⟩) hZ hP hD hS hC (fun r_101 w1 H locs hq hP hD hS => ?_)
        obtain ⟨n_101, fa_101, fb_101, rfl, hv0_101, hx_101⟩ := hq
        have hP : va_P D classes [(re, .inr (5, [.ref rp])), (rp, .inl (cI, 32, .inl fp)), (v, .inr (3, [.ref va, .ref vb, .int (nI n_101)])), (va, .inl (cI, 48, .inl fa_101)), (vb, .inl (cI, 48, .inl fb_101))] H := hP
        have hD : va_D A_ [(re, .inr (5, [.ref rp])), (rp, .inl (cI, 32, .inl fp)), (v, .inr (3, [.ref va, .ref vb, .int (nI n_101)])), (va, .inl (cI, 48, .inl fa_101)), (vb, .inl (cI, 48, .inl fb_101))] := hD
        exact t_iret hx hb hr hlk d_Re_ofOne_104 (hP.subm (ws' := [(re, .inr (5, [.ref rp])), (rp, .inl (cI, 32, .inl fp)), (v, .inr (3, [.ref va, .ref vb, .int (nI n_101)])), (va, .inl (cI, 48, .inl fa_101)), (vb, .inl (cI, 48, .inl fb_101))]) [0, 1, 2, 3, 4] rfl) (hD.sub (ws' := [(re, .inr (5, [.ref rp])), (rp, .inl (cI, 32, .inl fp)), (v, .inr (3, [.ref va, .ref vb, .int (nI n_101)])), (va, .inl (cI, 48, .inl fa_101)), (vb, .inl (cI, 48, .inl fb_101))]) [0, 1, 2, 3, 4] rfl rfl) hS ⟨_, rfl, rfl, rfl, _, _, _, rfl, (by omega), (by rw [one_261, ← hx_23.1, ← hx_23.2, if_neg c_90]; exact hx_101)⟩
      · refine lv_iconst (v := 1) hx hb d_Re_ofOne_93 (by decide) ?_
        refine lv_goto (tgt := 98) hx hb d_Re_ofOne_94 (by decide) ?_
        refine roS (As := [.int 1]) (rest := [.ref v]) ⟨hx, hb, hml, hown, hts⟩ gd_good (c_Re_truth l D cB cI cJ 1) cal_Re_truth ml_Re_53 ⟨Nat.le_of_ble_eq_true rfl, Nat.le_of_ble_eq_true rfl⟩ hZ hP hD (isC := []) ⟨rfl, rfl⟩ rfl hl.1 rfl (Nat.le_of_ble_eq_true rfl) d_Re_ofOne_98 ⟨Nat.le_of_ble_eq_true rfl, Nat.le_of_ble_eq_true rfl⟩ (fun v hv => ?_)
        have hv : v = .int 65536 := hv
        subst hv
        have hC : Cut [(re, .inr (5, [.ref rp])), (rp, .inl (cI, 32, .inl fp)), (v, .inr (3, [.ref va, .ref vb, .int (nI n_23)])), (va, .inl (cI, 48, .inl fa_23)), (vb, .inl (cI, 48, .inl fb_23))] [(v, .inr (3, [.ref va, .ref vb, .int (nI n_23)])), (va, .inl (cI, 48, .inl fa_23)), (vb, .inl (cI, 48, .inl fb_23))] [(re, .inr (5, [.ref rp])), (rp, .inl (cI, 32, .inl fp))] [2, 3, 4] [0, 1] := ⟨rfl, rfl, rfl, rfl, by decide⟩
        refine goI0 (trV (As := [.int 65536]) (rest := []) ⟨hx, hb, hml, hown, hts⟩ gd_good (c_Va_push l D cB cI cJ v va vb n_23 fa_23 fb_23 65536 (by omega) ) cal_Va_push ml_Re_47 ⟨Nat.le_of_ble_eq_true rfl, Nat.le_of_ble_eq_true rfl⟩ hZ hP hD hC 2 (ci := 3) rfl rfl rfl rfl hl.1 rfl (Nat.le_of_ble_eq_true rfl) d_Re_ofOne_101 ⟨Nat.le_of_ble_eq_true rfl, Nat.le_of_ble_eq_true rfl⟩) hZ hP hD hS hC (fun r_101 w1 H locs hq hP hD hS => ?_)
        obtain ⟨n_101, fa_101, fb_101, rfl, hv0_101, hx_101⟩ := hq
        have hP : va_P D classes [(re, .inr (5, [.ref rp])), (rp, .inl (cI, 32, .inl fp)), (v, .inr (3, [.ref va, .ref vb, .int (nI n_101)])), (va, .inl (cI, 48, .inl fa_101)), (vb, .inl (cI, 48, .inl fb_101))] H := hP
        have hD : va_D A_ [(re, .inr (5, [.ref rp])), (rp, .inl (cI, 32, .inl fp)), (v, .inr (3, [.ref va, .ref vb, .int (nI n_101)])), (va, .inl (cI, 48, .inl fa_101)), (vb, .inl (cI, 48, .inl fb_101))] := hD
        exact t_iret hx hb hr hlk d_Re_ofOne_104 (hP.subm (ws' := [(re, .inr (5, [.ref rp])), (rp, .inl (cI, 32, .inl fp)), (v, .inr (3, [.ref va, .ref vb, .int (nI n_101)])), (va, .inl (cI, 48, .inl fa_101)), (vb, .inl (cI, 48, .inl fb_101))]) [0, 1, 2, 3, 4] rfl) (hD.sub (ws' := [(re, .inr (5, [.ref rp])), (rp, .inl (cI, 32, .inl fp)), (v, .inr (3, [.ref va, .ref vb, .int (nI n_101)])), (va, .inl (cI, 48, .inl fa_101)), (vb, .inl (cI, 48, .inl fb_101))]) [0, 1, 2, 3, 4] rfl rfl) hS ⟨_, rfl, rfl, rfl, _, _, _, rfl, (by omega), (by rw [one_261, ← hx_23.1, ← hx_23.2, if_pos c_90]; exact hx_101)⟩
    by_cases h_28_265 : c = 265
    · subst h_28_265
      refine lv_lookup (tgt := 105) (off := 77) hx hb d_Re_ofOne_28 (by decide) (by first | rfl | decide) (by decide) ?_
      refine lv_aload_n hx hb d_Re_ofOne_105 rfl (lv_at hl 3 rfl) ?_
      refine lv_iload_n hx hb d_Re_ofOne_106 rfl (lv_at hl 0 rfl) ?_
      refine lv_if_ge (tgt := 115) hx hb d_Re_ofOne_107 (by decide) (fun c_107 => ?_) (fun c_107 => ?_)
      · refine lv_iload_n hx hb d_Re_ofOne_115 rfl (lv_at hl 0 rfl) ?_
        have hC : Cut [(re, .inr (5, [.ref rp])), (rp, .inl (cI, 32, .inl fp)), (v, .inr (3, [.ref va, .ref vb, .int (nI n_23)])), (va, .inl (cI, 48, .inl fa_23)), (vb, .inl (cI, 48, .inl fb_23))] [(v, .inr (3, [.ref va, .ref vb, .int (nI n_23)])), (va, .inl (cI, 48, .inl fa_23)), (vb, .inl (cI, 48, .inl fb_23))] [(re, .inr (5, [.ref rp])), (rp, .inl (cI, 32, .inl fp))] [2, 3, 4] [0, 1] := ⟨rfl, rfl, rfl, rfl, by decide⟩
        refine goI0 (trV (As := [.int r_23]) (rest := []) ⟨hx, hb, hml, hown, hts⟩ gd_good (c_Va_push l D cB cI cJ v va vb n_23 fa_23 fb_23 r_23 (by omega) ) cal_Va_push ml_Re_47 ⟨Nat.le_of_ble_eq_true rfl, Nat.le_of_ble_eq_true rfl⟩ hZ hP hD hC 2 (ci := 3) rfl rfl rfl rfl hl.1 rfl (Nat.le_of_ble_eq_true rfl) d_Re_ofOne_116 ⟨Nat.le_of_ble_eq_true rfl, Nat.le_of_ble_eq_true rfl⟩) hZ hP hD hS hC (fun r_116 w1 H locs hq hP hD hS => ?_)
        obtain ⟨n_116, fa_116, fb_116, rfl, hv0_116, hx_116⟩ := hq
        have hP : va_P D classes [(re, .inr (5, [.ref rp])), (rp, .inl (cI, 32, .inl fp)), (v, .inr (3, [.ref va, .ref vb, .int (nI n_116)])), (va, .inl (cI, 48, .inl fa_116)), (vb, .inl (cI, 48, .inl fb_116))] H := hP
        have hD : va_D A_ [(re, .inr (5, [.ref rp])), (rp, .inl (cI, 32, .inl fp)), (v, .inr (3, [.ref va, .ref vb, .int (nI n_116)])), (va, .inl (cI, 48, .inl fa_116)), (vb, .inl (cI, 48, .inl fb_116))] := hD
        exact t_iret hx hb hr hlk d_Re_ofOne_119 (hP.subm (ws' := [(re, .inr (5, [.ref rp])), (rp, .inl (cI, 32, .inl fp)), (v, .inr (3, [.ref va, .ref vb, .int (nI n_116)])), (va, .inl (cI, 48, .inl fa_116)), (vb, .inl (cI, 48, .inl fb_116))]) [0, 1, 2, 3, 4] rfl) (hD.sub (ws' := [(re, .inr (5, [.ref rp])), (rp, .inl (cI, 32, .inl fp)), (v, .inr (3, [.ref va, .ref vb, .int (nI n_116)])), (va, .inl (cI, 48, .inl fa_116)), (vb, .inl (cI, 48, .inl fb_116))]) [0, 1, 2, 3, 4] rfl rfl) hS ⟨_, rfl, rfl, rfl, _, _, _, rfl, (by omega), (by rw [one_265, ← hx_23.1, ← hx_23.2, if_neg (Int32.not_lt.mpr c_107)]; exact hx_116)⟩
      · refine lv_iload_n hx hb d_Re_ofOne_110 rfl (lv_at hl 0 rfl) ?_
        refine lv_ineg hx hb d_Re_ofOne_111 ?_
        refine lv_goto (tgt := 116) hx hb d_Re_ofOne_112 (by decide) ?_
        have hC : Cut [(re, .inr (5, [.ref rp])), (rp, .inl (cI, 32, .inl fp)), (v, .inr (3, [.ref va, .ref vb, .int (nI n_23)])), (va, .inl (cI, 48, .inl fa_23)), (vb, .inl (cI, 48, .inl fb_23))] [(v, .inr (3, [.ref va, .ref vb, .int (nI n_23)])), (va, .inl (cI, 48, .inl fa_23)), (vb, .inl (cI, 48, .inl fb_23))] [(re, .inr (5, [.ref rp])), (rp, .inl (cI, 32, .inl fp))] [2, 3, 4] [0, 1] := ⟨rfl, rfl, rfl, rfl, by decide⟩
        refine goI0 (trV (As := [.int (-r_23)]) (rest := []) ⟨hx, hb, hml, hown, hts⟩ gd_good (c_Va_push l D cB cI cJ v va vb n_23 fa_23 fb_23 (-r_23) (by omega) ) cal_Va_push ml_Re_47 ⟨Nat.le_of_ble_eq_true rfl, Nat.le_of_ble_eq_true rfl⟩ hZ hP hD hC 2 (ci := 3) rfl rfl rfl rfl hl.1 rfl (Nat.le_of_ble_eq_true rfl) d_Re_ofOne_116 ⟨Nat.le_of_ble_eq_true rfl, Nat.le_of_ble_eq_true rfl⟩) hZ hP hD hS hC (fun r_116 w1 H locs hq hP hD hS => ?_)
        obtain ⟨n_116, fa_116, fb_116, rfl, hv0_116, hx_116⟩ := hq
        have hP : va_P D classes [(re, .inr (5, [.ref rp])), (rp, .inl (cI, 32, .inl fp)), (v, .inr (3, [.ref va, .ref vb, .int (nI n_116)])), (va, .inl (cI, 48, .inl fa_116)), (vb, .inl (cI, 48, .inl fb_116))] H := hP
        have hD : va_D A_ [(re, .inr (5, [.ref rp])), (rp, .inl (cI, 32, .inl fp)), (v, .inr (3, [.ref va, .ref vb, .int (nI n_116)])), (va, .inl (cI, 48, .inl fa_116)), (vb, .inl (cI, 48, .inl fb_116))] := hD
        exact t_iret hx hb hr hlk d_Re_ofOne_119 (hP.subm (ws' := [(re, .inr (5, [.ref rp])), (rp, .inl (cI, 32, .inl fp)), (v, .inr (3, [.ref va, .ref vb, .int (nI n_116)])), (va, .inl (cI, 48, .inl fa_116)), (vb, .inl (cI, 48, .inl fb_116))]) [0, 1, 2, 3, 4] rfl) (hD.sub (ws' := [(re, .inr (5, [.ref rp])), (rp, .inl (cI, 32, .inl fp)), (v, .inr (3, [.ref va, .ref vb, .int (nI n_116)])), (va, .inl (cI, 48, .inl fa_116)), (vb, .inl (cI, 48, .inl fb_116))]) [0, 1, 2, 3, 4] rfl rfl) hS ⟨_, rfl, rfl, rfl, _, _, _, rfl, (by omega), (by rw [one_265, ← hx_23.1, ← hx_23.2, if_pos (Int32.not_le.mp c_107)]; exact hx_116)⟩
    by_cases h_28_270 : c = 270
    · subst h_28_270
      refine lv_lookup (tgt := 120) (off := 92) hx hb d_Re_ofOne_28 (by decide) (by first | rfl | decide) (by decide) ?_
      refine lv_aload_n hx hb d_Re_ofOne_120 rfl (lv_at hl 3 rfl) ?_
      refine lv_iload_n hx hb d_Re_ofOne_121 rfl (lv_at hl 0 rfl) ?_
      refine lv_ineg hx hb d_Re_ofOne_122 ?_
      have hC : Cut [(re, .inr (5, [.ref rp])), (rp, .inl (cI, 32, .inl fp)), (v, .inr (3, [.ref va, .ref vb, .int (nI n_23)])), (va, .inl (cI, 48, .inl fa_23)), (vb, .inl (cI, 48, .inl fb_23))] [(v, .inr (3, [.ref va, .ref vb, .int (nI n_23)])), (va, .inl (cI, 48, .inl fa_23)), (vb, .inl (cI, 48, .inl fb_23))] [(re, .inr (5, [.ref rp])), (rp, .inl (cI, 32, .inl fp))] [2, 3, 4] [0, 1] := ⟨rfl, rfl, rfl, rfl, by decide⟩
      refine goI0 (trV (As := [.int (-r_23)]) (rest := []) ⟨hx, hb, hml, hown, hts⟩ gd_good (c_Va_push l D cB cI cJ v va vb n_23 fa_23 fb_23 (-r_23) (by omega) ) cal_Va_push ml_Re_47 ⟨Nat.le_of_ble_eq_true rfl, Nat.le_of_ble_eq_true rfl⟩ hZ hP hD hC 2 (ci := 3) rfl rfl rfl rfl hl.1 rfl (Nat.le_of_ble_eq_true rfl) d_Re_ofOne_123 ⟨Nat.le_of_ble_eq_true rfl, Nat.le_of_ble_eq_true rfl⟩) hZ hP hD hS hC (fun r_123 w1 H locs hq hP hD hS => ?_)
      obtain ⟨n_123, fa_123, fb_123, rfl, hv0_123, hx_123⟩ := hq
      have hP : va_P D classes [(re, .inr (5, [.ref rp])), (rp, .inl (cI, 32, .inl fp)), (v, .inr (3, [.ref va, .ref vb, .int (nI n_123)])), (va, .inl (cI, 48, .inl fa_123)), (vb, .inl (cI, 48, .inl fb_123))] H := hP
      have hD : va_D A_ [(re, .inr (5, [.ref rp])), (rp, .inl (cI, 32, .inl fp)), (v, .inr (3, [.ref va, .ref vb, .int (nI n_123)])), (va, .inl (cI, 48, .inl fa_123)), (vb, .inl (cI, 48, .inl fb_123))] := hD
      exact t_iret hx hb hr hlk d_Re_ofOne_126 (hP.subm (ws' := [(re, .inr (5, [.ref rp])), (rp, .inl (cI, 32, .inl fp)), (v, .inr (3, [.ref va, .ref vb, .int (nI n_123)])), (va, .inl (cI, 48, .inl fa_123)), (vb, .inl (cI, 48, .inl fb_123))]) [0, 1, 2, 3, 4] rfl) (hD.sub (ws' := [(re, .inr (5, [.ref rp])), (rp, .inl (cI, 32, .inl fp)), (v, .inr (3, [.ref va, .ref vb, .int (nI n_123)])), (va, .inl (cI, 48, .inl fa_123)), (vb, .inl (cI, 48, .inl fb_123))]) [0, 1, 2, 3, 4] rfl rfl) hS ⟨_, rfl, rfl, rfl, _, _, _, rfl, (by omega), (by rw [one_270, ← hx_23.1, ← hx_23.2]; exact hx_123)⟩
    by_cases h_28_277 : c = 277
    · subst h_28_277
      refine lv_lookup (tgt := 127) (off := 99) hx hb d_Re_ofOne_28 (by decide) (by first | rfl | decide) (by decide) ?_
      refine lv_aload_n hx hb d_Re_ofOne_127 rfl (lv_at hl 1 rfl) ?_
      refine lv_iload_n hx hb d_Re_ofOne_128 rfl (lv_at hl 0 rfl) ?_
      refine lv_bipush (v := 16) hx hb d_Re_ofOne_129 (by decide) ?_
      refine lv_ishr hx hb d_Re_ofOne_131 ?_
      refine lv_aload_n hx hb d_Re_ofOne_132 rfl (lv_at hl 3 rfl) ?_
      have hC : Cut [(re, .inr (5, [.ref rp])), (rp, .inl (cI, 32, .inl fp)), (v, .inr (3, [.ref va, .ref vb, .int (nI n_23)])), (va, .inl (cI, 48, .inl fa_23)), (vb, .inl (cI, 48, .inl fb_23))] [(re, .inr (5, [.ref rp])), (rp, .inl (cI, 32, .inl fp)), (v, .inr (3, [.ref va, .ref vb, .int (nI n_23)])), (va, .inl (cI, 48, .inl fa_23)), (vb, .inl (cI, 48, .inl fb_23))] [] [0, 1, 2, 3, 4] [] := ⟨rfl, rfl, rfl, rfl, by decide⟩
      refine goI0 (trV (As := [.int (r_23 >>> (16 &&& 31)), .ref v]) (rest := []) ⟨hx, hb, hml, hown, hts⟩ gd_good (c_Re_load l D cB cI cJ re rp v va vb fp n_23 fa_23 fb_23 (r_23 >>> (16 &&& 31)) (by omega) ) cal_Re_load ml_Re_57 ⟨Nat.le_of_ble_eq_true rfl, Nat.le_of_ble_eq_true rfl⟩ hZ hP hD hC 0 (ci := 5) rfl rfl rfl rfl hl.1 rfl (Nat.le_of_ble_eq_true rfl) d_Re_ofOne_133 ⟨Nat.le_of_ble_eq_true rfl, Nat.le_of_ble_eq_true rfl⟩) hZ hP hD hS hC (fun r_133 w1 H locs hq hP hD hS => ?_)
      obtain ⟨n_133, fa_133, fb_133, rfl, hv0_133, hx_133⟩ := hq
      have hP : va_P D classes [(re, .inr (5, [.ref rp])), (rp, .inl (cI, 32, .inl fp)), (v, .inr (3, [.ref va, .ref vb, .int (nI n_133)])), (va, .inl (cI, 48, .inl fa_133)), (vb, .inl (cI, 48, .inl fb_133))] H := hP
      have hD : va_D A_ [(re, .inr (5, [.ref rp])), (rp, .inl (cI, 32, .inl fp)), (v, .inr (3, [.ref va, .ref vb, .int (nI n_133)])), (va, .inl (cI, 48, .inl fa_133)), (vb, .inl (cI, 48, .inl fb_133))] := hD
      exact t_iret hx hb hr hlk d_Re_ofOne_136 (hP.subm (ws' := [(re, .inr (5, [.ref rp])), (rp, .inl (cI, 32, .inl fp)), (v, .inr (3, [.ref va, .ref vb, .int (nI n_133)])), (va, .inl (cI, 48, .inl fa_133)), (vb, .inl (cI, 48, .inl fb_133))]) [0, 1, 2, 3, 4] rfl) (hD.sub (ws' := [(re, .inr (5, [.ref rp])), (rp, .inl (cI, 32, .inl fp)), (v, .inr (3, [.ref va, .ref vb, .int (nI n_133)])), (va, .inl (cI, 48, .inl fa_133)), (vb, .inl (cI, 48, .inl fb_133))]) [0, 1, 2, 3, 4] rfl rfl) hS ⟨_, rfl, rfl, rfl, _, _, _, rfl, (by omega), (by rw [one_277, ← hx_23.1, ← hx_23.2]; exact hx_133)⟩
    by_cases h_28_282 : c = 282
    · subst h_28_282
      refine lv_lookup (tgt := 137) (off := 109) hx hb d_Re_ofOne_28 (by decide) (by first | rfl | decide) (by decide) ?_
      refine lv_iload_n hx hb d_Re_ofOne_137 rfl (lv_at hl 0 rfl) ?_
      refine lv_if_ge (tgt := 146) hx hb d_Re_ofOne_138 (by decide) (fun c_138 => ?_) (fun c_138 => ?_)
      · refine lv_aload_n hx hb d_Re_ofOne_146 rfl (lv_at hl 3 rfl) ?_
        refine lv_iload_n hx hb d_Re_ofOne_147 rfl (lv_at hl 0 rfl) ?_
        refine lv_i2l hx hb d_Re_ofOne_148 rfl ?_
        refine lv_ldc2 (v := 65536) hx hb hown (hts _ kl_Re_60) d_Re_ofOne_149 ?_
        refine lv_lmul hx hb d_Re_ofOne_152 ?_
        obtain ⟨sq, hsq, esq⟩ := nI_of (Int32.not_lt.mpr c_138)
        refine lv_tvl (y := lN (sq * 65536)) (by rw [esq]; exact sq_l hsq) ?_
        refine roS (As := [.long (lN (sq * 65536))]) (rest := [.ref v]) ⟨hx, hb, hml, hown, hts⟩ gd_good (c_Re_root l D cB cI cJ (sq * 65536) (by omega)) cal_Re_root ml_Re_62 ⟨Nat.le_of_ble_eq_true rfl, Nat.le_of_ble_eq_true rfl⟩ hZ hP hD (isC := []) ⟨rfl, rfl⟩ rfl hl.1 rfl (Nat.le_of_ble_eq_true rfl) d_Re_ofOne_153 ⟨Nat.le_of_ble_eq_true rfl, Nat.le_of_ble_eq_true rfl⟩ (fun v hv => ?_)
        subst hv
        have hC : Cut [(re, .inr (5, [.ref rp])), (rp, .inl (cI, 32, .inl fp)), (v, .inr (3, [.ref va, .ref vb, .int (nI n_23)])), (va, .inl (cI, 48, .inl fa_23)), (vb, .inl (cI, 48, .inl fb_23))] [(v, .inr (3, [.ref va, .ref vb, .int (nI n_23)])), (va, .inl (cI, 48, .inl fa_23)), (vb, .inl (cI, 48, .inl fb_23))] [(re, .inr (5, [.ref rp])), (rp, .inl (cI, 32, .inl fp))] [2, 3, 4] [0, 1] := ⟨rfl, rfl, rfl, rfl, by decide⟩
        refine goI0 (trV (As := [.int (nI (rootN (sq * 65536)))]) (rest := []) ⟨hx, hb, hml, hown, hts⟩ gd_good (c_Va_push l D cB cI cJ v va vb n_23 fa_23 fb_23 (nI (rootN (sq * 65536))) (by omega) ) cal_Va_push ml_Re_47 ⟨Nat.le_of_ble_eq_true rfl, Nat.le_of_ble_eq_true rfl⟩ hZ hP hD hC 2 (ci := 3) rfl rfl rfl rfl hl.1 rfl (Nat.le_of_ble_eq_true rfl) d_Re_ofOne_156 ⟨Nat.le_of_ble_eq_true rfl, Nat.le_of_ble_eq_true rfl⟩) hZ hP hD hS hC (fun r_156 w1 H locs hq hP hD hS => ?_)
        obtain ⟨n_156, fa_156, fb_156, rfl, hv0_156, hx_156⟩ := hq
        have hP : va_P D classes [(re, .inr (5, [.ref rp])), (rp, .inl (cI, 32, .inl fp)), (v, .inr (3, [.ref va, .ref vb, .int (nI n_156)])), (va, .inl (cI, 48, .inl fa_156)), (vb, .inl (cI, 48, .inl fb_156))] H := hP
        have hD : va_D A_ [(re, .inr (5, [.ref rp])), (rp, .inl (cI, 32, .inl fp)), (v, .inr (3, [.ref va, .ref vb, .int (nI n_156)])), (va, .inl (cI, 48, .inl fa_156)), (vb, .inl (cI, 48, .inl fb_156))] := hD
        exact t_iret hx hb hr hlk d_Re_ofOne_159 (hP.subm (ws' := [(re, .inr (5, [.ref rp])), (rp, .inl (cI, 32, .inl fp)), (v, .inr (3, [.ref va, .ref vb, .int (nI n_156)])), (va, .inl (cI, 48, .inl fa_156)), (vb, .inl (cI, 48, .inl fb_156))]) [0, 1, 2, 3, 4] rfl) (hD.sub (ws' := [(re, .inr (5, [.ref rp])), (rp, .inl (cI, 32, .inl fp)), (v, .inr (3, [.ref va, .ref vb, .int (nI n_156)])), (va, .inl (cI, 48, .inl fa_156)), (vb, .inl (cI, 48, .inl fb_156))]) [0, 1, 2, 3, 4] rfl rfl) hS ⟨_, rfl, rfl, rfl, _, _, _, rfl, (by omega), (by rw [one_282, ← hx_23.1, ← hx_23.2, if_neg (Int32.not_lt.mpr c_138), esq, nI_clamp hsq]; exact hx_156)⟩
      · refine lv_bipush (v := (-10)) hx hb d_Re_ofOne_141 (by decide) ?_
        refine lv_goto (tgt := 159) hx hb d_Re_ofOne_143 (by decide) ?_
        exact t_iret hx hb hr hlk d_Re_ofOne_159 (hP.subm (ws' := [(re, .inr (5, [.ref rp])), (rp, .inl (cI, 32, .inl fp)), (v, .inr (3, [.ref va, .ref vb, .int (nI n_23)])), (va, .inl (cI, 48, .inl fa_23)), (vb, .inl (cI, 48, .inl fb_23))]) [0, 1, 2, 3, 4] rfl) (hD.sub (ws' := [(re, .inr (5, [.ref rp])), (rp, .inl (cI, 32, .inl fp)), (v, .inr (3, [.ref va, .ref vb, .int (nI n_23)])), (va, .inl (cI, 48, .inl fa_23)), (vb, .inl (cI, 48, .inl fb_23))]) [0, 1, 2, 3, 4] rfl rfl) hS ⟨_, rfl, rfl, rfl, _, _, _, rfl, (by omega), (by rw [one_282, ← hx_23.1, ← hx_23.2, if_pos (Int32.not_le.mp c_138)]; exact pR_no (by decide) (by decide) _)⟩
    by_cases h_28_285 : c = 285
    · subst h_28_285
      refine lv_lookup (tgt := 160) (off := 132) hx hb d_Re_ofOne_28 (by decide) (by first | rfl | decide) (by decide) ?_
      refine lv_iload_n hx hb d_Re_ofOne_160 rfl (lv_at hl 0 rfl) ?_
      refine lv_bipush (v := 16) hx hb d_Re_ofOne_161 (by decide) ?_
      refine lv_ishr hx hb d_Re_ofOne_163 ?_
      refine lv_iconst (v := 0) hx hb d_Re_ofOne_164 (by decide) ?_
      refine roS (As := [.int (r_23 >>> (16 &&& 31)), .int 0]) (rest := []) ⟨hx, hb, hml, hown, hts⟩ gd_good (c_Math_max l D cB cI cJ (r_23 >>> (16 &&& 31)) 0) cal_Math_max ml_Re_66 ⟨Nat.le_of_ble_eq_true rfl, Nat.le_of_ble_eq_true rfl⟩ hZ hP hD (isC := []) ⟨rfl, rfl⟩ rfl hl.1 rfl (Nat.le_of_ble_eq_true rfl) d_Re_ofOne_165 ⟨Nat.le_of_ble_eq_true rfl, Nat.le_of_ble_eq_true rfl⟩ (fun v hv => ?_)
      subst hv
      obtain ⟨ix, hix, eix⟩ := nI_of (iMax_nn (r_23 >>> (16 &&& 31)))
      refine lv_tv (y := nI ix) eix ?_
      refine lv_aload_n hx hb d_Re_ofOne_168 rfl (lv_at hl 3 rfl) ?_
      have hC : Cut [(re, .inr (5, [.ref rp])), (rp, .inl (cI, 32, .inl fp)), (v, .inr (3, [.ref va, .ref vb, .int (nI n_23)])), (va, .inl (cI, 48, .inl fa_23)), (vb, .inl (cI, 48, .inl fb_23))] [(v, .inr (3, [.ref va, .ref vb, .int (nI n_23)])), (va, .inl (cI, 48, .inl fa_23)), (vb, .inl (cI, 48, .inl fb_23))] [(re, .inr (5, [.ref rp])), (rp, .inl (cI, 32, .inl fp))] [2, 3, 4] [0, 1] := ⟨rfl, rfl, rfl, rfl, by decide⟩
      refine goI0 (trS (As := [.int (nI ix), .ref v]) (rest := []) ⟨hx, hb, hml, hown, hts⟩ gd_good (c_Re_copyBelow l D cB cI cJ v va vb n_23 fa_23 fb_23 ix (by omega) (by omega)) cal_Re_copyBelow ml_Re_72 ⟨Nat.le_of_ble_eq_true rfl, Nat.le_of_ble_eq_true rfl⟩ hZ hP hD hC rfl hl.1 rfl (Nat.le_of_ble_eq_true rfl) d_Re_ofOne_169 ⟨Nat.le_of_ble_eq_true rfl, Nat.le_of_ble_eq_true rfl⟩) hZ hP hD hS hC (fun r_169 w1 H locs hq hP hD hS => ?_)
      obtain ⟨n_169, fa_169, fb_169, rfl, hv0_169, hx_169⟩ := hq
      have hP : va_P D classes [(re, .inr (5, [.ref rp])), (rp, .inl (cI, 32, .inl fp)), (v, .inr (3, [.ref va, .ref vb, .int (nI n_169)])), (va, .inl (cI, 48, .inl fa_169)), (vb, .inl (cI, 48, .inl fb_169))] H := hP
      have hD : va_D A_ [(re, .inr (5, [.ref rp])), (rp, .inl (cI, 32, .inl fp)), (v, .inr (3, [.ref va, .ref vb, .int (nI n_169)])), (va, .inl (cI, 48, .inl fa_169)), (vb, .inl (cI, 48, .inl fb_169))] := hD
      exact t_iret hx hb hr hlk d_Re_ofOne_172 (hP.subm (ws' := [(re, .inr (5, [.ref rp])), (rp, .inl (cI, 32, .inl fp)), (v, .inr (3, [.ref va, .ref vb, .int (nI n_169)])), (va, .inl (cI, 48, .inl fa_169)), (vb, .inl (cI, 48, .inl fb_169))]) [0, 1, 2, 3, 4] rfl) (hD.sub (ws' := [(re, .inr (5, [.ref rp])), (rp, .inl (cI, 32, .inl fp)), (v, .inr (3, [.ref va, .ref vb, .int (nI n_169)])), (va, .inl (cI, 48, .inl fa_169)), (vb, .inl (cI, 48, .inl fb_169))]) [0, 1, 2, 3, 4] rfl rfl) hS ⟨_, rfl, rfl, rfl, _, _, _, rfl, (by omega), (by rw [one_285, ← hx_23.1, ← hx_23.2]; show _ = gP (belowP (iMax (r_23 >>> (16 &&& 31)) 0) _); rw [eix]; exact hx_169)⟩
    have gh_28_261 : ¬ nI c = 261 := fun z => h_28_261 ((nI_eq (a := c) (b := 261) (by omega) (by omega)).mp z)
    have gh_28_265 : ¬ nI c = 265 := fun z => h_28_265 ((nI_eq (a := c) (b := 265) (by omega) (by omega)).mp z)
    have gh_28_270 : ¬ nI c = 270 := fun z => h_28_270 ((nI_eq (a := c) (b := 270) (by omega) (by omega)).mp z)
    have gh_28_277 : ¬ nI c = 277 := fun z => h_28_277 ((nI_eq (a := c) (b := 277) (by omega) (by omega)).mp z)
    have gh_28_282 : ¬ nI c = 282 := fun z => h_28_282 ((nI_eq (a := c) (b := 282) (by omega) (by omega)).mp z)
    have gh_28_285 : ¬ nI c = 285 := fun z => h_28_285 ((nI_eq (a := c) (b := 285) (by omega) (by omega)).mp z)
    refine lv_lookup (tgt := 173) (off := 145) hx hb d_Re_ofOne_28 (by decide) (by show Op.lookupswitch.offset _ _ _ = _; first | (rw [lv_osw gh_28_261 (by decide), lv_osw gh_28_265 (by decide), lv_osw gh_28_270 (by decide), lv_osw gh_28_277 (by decide), lv_osw gh_28_282 (by decide), lv_osw gh_28_285 (by decide)]; done) | (rw [lv_osw gh_28_261 (by decide), lv_osw gh_28_265 (by decide), lv_osw gh_28_270 (by decide), lv_osw gh_28_277 (by decide), lv_osw gh_28_282 (by decide), lv_osw gh_28_285 (by decide)]; rfl)) (by decide) ?_
    clear gh_28_261
    clear gh_28_265
    clear gh_28_270
    clear gh_28_277
    clear gh_28_282
    clear gh_28_285
    refine lv_iconst (v := 0) hx hb d_Re_ofOne_173 (by decide) ?_
    exact t_iret hx hb hr hlk d_Re_ofOne_174 (hP.subm (ws' := [(re, .inr (5, [.ref rp])), (rp, .inl (cI, 32, .inl fp)), (v, .inr (3, [.ref va, .ref vb, .int (nI n_23)])), (va, .inl (cI, 48, .inl fa_23)), (vb, .inl (cI, 48, .inl fb_23))]) [0, 1, 2, 3, 4] rfl) (hD.sub (ws' := [(re, .inr (5, [.ref rp])), (rp, .inl (cI, 32, .inl fp)), (v, .inr (3, [.ref va, .ref vb, .int (nI n_23)])), (va, .inl (cI, 48, .inl fa_23)), (vb, .inl (cI, 48, .inl fb_23))]) [0, 1, 2, 3, 4] rfl rfl) hS ⟨_, rfl, rfl, rfl, _, _, _, rfl, (by omega), (by rw [one_els (by omega), ← hx_23.2]; exact pR_0 _)⟩
  · have n_4 : (c) = (283) := (nI_eq (a := c) (b := 283) (by omega) (by omega)).mp c_4
    refine lv_aload_n hx hb d_Re_ofOne_7 rfl (lv_at hl 2 rfl) ?_
    refine lv_aload_n hx hb d_Re_ofOne_8 rfl (lv_at hl 2 rfl) ?_
    refine lv_aload_n hx hb d_Re_ofOne_9 rfl (lv_at hl 2 rfl) ?_
    refine roV (As := []) (rest := [.ref v, .ref v]) ⟨hx, hb, hml, hown, hts⟩ gd_good (c_Va_size l D cB cI cJ v va vb n) cal_Va_size ml_Re_25 ⟨Nat.le_of_ble_eq_true rfl, Nat.le_of_ble_eq_true rfl⟩ hZ hP hD (isC := [2]) ⟨rfl, rfl⟩ 2 (ci := 3) rfl rfl rfl rfl hl.1 rfl (Nat.le_of_ble_eq_true rfl) d_Re_ofOne_10 ⟨Nat.le_of_ble_eq_true rfl, Nat.le_of_ble_eq_true rfl⟩ (fun v hv => ?_)
    subst hv
    refine lv_iconst (v := 1) hx hb d_Re_ofOne_13 (by decide) ?_
    refine lv_isub hx hb d_Re_ofOne_14 ?_
    refine lv_tv (y := nI (n - 1)) (pk_sub (a := n) (b := 1) (by omega)) ?_
    refine roV (As := [.int (nI (n - 1))]) (rest := [.ref v]) ⟨hx, hb, hml, hown, hts⟩ gd_good (c_Va_at l D cB cI cJ v va vb n fa (nI (n - 1)) (by omega)) cal_Va_at ml_Re_44 ⟨Nat.le_of_ble_eq_true rfl, Nat.le_of_ble_eq_true rfl⟩ hZ hP hD (isC := [2, 3]) ⟨rfl, rfl⟩ 2 (ci := 3) rfl rfl rfl rfl hl.1 rfl (Nat.le_of_ble_eq_true rfl) d_Re_ofOne_15 ⟨Nat.le_of_ble_eq_true rfl, Nat.le_of_ble_eq_true rfl⟩ (fun v hv => ?_)
    have hv : v = .int (trunc n fa (n - 1)) := hv.trans (congrArg Value.int (atV_N (j := n - 1) (by omega) (by omega)))
    subst hv
    have hC : Cut [(re, .inr (5, [.ref rp])), (rp, .inl (cI, 32, .inl fp)), (v, .inr (3, [.ref va, .ref vb, .int (nI n)])), (va, .inl (cI, 48, .inl fa)), (vb, .inl (cI, 48, .inl fb))] [(v, .inr (3, [.ref va, .ref vb, .int (nI n)])), (va, .inl (cI, 48, .inl fa)), (vb, .inl (cI, 48, .inl fb))] [(re, .inr (5, [.ref rp])), (rp, .inl (cI, 32, .inl fp))] [2, 3, 4] [0, 1] := ⟨rfl, rfl, rfl, rfl, by decide⟩
    refine goI0 (trV (As := [.int (trunc n fa (n - 1))]) (rest := []) ⟨hx, hb, hml, hown, hts⟩ gd_good (c_Va_push l D cB cI cJ v va vb n fa fb (trunc n fa (n - 1)) (by omega) ) cal_Va_push ml_Re_47 ⟨Nat.le_of_ble_eq_true rfl, Nat.le_of_ble_eq_true rfl⟩ hZ hP hD hC 2 (ci := 3) rfl rfl rfl rfl hl.1 rfl (Nat.le_of_ble_eq_true rfl) d_Re_ofOne_18 ⟨Nat.le_of_ble_eq_true rfl, Nat.le_of_ble_eq_true rfl⟩) hZ hP hD hS hC (fun r_18 w1 H locs hq hP hD hS => ?_)
    obtain ⟨n_18, fa_18, fb_18, rfl, hv0_18, hx_18⟩ := hq
    have hP : va_P D classes [(re, .inr (5, [.ref rp])), (rp, .inl (cI, 32, .inl fp)), (v, .inr (3, [.ref va, .ref vb, .int (nI n_18)])), (va, .inl (cI, 48, .inl fa_18)), (vb, .inl (cI, 48, .inl fb_18))] H := hP
    have hD : va_D A_ [(re, .inr (5, [.ref rp])), (rp, .inl (cI, 32, .inl fp)), (v, .inr (3, [.ref va, .ref vb, .int (nI n_18)])), (va, .inl (cI, 48, .inl fa_18)), (vb, .inl (cI, 48, .inl fb_18))] := hD
    exact t_iret hx hb hr hlk d_Re_ofOne_21 (hP.subm (ws' := [(re, .inr (5, [.ref rp])), (rp, .inl (cI, 32, .inl fp)), (v, .inr (3, [.ref va, .ref vb, .int (nI n_18)])), (va, .inl (cI, 48, .inl fa_18)), (vb, .inl (cI, 48, .inl fb_18))]) [0, 1, 2, 3, 4] rfl) (hD.sub (ws' := [(re, .inr (5, [.ref rp])), (rp, .inl (cI, 32, .inl fp)), (v, .inr (3, [.ref va, .ref vb, .int (nI n_18)])), (va, .inl (cI, 48, .inl fa_18)), (vb, .inl (cI, 48, .inl fb_18))]) [0, 1, 2, 3, 4] rfl rfl) hS ⟨_, rfl, rfl, rfl, _, _, _, rfl, (by omega), (by rw [n_4, one_283]; exact hx_18)⟩
set_option maxHeartbeats 1000000 in
set_option maxRecDepth 100000 in
theorem c_Re_ofTwo (l : Launch) (D : va_G) (cB cI cJ : ClassId) (re rp v va vb : Nat) (fp : Nat → Int32) (n : Nat) (fa : Nat → Int32) (fb : Nat → Int32) (c : Nat) (hiVa : n ≤ 48) (hc : c ≤ 511) (hn2 : 2 ≤ n) : Tr l D classes (TY cB cI cJ) gd_tbl nx_tbl y_Re_ofTwo b_Re_ofTwo 5 (some .int) ({ frames := 3, cells := 0, slots := 0, locals := 63 }) [.ref re, .int (nI c), .ref v] [(re, .inr (5, [.ref rp])), (rp, .inl (cI, 32, .inl fp)), (v, .inr (3, [.ref va, .ref vb, .int (nI n)])), (va, .inl (cI, 48, .inl fa)), (vb, .inl (cI, 48, .inl fb))] (pI0 (fun r w => ∃ (fp' : Nat → Int32) (n' : Nat) (fa' : Nat → Int32) (fb' : Nat → Int32), w = [(re, .inr (5, [.ref rp])), (rp, .inl (cI, 32, .inl fp')), (v, .inr (3, [.ref va, .ref vb, .int (nI n')])), (va, .inl (cI, 48, .inl fa')), (vb, .inl (cI, 48, .inl fb'))] ∧ (n' ≤ 48) ∧ (qR r (vS n' fa', trunc 32 fp') = gP (twoP c (vS n fa) (trunc 32 fp))))) := by
  refine Tr.intro (by decide +kernel) nx_ok (Nat.le_of_ble_eq_true rfl) ?_
  intro p_ e_ s_ m_ args_ below_ meth_ c_ A_ ls hx hb hml hown hts hr hlk hnm hZ hP hD hS hl
  have hl : lv_has ls 5 [(0, .ref re), (1, .int (nI c)), (2, .ref v)] := hl
  refine lv_aload_n hx hb d_Re_ofTwo_0 rfl (lv_at hl 2 rfl) ?_
  have hC : Cut [(re, .inr (5, [.ref rp])), (rp, .inl (cI, 32, .inl fp)), (v, .inr (3, [.ref va, .ref vb, .int (nI n)])), (va, .inl (cI, 48, .inl fa)), (vb, .inl (cI, 48, .inl fb))] [(v, .inr (3, [.ref va, .ref vb, .int (nI n)])), (va, .inl (cI, 48, .inl fa)), (vb, .inl (cI, 48, .inl fb))] [(re, .inr (5, [.ref rp])), (rp, .inl (cI, 32, .inl fp))] [2, 3, 4] [0, 1] := ⟨rfl, rfl, rfl, rfl, by decide⟩
  refine goI0 (trV (As := []) (rest := []) ⟨hx, hb, hml, hown, hts⟩ gd_good (c_Va_pop l D cB cI cJ v va vb n fa fb (by omega) ) cal_Va_pop ml_Re_50 ⟨Nat.le_of_ble_eq_true rfl, Nat.le_of_ble_eq_true rfl⟩ hZ hP hD hC 2 (ci := 3) rfl rfl rfl rfl hl.1 rfl (Nat.le_of_ble_eq_true rfl) d_Re_ofTwo_1 ⟨Nat.le_of_ble_eq_true rfl, Nat.le_of_ble_eq_true rfl⟩) hZ hP hD hS hC (fun r_1 w1 H locs hq hP hD hS => ?_)
  obtain ⟨n_1, fa_1, fb_1, rfl, hv0_1, hx_1⟩ := hq
  have hP : va_P D classes [(re, .inr (5, [.ref rp])), (rp, .inl (cI, 32, .inl fp)), (v, .inr (3, [.ref va, .ref vb, .int (nI n_1)])), (va, .inl (cI, 48, .inl fa_1)), (vb, .inl (cI, 48, .inl fb_1))] H := hP
  have hD : va_D A_ [(re, .inr (5, [.ref rp])), (rp, .inl (cI, 32, .inl fp)), (v, .inr (3, [.ref va, .ref vb, .int (nI n_1)])), (va, .inl (cI, 48, .inl fa_1)), (vb, .inl (cI, 48, .inl fb_1))] := hD
  refine lv_istore_n (lv' := [(3, .int r_1), (0, .ref re), (1, .int (nI c)), (2, .ref v)]) hx hb d_Re_ofTwo_4 rfl hl (by decide) rfl (fun ls hl => ?_)
  refine lv_aload_n hx hb d_Re_ofTwo_5 rfl (lv_at hl 3 rfl) ?_
  have hC : Cut [(re, .inr (5, [.ref rp])), (rp, .inl (cI, 32, .inl fp)), (v, .inr (3, [.ref va, .ref vb, .int (nI n_1)])), (va, .inl (cI, 48, .inl fa_1)), (vb, .inl (cI, 48, .inl fb_1))] [(v, .inr (3, [.ref va, .ref vb, .int (nI n_1)])), (va, .inl (cI, 48, .inl fa_1)), (vb, .inl (cI, 48, .inl fb_1))] [(re, .inr (5, [.ref rp])), (rp, .inl (cI, 32, .inl fp))] [2, 3, 4] [0, 1] := ⟨rfl, rfl, rfl, rfl, by decide⟩
  refine goI0 (trV (As := []) (rest := []) ⟨hx, hb, hml, hown, hts⟩ gd_good (c_Va_pop l D cB cI cJ v va vb n_1 fa_1 fb_1 (by omega) ) cal_Va_pop ml_Re_50 ⟨Nat.le_of_ble_eq_true rfl, Nat.le_of_ble_eq_true rfl⟩ hZ hP hD hC 2 (ci := 3) rfl rfl rfl rfl hl.1 rfl (Nat.le_of_ble_eq_true rfl) d_Re_ofTwo_6 ⟨Nat.le_of_ble_eq_true rfl, Nat.le_of_ble_eq_true rfl⟩) hZ hP hD hS hC (fun r_6 w1 H locs hq hP hD hS => ?_)
  obtain ⟨n_6, fa_6, fb_6, rfl, hv0_6, hx_6⟩ := hq
  have hP : va_P D classes [(re, .inr (5, [.ref rp])), (rp, .inl (cI, 32, .inl fp)), (v, .inr (3, [.ref va, .ref vb, .int (nI n_6)])), (va, .inl (cI, 48, .inl fa_6)), (vb, .inl (cI, 48, .inl fb_6))] H := hP
  have hD : va_D A_ [(re, .inr (5, [.ref rp])), (rp, .inl (cI, 32, .inl fp)), (v, .inr (3, [.ref va, .ref vb, .int (nI n_6)])), (va, .inl (cI, 48, .inl fa_6)), (vb, .inl (cI, 48, .inl fb_6))] := hD
  refine lv_istore (lv' := [(4, .int r_6), (3, .int r_1), (0, .ref re), (1, .int (nI c)), (2, .ref v)]) hx hb d_Re_ofTwo_9 hl (by decide) rfl (fun ls hl => ?_)
  refine lv_iload_n hx hb d_Re_ofTwo_11 rfl (lv_at hl 3 rfl) ?_
  by_cases h_12_259 : c = 259
  · subst h_12_259
    refine lv_tableIn (tgt := 132) hx hb d_Re_ofTwo_12 (by decide) (by decide) (by rfl) (by decide) ?_
    refine lv_aload_n hx hb d_Re_ofTwo_132 rfl (lv_at hl 4 rfl) ?_
    refine lv_iload hx hb d_Re_ofTwo_133 (lv_at hl 0 rfl) ?_
    refine lv_if_eq (tgt := 146) hx hb d_Re_ofTwo_135 (by decide) (fun c_135 => ?_) (fun c_135 => ?_)
    · refine lv_iconst (v := 0) hx hb d_Re_ofTwo_146 (by decide) ?_
      refine roS (As := [.int 0]) (rest := [.ref v]) ⟨hx, hb, hml, hown, hts⟩ gd_good (c_Re_truth l D cB cI cJ 0) cal_Re_truth ml_Re_53 ⟨Nat.le_of_ble_eq_true rfl, Nat.le_of_ble_eq_true rfl⟩ hZ hP hD (isC := []) ⟨rfl, rfl⟩ rfl hl.1 rfl (Nat.le_of_ble_eq_true rfl) d_Re_ofTwo_147 ⟨Nat.le_of_ble_eq_true rfl, Nat.le_of_ble_eq_true rfl⟩ (fun v hv => ?_)
      have hv : v = .int 0 := hv
      subst hv
      have hC : Cut [(re, .inr (5, [.ref rp])), (rp, .inl (cI, 32, .inl fp)), (v, .inr (3, [.ref va, .ref vb, .int (nI n_6)])), (va, .inl (cI, 48, .inl fa_6)), (vb, .inl (cI, 48, .inl fb_6))] [(v, .inr (3, [.ref va, .ref vb, .int (nI n_6)])), (va, .inl (cI, 48, .inl fa_6)), (vb, .inl (cI, 48, .inl fb_6))] [(re, .inr (5, [.ref rp])), (rp, .inl (cI, 32, .inl fp))] [2, 3, 4] [0, 1] := ⟨rfl, rfl, rfl, rfl, by decide⟩
      refine goI0 (trV (As := [.int 0]) (rest := []) ⟨hx, hb, hml, hown, hts⟩ gd_good (c_Va_push l D cB cI cJ v va vb n_6 fa_6 fb_6 0 (by omega) ) cal_Va_push ml_Re_47 ⟨Nat.le_of_ble_eq_true rfl, Nat.le_of_ble_eq_true rfl⟩ hZ hP hD hC 2 (ci := 3) rfl rfl rfl rfl hl.1 rfl (Nat.le_of_ble_eq_true rfl) d_Re_ofTwo_150 ⟨Nat.le_of_ble_eq_true rfl, Nat.le_of_ble_eq_true rfl⟩) hZ hP hD hS hC (fun r_150 w1 H locs hq hP hD hS => ?_)
      obtain ⟨n_150, fa_150, fb_150, rfl, hv0_150, hx_150⟩ := hq
      have hP : va_P D classes [(re, .inr (5, [.ref rp])), (rp, .inl (cI, 32, .inl fp)), (v, .inr (3, [.ref va, .ref vb, .int (nI n_150)])), (va, .inl (cI, 48, .inl fa_150)), (vb, .inl (cI, 48, .inl fb_150))] H := hP
      have hD : va_D A_ [(re, .inr (5, [.ref rp])), (rp, .inl (cI, 32, .inl fp)), (v, .inr (3, [.ref va, .ref vb, .int (nI n_150)])), (va, .inl (cI, 48, .inl fa_150)), (vb, .inl (cI, 48, .inl fb_150))] := hD
      exact t_iret hx hb hr hlk d_Re_ofTwo_153 (hP.subm (ws' := [(re, .inr (5, [.ref rp])), (rp, .inl (cI, 32, .inl fp)), (v, .inr (3, [.ref va, .ref vb, .int (nI n_150)])), (va, .inl (cI, 48, .inl fa_150)), (vb, .inl (cI, 48, .inl fb_150))]) [0, 1, 2, 3, 4] rfl) (hD.sub (ws' := [(re, .inr (5, [.ref rp])), (rp, .inl (cI, 32, .inl fp)), (v, .inr (3, [.ref va, .ref vb, .int (nI n_150)])), (va, .inl (cI, 48, .inl fa_150)), (vb, .inl (cI, 48, .inl fb_150))]) [0, 1, 2, 3, 4] rfl rfl) hS ⟨_, rfl, rfl, rfl, _, _, _, _, rfl, (by omega), (by rw [t_259, ← hx_1.1, ← hx_1.2, ← hx_6.1, ← hx_6.2, if_pos c_135]; exact pR_map (fun q => (q, trunc 32 fp)) hx_150)⟩
    · refine lv_iload_n hx hb d_Re_ofTwo_138 rfl (lv_at hl 1 rfl) ?_
      refine lv_if_eq (tgt := 146) hx hb d_Re_ofTwo_139 (by decide) (fun c_139 => ?_) (fun c_139 => ?_)
      · refine lv_iconst (v := 0) hx hb d_Re_ofTwo_146 (by decide) ?_
        refine roS (As := [.int 0]) (rest := [.ref v]) ⟨hx, hb, hml, hown, hts⟩ gd_good (c_Re_truth l D cB cI cJ 0) cal_Re_truth ml_Re_53 ⟨Nat.le_of_ble_eq_true rfl, Nat.le_of_ble_eq_true rfl⟩ hZ hP hD (isC := []) ⟨rfl, rfl⟩ rfl hl.1 rfl (Nat.le_of_ble_eq_true rfl) d_Re_ofTwo_147 ⟨Nat.le_of_ble_eq_true rfl, Nat.le_of_ble_eq_true rfl⟩ (fun v hv => ?_)
        have hv : v = .int 0 := hv
        subst hv
        have hC : Cut [(re, .inr (5, [.ref rp])), (rp, .inl (cI, 32, .inl fp)), (v, .inr (3, [.ref va, .ref vb, .int (nI n_6)])), (va, .inl (cI, 48, .inl fa_6)), (vb, .inl (cI, 48, .inl fb_6))] [(v, .inr (3, [.ref va, .ref vb, .int (nI n_6)])), (va, .inl (cI, 48, .inl fa_6)), (vb, .inl (cI, 48, .inl fb_6))] [(re, .inr (5, [.ref rp])), (rp, .inl (cI, 32, .inl fp))] [2, 3, 4] [0, 1] := ⟨rfl, rfl, rfl, rfl, by decide⟩
        refine goI0 (trV (As := [.int 0]) (rest := []) ⟨hx, hb, hml, hown, hts⟩ gd_good (c_Va_push l D cB cI cJ v va vb n_6 fa_6 fb_6 0 (by omega) ) cal_Va_push ml_Re_47 ⟨Nat.le_of_ble_eq_true rfl, Nat.le_of_ble_eq_true rfl⟩ hZ hP hD hC 2 (ci := 3) rfl rfl rfl rfl hl.1 rfl (Nat.le_of_ble_eq_true rfl) d_Re_ofTwo_150 ⟨Nat.le_of_ble_eq_true rfl, Nat.le_of_ble_eq_true rfl⟩) hZ hP hD hS hC (fun r_150 w1 H locs hq hP hD hS => ?_)
        obtain ⟨n_150, fa_150, fb_150, rfl, hv0_150, hx_150⟩ := hq
        have hP : va_P D classes [(re, .inr (5, [.ref rp])), (rp, .inl (cI, 32, .inl fp)), (v, .inr (3, [.ref va, .ref vb, .int (nI n_150)])), (va, .inl (cI, 48, .inl fa_150)), (vb, .inl (cI, 48, .inl fb_150))] H := hP
        have hD : va_D A_ [(re, .inr (5, [.ref rp])), (rp, .inl (cI, 32, .inl fp)), (v, .inr (3, [.ref va, .ref vb, .int (nI n_150)])), (va, .inl (cI, 48, .inl fa_150)), (vb, .inl (cI, 48, .inl fb_150))] := hD
        exact t_iret hx hb hr hlk d_Re_ofTwo_153 (hP.subm (ws' := [(re, .inr (5, [.ref rp])), (rp, .inl (cI, 32, .inl fp)), (v, .inr (3, [.ref va, .ref vb, .int (nI n_150)])), (va, .inl (cI, 48, .inl fa_150)), (vb, .inl (cI, 48, .inl fb_150))]) [0, 1, 2, 3, 4] rfl) (hD.sub (ws' := [(re, .inr (5, [.ref rp])), (rp, .inl (cI, 32, .inl fp)), (v, .inr (3, [.ref va, .ref vb, .int (nI n_150)])), (va, .inl (cI, 48, .inl fa_150)), (vb, .inl (cI, 48, .inl fb_150))]) [0, 1, 2, 3, 4] rfl rfl) hS ⟨_, rfl, rfl, rfl, _, _, _, _, rfl, (by omega), (by rw [t_259, ← hx_1.1, ← hx_1.2, ← hx_6.1, ← hx_6.2, if_neg c_135, if_pos c_139]; exact pR_map (fun q => (q, trunc 32 fp)) hx_150)⟩
      · refine lv_iconst (v := 1) hx hb d_Re_ofTwo_142 (by decide) ?_
        refine lv_goto (tgt := 147) hx hb d_Re_ofTwo_143 (by decide) ?_
        refine roS (As := [.int 1]) (rest := [.ref v]) ⟨hx, hb, hml, hown, hts⟩ gd_good (c_Re_truth l D cB cI cJ 1) cal_Re_truth ml_Re_53 ⟨Nat.le_of_ble_eq_true rfl, Nat.le_of_ble_eq_true rfl⟩ hZ hP hD (isC := []) ⟨rfl, rfl⟩ rfl hl.1 rfl (Nat.le_of_ble_eq_true rfl) d_Re_ofTwo_147 ⟨Nat.le_of_ble_eq_true rfl, Nat.le_of_ble_eq_true rfl⟩ (fun v hv => ?_)
        have hv : v = .int 65536 := hv
        subst hv
        have hC : Cut [(re, .inr (5, [.ref rp])), (rp, .inl (cI, 32, .inl fp)), (v, .inr (3, [.ref va, .ref vb, .int (nI n_6)])), (va, .inl (cI, 48, .inl fa_6)), (vb, .inl (cI, 48, .inl fb_6))] [(v, .inr (3, [.ref va, .ref vb, .int (nI n_6)])), (va, .inl (cI, 48, .inl fa_6)), (vb, .inl (cI, 48, .inl fb_6))] [(re, .inr (5, [.ref rp])), (rp, .inl (cI, 32, .inl fp))] [2, 3, 4] [0, 1] := ⟨rfl, rfl, rfl, rfl, by decide⟩
        refine goI0 (trV (As := [.int 65536]) (rest := []) ⟨hx, hb, hml, hown, hts⟩ gd_good (c_Va_push l D cB cI cJ v va vb n_6 fa_6 fb_6 65536 (by omega) ) cal_Va_push ml_Re_47 ⟨Nat.le_of_ble_eq_true rfl, Nat.le_of_ble_eq_true rfl⟩ hZ hP hD hC 2 (ci := 3) rfl rfl rfl rfl hl.1 rfl (Nat.le_of_ble_eq_true rfl) d_Re_ofTwo_150 ⟨Nat.le_of_ble_eq_true rfl, Nat.le_of_ble_eq_true rfl⟩) hZ hP hD hS hC (fun r_150 w1 H locs hq hP hD hS => ?_)
        obtain ⟨n_150, fa_150, fb_150, rfl, hv0_150, hx_150⟩ := hq
        have hP : va_P D classes [(re, .inr (5, [.ref rp])), (rp, .inl (cI, 32, .inl fp)), (v, .inr (3, [.ref va, .ref vb, .int (nI n_150)])), (va, .inl (cI, 48, .inl fa_150)), (vb, .inl (cI, 48, .inl fb_150))] H := hP
        have hD : va_D A_ [(re, .inr (5, [.ref rp])), (rp, .inl (cI, 32, .inl fp)), (v, .inr (3, [.ref va, .ref vb, .int (nI n_150)])), (va, .inl (cI, 48, .inl fa_150)), (vb, .inl (cI, 48, .inl fb_150))] := hD
        exact t_iret hx hb hr hlk d_Re_ofTwo_153 (hP.subm (ws' := [(re, .inr (5, [.ref rp])), (rp, .inl (cI, 32, .inl fp)), (v, .inr (3, [.ref va, .ref vb, .int (nI n_150)])), (va, .inl (cI, 48, .inl fa_150)), (vb, .inl (cI, 48, .inl fb_150))]) [0, 1, 2, 3, 4] rfl) (hD.sub (ws' := [(re, .inr (5, [.ref rp])), (rp, .inl (cI, 32, .inl fp)), (v, .inr (3, [.ref va, .ref vb, .int (nI n_150)])), (va, .inl (cI, 48, .inl fa_150)), (vb, .inl (cI, 48, .inl fb_150))]) [0, 1, 2, 3, 4] rfl rfl) hS ⟨_, rfl, rfl, rfl, _, _, _, _, rfl, (by omega), (by rw [t_259, ← hx_1.1, ← hx_1.2, ← hx_6.1, ← hx_6.2, if_neg c_135, if_neg c_139]; exact pR_map (fun q => (q, trunc 32 fp)) hx_150)⟩
  by_cases h_12_260 : c = 260
  · subst h_12_260
    refine lv_tableIn (tgt := 154) hx hb d_Re_ofTwo_12 (by decide) (by decide) (by rfl) (by decide) ?_
    refine lv_aload_n hx hb d_Re_ofTwo_154 rfl (lv_at hl 4 rfl) ?_
    refine lv_iload hx hb d_Re_ofTwo_155 (lv_at hl 0 rfl) ?_
    refine lv_if_ne (tgt := 164) hx hb d_Re_ofTwo_157 (by decide) (fun c_157 => ?_) (fun c_157 => ?_)
    · refine lv_iconst (v := 1) hx hb d_Re_ofTwo_164 (by decide) ?_
      refine lv_goto (tgt := 169) hx hb d_Re_ofTwo_165 (by decide) ?_
      refine roS (As := [.int 1]) (rest := [.ref v]) ⟨hx, hb, hml, hown, hts⟩ gd_good (c_Re_truth l D cB cI cJ 1) cal_Re_truth ml_Re_53 ⟨Nat.le_of_ble_eq_true rfl, Nat.le_of_ble_eq_true rfl⟩ hZ hP hD (isC := []) ⟨rfl, rfl⟩ rfl hl.1 rfl (Nat.le_of_ble_eq_true rfl) d_Re_ofTwo_169 ⟨Nat.le_of_ble_eq_true rfl, Nat.le_of_ble_eq_true rfl⟩ (fun v hv => ?_)
      have hv : v = .int 65536 := hv
      subst hv
      have hC : Cut [(re, .inr (5, [.ref rp])), (rp, .inl (cI, 32, .inl fp)), (v, .inr (3, [.ref va, .ref vb, .int (nI n_6)])), (va, .inl (cI, 48, .inl fa_6)), (vb, .inl (cI, 48, .inl fb_6))] [(v, .inr (3, [.ref va, .ref vb, .int (nI n_6)])), (va, .inl (cI, 48, .inl fa_6)), (vb, .inl (cI, 48, .inl fb_6))] [(re, .inr (5, [.ref rp])), (rp, .inl (cI, 32, .inl fp))] [2, 3, 4] [0, 1] := ⟨rfl, rfl, rfl, rfl, by decide⟩
      refine goI0 (trV (As := [.int 65536]) (rest := []) ⟨hx, hb, hml, hown, hts⟩ gd_good (c_Va_push l D cB cI cJ v va vb n_6 fa_6 fb_6 65536 (by omega) ) cal_Va_push ml_Re_47 ⟨Nat.le_of_ble_eq_true rfl, Nat.le_of_ble_eq_true rfl⟩ hZ hP hD hC 2 (ci := 3) rfl rfl rfl rfl hl.1 rfl (Nat.le_of_ble_eq_true rfl) d_Re_ofTwo_172 ⟨Nat.le_of_ble_eq_true rfl, Nat.le_of_ble_eq_true rfl⟩) hZ hP hD hS hC (fun r_172 w1 H locs hq hP hD hS => ?_)
      obtain ⟨n_172, fa_172, fb_172, rfl, hv0_172, hx_172⟩ := hq
      have hP : va_P D classes [(re, .inr (5, [.ref rp])), (rp, .inl (cI, 32, .inl fp)), (v, .inr (3, [.ref va, .ref vb, .int (nI n_172)])), (va, .inl (cI, 48, .inl fa_172)), (vb, .inl (cI, 48, .inl fb_172))] H := hP
      have hD : va_D A_ [(re, .inr (5, [.ref rp])), (rp, .inl (cI, 32, .inl fp)), (v, .inr (3, [.ref va, .ref vb, .int (nI n_172)])), (va, .inl (cI, 48, .inl fa_172)), (vb, .inl (cI, 48, .inl fb_172))] := hD
      exact t_iret hx hb hr hlk d_Re_ofTwo_175 (hP.subm (ws' := [(re, .inr (5, [.ref rp])), (rp, .inl (cI, 32, .inl fp)), (v, .inr (3, [.ref va, .ref vb, .int (nI n_172)])), (va, .inl (cI, 48, .inl fa_172)), (vb, .inl (cI, 48, .inl fb_172))]) [0, 1, 2, 3, 4] rfl) (hD.sub (ws' := [(re, .inr (5, [.ref rp])), (rp, .inl (cI, 32, .inl fp)), (v, .inr (3, [.ref va, .ref vb, .int (nI n_172)])), (va, .inl (cI, 48, .inl fa_172)), (vb, .inl (cI, 48, .inl fb_172))]) [0, 1, 2, 3, 4] rfl rfl) hS ⟨_, rfl, rfl, rfl, _, _, _, _, rfl, (by omega), (by rw [t_260, ← hx_1.1, ← hx_1.2, ← hx_6.1, ← hx_6.2, if_neg c_157]; exact pR_map (fun q => (q, trunc 32 fp)) hx_172)⟩
    · refine lv_iload_n hx hb d_Re_ofTwo_160 rfl (lv_at hl 1 rfl) ?_
      refine lv_if_eq (tgt := 168) hx hb d_Re_ofTwo_161 (by decide) (fun c_161 => ?_) (fun c_161 => ?_)
      · refine lv_iconst (v := 0) hx hb d_Re_ofTwo_168 (by decide) ?_
        refine roS (As := [.int 0]) (rest := [.ref v]) ⟨hx, hb, hml, hown, hts⟩ gd_good (c_Re_truth l D cB cI cJ 0) cal_Re_truth ml_Re_53 ⟨Nat.le_of_ble_eq_true rfl, Nat.le_of_ble_eq_true rfl⟩ hZ hP hD (isC := []) ⟨rfl, rfl⟩ rfl hl.1 rfl (Nat.le_of_ble_eq_true rfl) d_Re_ofTwo_169 ⟨Nat.le_of_ble_eq_true rfl, Nat.le_of_ble_eq_true rfl⟩ (fun v hv => ?_)
        have hv : v = .int 0 := hv
        subst hv
        have hC : Cut [(re, .inr (5, [.ref rp])), (rp, .inl (cI, 32, .inl fp)), (v, .inr (3, [.ref va, .ref vb, .int (nI n_6)])), (va, .inl (cI, 48, .inl fa_6)), (vb, .inl (cI, 48, .inl fb_6))] [(v, .inr (3, [.ref va, .ref vb, .int (nI n_6)])), (va, .inl (cI, 48, .inl fa_6)), (vb, .inl (cI, 48, .inl fb_6))] [(re, .inr (5, [.ref rp])), (rp, .inl (cI, 32, .inl fp))] [2, 3, 4] [0, 1] := ⟨rfl, rfl, rfl, rfl, by decide⟩
        refine goI0 (trV (As := [.int 0]) (rest := []) ⟨hx, hb, hml, hown, hts⟩ gd_good (c_Va_push l D cB cI cJ v va vb n_6 fa_6 fb_6 0 (by omega) ) cal_Va_push ml_Re_47 ⟨Nat.le_of_ble_eq_true rfl, Nat.le_of_ble_eq_true rfl⟩ hZ hP hD hC 2 (ci := 3) rfl rfl rfl rfl hl.1 rfl (Nat.le_of_ble_eq_true rfl) d_Re_ofTwo_172 ⟨Nat.le_of_ble_eq_true rfl, Nat.le_of_ble_eq_true rfl⟩) hZ hP hD hS hC (fun r_172 w1 H locs hq hP hD hS => ?_)
        obtain ⟨n_172, fa_172, fb_172, rfl, hv0_172, hx_172⟩ := hq
        have hP : va_P D classes [(re, .inr (5, [.ref rp])), (rp, .inl (cI, 32, .inl fp)), (v, .inr (3, [.ref va, .ref vb, .int (nI n_172)])), (va, .inl (cI, 48, .inl fa_172)), (vb, .inl (cI, 48, .inl fb_172))] H := hP
        have hD : va_D A_ [(re, .inr (5, [.ref rp])), (rp, .inl (cI, 32, .inl fp)), (v, .inr (3, [.ref va, .ref vb, .int (nI n_172)])), (va, .inl (cI, 48, .inl fa_172)), (vb, .inl (cI, 48, .inl fb_172))] := hD
        exact t_iret hx hb hr hlk d_Re_ofTwo_175 (hP.subm (ws' := [(re, .inr (5, [.ref rp])), (rp, .inl (cI, 32, .inl fp)), (v, .inr (3, [.ref va, .ref vb, .int (nI n_172)])), (va, .inl (cI, 48, .inl fa_172)), (vb, .inl (cI, 48, .inl fb_172))]) [0, 1, 2, 3, 4] rfl) (hD.sub (ws' := [(re, .inr (5, [.ref rp])), (rp, .inl (cI, 32, .inl fp)), (v, .inr (3, [.ref va, .ref vb, .int (nI n_172)])), (va, .inl (cI, 48, .inl fa_172)), (vb, .inl (cI, 48, .inl fb_172))]) [0, 1, 2, 3, 4] rfl rfl) hS ⟨_, rfl, rfl, rfl, _, _, _, _, rfl, (by omega), (by rw [t_260, ← hx_1.1, ← hx_1.2, ← hx_6.1, ← hx_6.2, if_pos c_157, if_pos c_161]; exact pR_map (fun q => (q, trunc 32 fp)) hx_172)⟩
      · refine lv_iconst (v := 1) hx hb d_Re_ofTwo_164 (by decide) ?_
        refine lv_goto (tgt := 169) hx hb d_Re_ofTwo_165 (by decide) ?_
        refine roS (As := [.int 1]) (rest := [.ref v]) ⟨hx, hb, hml, hown, hts⟩ gd_good (c_Re_truth l D cB cI cJ 1) cal_Re_truth ml_Re_53 ⟨Nat.le_of_ble_eq_true rfl, Nat.le_of_ble_eq_true rfl⟩ hZ hP hD (isC := []) ⟨rfl, rfl⟩ rfl hl.1 rfl (Nat.le_of_ble_eq_true rfl) d_Re_ofTwo_169 ⟨Nat.le_of_ble_eq_true rfl, Nat.le_of_ble_eq_true rfl⟩ (fun v hv => ?_)
        have hv : v = .int 65536 := hv
        subst hv
        have hC : Cut [(re, .inr (5, [.ref rp])), (rp, .inl (cI, 32, .inl fp)), (v, .inr (3, [.ref va, .ref vb, .int (nI n_6)])), (va, .inl (cI, 48, .inl fa_6)), (vb, .inl (cI, 48, .inl fb_6))] [(v, .inr (3, [.ref va, .ref vb, .int (nI n_6)])), (va, .inl (cI, 48, .inl fa_6)), (vb, .inl (cI, 48, .inl fb_6))] [(re, .inr (5, [.ref rp])), (rp, .inl (cI, 32, .inl fp))] [2, 3, 4] [0, 1] := ⟨rfl, rfl, rfl, rfl, by decide⟩
        refine goI0 (trV (As := [.int 65536]) (rest := []) ⟨hx, hb, hml, hown, hts⟩ gd_good (c_Va_push l D cB cI cJ v va vb n_6 fa_6 fb_6 65536 (by omega) ) cal_Va_push ml_Re_47 ⟨Nat.le_of_ble_eq_true rfl, Nat.le_of_ble_eq_true rfl⟩ hZ hP hD hC 2 (ci := 3) rfl rfl rfl rfl hl.1 rfl (Nat.le_of_ble_eq_true rfl) d_Re_ofTwo_172 ⟨Nat.le_of_ble_eq_true rfl, Nat.le_of_ble_eq_true rfl⟩) hZ hP hD hS hC (fun r_172 w1 H locs hq hP hD hS => ?_)
        obtain ⟨n_172, fa_172, fb_172, rfl, hv0_172, hx_172⟩ := hq
        have hP : va_P D classes [(re, .inr (5, [.ref rp])), (rp, .inl (cI, 32, .inl fp)), (v, .inr (3, [.ref va, .ref vb, .int (nI n_172)])), (va, .inl (cI, 48, .inl fa_172)), (vb, .inl (cI, 48, .inl fb_172))] H := hP
        have hD : va_D A_ [(re, .inr (5, [.ref rp])), (rp, .inl (cI, 32, .inl fp)), (v, .inr (3, [.ref va, .ref vb, .int (nI n_172)])), (va, .inl (cI, 48, .inl fa_172)), (vb, .inl (cI, 48, .inl fb_172))] := hD
        exact t_iret hx hb hr hlk d_Re_ofTwo_175 (hP.subm (ws' := [(re, .inr (5, [.ref rp])), (rp, .inl (cI, 32, .inl fp)), (v, .inr (3, [.ref va, .ref vb, .int (nI n_172)])), (va, .inl (cI, 48, .inl fa_172)), (vb, .inl (cI, 48, .inl fb_172))]) [0, 1, 2, 3, 4] rfl) (hD.sub (ws' := [(re, .inr (5, [.ref rp])), (rp, .inl (cI, 32, .inl fp)), (v, .inr (3, [.ref va, .ref vb, .int (nI n_172)])), (va, .inl (cI, 48, .inl fa_172)), (vb, .inl (cI, 48, .inl fb_172))]) [0, 1, 2, 3, 4] rfl rfl) hS ⟨_, rfl, rfl, rfl, _, _, _, _, rfl, (by omega), (by rw [t_260, ← hx_1.1, ← hx_1.2, ← hx_6.1, ← hx_6.2, if_pos c_157, if_neg c_161]; exact pR_map (fun q => (q, trunc 32 fp)) hx_172)⟩
  by_cases h_12_261 : c = 261
  · subst h_12_261
    refine lv_tableIn (tgt := 279) hx hb d_Re_ofTwo_12 (by decide) (by decide) (by rfl) (by decide) ?_
    refine lv_iload hx hb d_Re_ofTwo_279 (lv_at hl 0 rfl) ?_
    refine lv_bipush (v := 16) hx hb d_Re_ofTwo_281 (by decide) ?_
    refine lv_ishr hx hb d_Re_ofTwo_283 ?_
    refine lv_iload_n hx hb d_Re_ofTwo_284 rfl (lv_at hl 1 rfl) ?_
    refine lv_bipush (v := 16) hx hb d_Re_ofTwo_285 (by decide) ?_
    refine lv_ishr hx hb d_Re_ofTwo_287 ?_
    refine lv_aload_n hx hb d_Re_ofTwo_288 rfl (lv_at hl 4 rfl) ?_
    have hC : Cut [(re, .inr (5, [.ref rp])), (rp, .inl (cI, 32, .inl fp)), (v, .inr (3, [.ref va, .ref vb, .int (nI n_6)])), (va, .inl (cI, 48, .inl fa_6)), (vb, .inl (cI, 48, .inl fb_6))] [(v, .inr (3, [.ref va, .ref vb, .int (nI n_6)])), (va, .inl (cI, 48, .inl fa_6)), (vb, .inl (cI, 48, .inl fb_6))] [(re, .inr (5, [.ref rp])), (rp, .inl (cI, 32, .inl fp))] [2, 3, 4] [0, 1] := ⟨rfl, rfl, rfl, rfl, by decide⟩
    refine goI0 (trS (As := [.int (r_6 >>> (16 &&& 31)), .int (r_1 >>> (16 &&& 31)), .ref v]) (rest := []) ⟨hx, hb, hml, hown, hts⟩ gd_good (c_Re_roll l D cB cI cJ v va vb n_6 fa_6 fb_6 (r_6 >>> (16 &&& 31)) (r_1 >>> (16 &&& 31)) (by omega) ) cal_Re_roll ml_Re_82 ⟨Nat.le_of_ble_eq_true rfl, Nat.le_of_ble_eq_true rfl⟩ hZ hP hD hC rfl hl.1 rfl (Nat.le_of_ble_eq_true rfl) d_Re_ofTwo_289 ⟨Nat.le_of_ble_eq_true rfl, Nat.le_of_ble_eq_true rfl⟩) hZ hP hD hS hC (fun r_289 w1 H locs hq hP hD hS => ?_)
    obtain ⟨n_289, fa_289, fb_289, rfl, hv0_289, hx_289⟩ := hq
    have hP : va_P D classes [(re, .inr (5, [.ref rp])), (rp, .inl (cI, 32, .inl fp)), (v, .inr (3, [.ref va, .ref vb, .int (nI n_289)])), (va, .inl (cI, 48, .inl fa_289)), (vb, .inl (cI, 48, .inl fb_289))] H := hP
    have hD : va_D A_ [(re, .inr (5, [.ref rp])), (rp, .inl (cI, 32, .inl fp)), (v, .inr (3, [.ref va, .ref vb, .int (nI n_289)])), (va, .inl (cI, 48, .inl fa_289)), (vb, .inl (cI, 48, .inl fb_289))] := hD
    exact t_iret hx hb hr hlk d_Re_ofTwo_292 (hP.subm (ws' := [(re, .inr (5, [.ref rp])), (rp, .inl (cI, 32, .inl fp)), (v, .inr (3, [.ref va, .ref vb, .int (nI n_289)])), (va, .inl (cI, 48, .inl fa_289)), (vb, .inl (cI, 48, .inl fb_289))]) [0, 1, 2, 3, 4] rfl) (hD.sub (ws' := [(re, .inr (5, [.ref rp])), (rp, .inl (cI, 32, .inl fp)), (v, .inr (3, [.ref va, .ref vb, .int (nI n_289)])), (va, .inl (cI, 48, .inl fa_289)), (vb, .inl (cI, 48, .inl fb_289))]) [0, 1, 2, 3, 4] rfl rfl) hS ⟨_, rfl, rfl, rfl, _, _, _, _, rfl, (by omega), (by rw [t_roll (by omega), ← hx_1.1, ← hx_1.2, ← hx_6.1, ← hx_6.2]; exact pR_map (fun q => (q, trunc 32 fp)) hx_289)⟩
  by_cases h_12_262 : c = 262
  · subst h_12_262
    refine lv_tableIn (tgt := 279) hx hb d_Re_ofTwo_12 (by decide) (by decide) (by rfl) (by decide) ?_
    refine lv_iload hx hb d_Re_ofTwo_279 (lv_at hl 0 rfl) ?_
    refine lv_bipush (v := 16) hx hb d_Re_ofTwo_281 (by decide) ?_
    refine lv_ishr hx hb d_Re_ofTwo_283 ?_
    refine lv_iload_n hx hb d_Re_ofTwo_284 rfl (lv_at hl 1 rfl) ?_
    refine lv_bipush (v := 16) hx hb d_Re_ofTwo_285 (by decide) ?_
    refine lv_ishr hx hb d_Re_ofTwo_287 ?_
    refine lv_aload_n hx hb d_Re_ofTwo_288 rfl (lv_at hl 4 rfl) ?_
    have hC : Cut [(re, .inr (5, [.ref rp])), (rp, .inl (cI, 32, .inl fp)), (v, .inr (3, [.ref va, .ref vb, .int (nI n_6)])), (va, .inl (cI, 48, .inl fa_6)), (vb, .inl (cI, 48, .inl fb_6))] [(v, .inr (3, [.ref va, .ref vb, .int (nI n_6)])), (va, .inl (cI, 48, .inl fa_6)), (vb, .inl (cI, 48, .inl fb_6))] [(re, .inr (5, [.ref rp])), (rp, .inl (cI, 32, .inl fp))] [2, 3, 4] [0, 1] := ⟨rfl, rfl, rfl, rfl, by decide⟩
    refine goI0 (trS (As := [.int (r_6 >>> (16 &&& 31)), .int (r_1 >>> (16 &&& 31)), .ref v]) (rest := []) ⟨hx, hb, hml, hown, hts⟩ gd_good (c_Re_roll l D cB cI cJ v va vb n_6 fa_6 fb_6 (r_6 >>> (16 &&& 31)) (r_1 >>> (16 &&& 31)) (by omega) ) cal_Re_roll ml_Re_82 ⟨Nat.le_of_ble_eq_true rfl, Nat.le_of_ble_eq_true rfl⟩ hZ hP hD hC rfl hl.1 rfl (Nat.le_of_ble_eq_true rfl) d_Re_ofTwo_289 ⟨Nat.le_of_ble_eq_true rfl, Nat.le_of_ble_eq_true rfl⟩) hZ hP hD hS hC (fun r_289 w1 H locs hq hP hD hS => ?_)
    obtain ⟨n_289, fa_289, fb_289, rfl, hv0_289, hx_289⟩ := hq
    have hP : va_P D classes [(re, .inr (5, [.ref rp])), (rp, .inl (cI, 32, .inl fp)), (v, .inr (3, [.ref va, .ref vb, .int (nI n_289)])), (va, .inl (cI, 48, .inl fa_289)), (vb, .inl (cI, 48, .inl fb_289))] H := hP
    have hD : va_D A_ [(re, .inr (5, [.ref rp])), (rp, .inl (cI, 32, .inl fp)), (v, .inr (3, [.ref va, .ref vb, .int (nI n_289)])), (va, .inl (cI, 48, .inl fa_289)), (vb, .inl (cI, 48, .inl fb_289))] := hD
    exact t_iret hx hb hr hlk d_Re_ofTwo_292 (hP.subm (ws' := [(re, .inr (5, [.ref rp])), (rp, .inl (cI, 32, .inl fp)), (v, .inr (3, [.ref va, .ref vb, .int (nI n_289)])), (va, .inl (cI, 48, .inl fa_289)), (vb, .inl (cI, 48, .inl fb_289))]) [0, 1, 2, 3, 4] rfl) (hD.sub (ws' := [(re, .inr (5, [.ref rp])), (rp, .inl (cI, 32, .inl fp)), (v, .inr (3, [.ref va, .ref vb, .int (nI n_289)])), (va, .inl (cI, 48, .inl fa_289)), (vb, .inl (cI, 48, .inl fb_289))]) [0, 1, 2, 3, 4] rfl rfl) hS ⟨_, rfl, rfl, rfl, _, _, _, _, rfl, (by omega), (by rw [t_roll (by omega), ← hx_1.1, ← hx_1.2, ← hx_6.1, ← hx_6.2]; exact pR_map (fun q => (q, trunc 32 fp)) hx_289)⟩
  by_cases h_12_263 : c = 263
  · subst h_12_263
    refine lv_tableIn (tgt := 279) hx hb d_Re_ofTwo_12 (by decide) (by decide) (by rfl) (by decide) ?_
    refine lv_iload hx hb d_Re_ofTwo_279 (lv_at hl 0 rfl) ?_
    refine lv_bipush (v := 16) hx hb d_Re_ofTwo_281 (by decide) ?_
    refine lv_ishr hx hb d_Re_ofTwo_283 ?_
    refine lv_iload_n hx hb d_Re_ofTwo_284 rfl (lv_at hl 1 rfl) ?_
    refine lv_bipush (v := 16) hx hb d_Re_ofTwo_285 (by decide) ?_
    refine lv_ishr hx hb d_Re_ofTwo_287 ?_
    refine lv_aload_n hx hb d_Re_ofTwo_288 rfl (lv_at hl 4 rfl) ?_
    have hC : Cut [(re, .inr (5, [.ref rp])), (rp, .inl (cI, 32, .inl fp)), (v, .inr (3, [.ref va, .ref vb, .int (nI n_6)])), (va, .inl (cI, 48, .inl fa_6)), (vb, .inl (cI, 48, .inl fb_6))] [(v, .inr (3, [.ref va, .ref vb, .int (nI n_6)])), (va, .inl (cI, 48, .inl fa_6)), (vb, .inl (cI, 48, .inl fb_6))] [(re, .inr (5, [.ref rp])), (rp, .inl (cI, 32, .inl fp))] [2, 3, 4] [0, 1] := ⟨rfl, rfl, rfl, rfl, by decide⟩
    refine goI0 (trS (As := [.int (r_6 >>> (16 &&& 31)), .int (r_1 >>> (16 &&& 31)), .ref v]) (rest := []) ⟨hx, hb, hml, hown, hts⟩ gd_good (c_Re_roll l D cB cI cJ v va vb n_6 fa_6 fb_6 (r_6 >>> (16 &&& 31)) (r_1 >>> (16 &&& 31)) (by omega) ) cal_Re_roll ml_Re_82 ⟨Nat.le_of_ble_eq_true rfl, Nat.le_of_ble_eq_true rfl⟩ hZ hP hD hC rfl hl.1 rfl (Nat.le_of_ble_eq_true rfl) d_Re_ofTwo_289 ⟨Nat.le_of_ble_eq_true rfl, Nat.le_of_ble_eq_true rfl⟩) hZ hP hD hS hC (fun r_289 w1 H locs hq hP hD hS => ?_)
    obtain ⟨n_289, fa_289, fb_289, rfl, hv0_289, hx_289⟩ := hq
    have hP : va_P D classes [(re, .inr (5, [.ref rp])), (rp, .inl (cI, 32, .inl fp)), (v, .inr (3, [.ref va, .ref vb, .int (nI n_289)])), (va, .inl (cI, 48, .inl fa_289)), (vb, .inl (cI, 48, .inl fb_289))] H := hP
    have hD : va_D A_ [(re, .inr (5, [.ref rp])), (rp, .inl (cI, 32, .inl fp)), (v, .inr (3, [.ref va, .ref vb, .int (nI n_289)])), (va, .inl (cI, 48, .inl fa_289)), (vb, .inl (cI, 48, .inl fb_289))] := hD
    exact t_iret hx hb hr hlk d_Re_ofTwo_292 (hP.subm (ws' := [(re, .inr (5, [.ref rp])), (rp, .inl (cI, 32, .inl fp)), (v, .inr (3, [.ref va, .ref vb, .int (nI n_289)])), (va, .inl (cI, 48, .inl fa_289)), (vb, .inl (cI, 48, .inl fb_289))]) [0, 1, 2, 3, 4] rfl) (hD.sub (ws' := [(re, .inr (5, [.ref rp])), (rp, .inl (cI, 32, .inl fp)), (v, .inr (3, [.ref va, .ref vb, .int (nI n_289)])), (va, .inl (cI, 48, .inl fa_289)), (vb, .inl (cI, 48, .inl fb_289))]) [0, 1, 2, 3, 4] rfl rfl) hS ⟨_, rfl, rfl, rfl, _, _, _, _, rfl, (by omega), (by rw [t_roll (by omega), ← hx_1.1, ← hx_1.2, ← hx_6.1, ← hx_6.2]; exact pR_map (fun q => (q, trunc 32 fp)) hx_289)⟩
  by_cases h_12_264 : c = 264
  · subst h_12_264
    refine lv_tableIn (tgt := 279) hx hb d_Re_ofTwo_12 (by decide) (by decide) (by rfl) (by decide) ?_
    refine lv_iload hx hb d_Re_ofTwo_279 (lv_at hl 0 rfl) ?_
    refine lv_bipush (v := 16) hx hb d_Re_ofTwo_281 (by decide) ?_
    refine lv_ishr hx hb d_Re_ofTwo_283 ?_
    refine lv_iload_n hx hb d_Re_ofTwo_284 rfl (lv_at hl 1 rfl) ?_
    refine lv_bipush (v := 16) hx hb d_Re_ofTwo_285 (by decide) ?_
    refine lv_ishr hx hb d_Re_ofTwo_287 ?_
    refine lv_aload_n hx hb d_Re_ofTwo_288 rfl (lv_at hl 4 rfl) ?_
    have hC : Cut [(re, .inr (5, [.ref rp])), (rp, .inl (cI, 32, .inl fp)), (v, .inr (3, [.ref va, .ref vb, .int (nI n_6)])), (va, .inl (cI, 48, .inl fa_6)), (vb, .inl (cI, 48, .inl fb_6))] [(v, .inr (3, [.ref va, .ref vb, .int (nI n_6)])), (va, .inl (cI, 48, .inl fa_6)), (vb, .inl (cI, 48, .inl fb_6))] [(re, .inr (5, [.ref rp])), (rp, .inl (cI, 32, .inl fp))] [2, 3, 4] [0, 1] := ⟨rfl, rfl, rfl, rfl, by decide⟩
    refine goI0 (trS (As := [.int (r_6 >>> (16 &&& 31)), .int (r_1 >>> (16 &&& 31)), .ref v]) (rest := []) ⟨hx, hb, hml, hown, hts⟩ gd_good (c_Re_roll l D cB cI cJ v va vb n_6 fa_6 fb_6 (r_6 >>> (16 &&& 31)) (r_1 >>> (16 &&& 31)) (by omega) ) cal_Re_roll ml_Re_82 ⟨Nat.le_of_ble_eq_true rfl, Nat.le_of_ble_eq_true rfl⟩ hZ hP hD hC rfl hl.1 rfl (Nat.le_of_ble_eq_true rfl) d_Re_ofTwo_289 ⟨Nat.le_of_ble_eq_true rfl, Nat.le_of_ble_eq_true rfl⟩) hZ hP hD hS hC (fun r_289 w1 H locs hq hP hD hS => ?_)
    obtain ⟨n_289, fa_289, fb_289, rfl, hv0_289, hx_289⟩ := hq
    have hP : va_P D classes [(re, .inr (5, [.ref rp])), (rp, .inl (cI, 32, .inl fp)), (v, .inr (3, [.ref va, .ref vb, .int (nI n_289)])), (va, .inl (cI, 48, .inl fa_289)), (vb, .inl (cI, 48, .inl fb_289))] H := hP
    have hD : va_D A_ [(re, .inr (5, [.ref rp])), (rp, .inl (cI, 32, .inl fp)), (v, .inr (3, [.ref va, .ref vb, .int (nI n_289)])), (va, .inl (cI, 48, .inl fa_289)), (vb, .inl (cI, 48, .inl fb_289))] := hD
    exact t_iret hx hb hr hlk d_Re_ofTwo_292 (hP.subm (ws' := [(re, .inr (5, [.ref rp])), (rp, .inl (cI, 32, .inl fp)), (v, .inr (3, [.ref va, .ref vb, .int (nI n_289)])), (va, .inl (cI, 48, .inl fa_289)), (vb, .inl (cI, 48, .inl fb_289))]) [0, 1, 2, 3, 4] rfl) (hD.sub (ws' := [(re, .inr (5, [.ref rp])), (rp, .inl (cI, 32, .inl fp)), (v, .inr (3, [.ref va, .ref vb, .int (nI n_289)])), (va, .inl (cI, 48, .inl fa_289)), (vb, .inl (cI, 48, .inl fb_289))]) [0, 1, 2, 3, 4] rfl rfl) hS ⟨_, rfl, rfl, rfl, _, _, _, _, rfl, (by omega), (by rw [t_roll (by omega), ← hx_1.1, ← hx_1.2, ← hx_6.1, ← hx_6.2]; exact pR_map (fun q => (q, trunc 32 fp)) hx_289)⟩
  by_cases h_12_265 : c = 265
  · subst h_12_265
    refine lv_tableIn (tgt := 279) hx hb d_Re_ofTwo_12 (by decide) (by decide) (by rfl) (by decide) ?_
    refine lv_iload hx hb d_Re_ofTwo_279 (lv_at hl 0 rfl) ?_
    refine lv_bipush (v := 16) hx hb d_Re_ofTwo_281 (by decide) ?_
    refine lv_ishr hx hb d_Re_ofTwo_283 ?_
    refine lv_iload_n hx hb d_Re_ofTwo_284 rfl (lv_at hl 1 rfl) ?_
    refine lv_bipush (v := 16) hx hb d_Re_ofTwo_285 (by decide) ?_
    refine lv_ishr hx hb d_Re_ofTwo_287 ?_
    refine lv_aload_n hx hb d_Re_ofTwo_288 rfl (lv_at hl 4 rfl) ?_
    have hC : Cut [(re, .inr (5, [.ref rp])), (rp, .inl (cI, 32, .inl fp)), (v, .inr (3, [.ref va, .ref vb, .int (nI n_6)])), (va, .inl (cI, 48, .inl fa_6)), (vb, .inl (cI, 48, .inl fb_6))] [(v, .inr (3, [.ref va, .ref vb, .int (nI n_6)])), (va, .inl (cI, 48, .inl fa_6)), (vb, .inl (cI, 48, .inl fb_6))] [(re, .inr (5, [.ref rp])), (rp, .inl (cI, 32, .inl fp))] [2, 3, 4] [0, 1] := ⟨rfl, rfl, rfl, rfl, by decide⟩
    refine goI0 (trS (As := [.int (r_6 >>> (16 &&& 31)), .int (r_1 >>> (16 &&& 31)), .ref v]) (rest := []) ⟨hx, hb, hml, hown, hts⟩ gd_good (c_Re_roll l D cB cI cJ v va vb n_6 fa_6 fb_6 (r_6 >>> (16 &&& 31)) (r_1 >>> (16 &&& 31)) (by omega) ) cal_Re_roll ml_Re_82 ⟨Nat.le_of_ble_eq_true rfl, Nat.le_of_ble_eq_true rfl⟩ hZ hP hD hC rfl hl.1 rfl (Nat.le_of_ble_eq_true rfl) d_Re_ofTwo_289 ⟨Nat.le_of_ble_eq_true rfl, Nat.le_of_ble_eq_true rfl⟩) hZ hP hD hS hC (fun r_289 w1 H locs hq hP hD hS => ?_)
    obtain ⟨n_289, fa_289, fb_289, rfl, hv0_289, hx_289⟩ := hq
    have hP : va_P D classes [(re, .inr (5, [.ref rp])), (rp, .inl (cI, 32, .inl fp)), (v, .inr (3, [.ref va, .ref vb, .int (nI n_289)])), (va, .inl (cI, 48, .inl fa_289)), (vb, .inl (cI, 48, .inl fb_289))] H := hP
    have hD : va_D A_ [(re, .inr (5, [.ref rp])), (rp, .inl (cI, 32, .inl fp)), (v, .inr (3, [.ref va, .ref vb, .int (nI n_289)])), (va, .inl (cI, 48, .inl fa_289)), (vb, .inl (cI, 48, .inl fb_289))] := hD
    exact t_iret hx hb hr hlk d_Re_ofTwo_292 (hP.subm (ws' := [(re, .inr (5, [.ref rp])), (rp, .inl (cI, 32, .inl fp)), (v, .inr (3, [.ref va, .ref vb, .int (nI n_289)])), (va, .inl (cI, 48, .inl fa_289)), (vb, .inl (cI, 48, .inl fb_289))]) [0, 1, 2, 3, 4] rfl) (hD.sub (ws' := [(re, .inr (5, [.ref rp])), (rp, .inl (cI, 32, .inl fp)), (v, .inr (3, [.ref va, .ref vb, .int (nI n_289)])), (va, .inl (cI, 48, .inl fa_289)), (vb, .inl (cI, 48, .inl fb_289))]) [0, 1, 2, 3, 4] rfl rfl) hS ⟨_, rfl, rfl, rfl, _, _, _, _, rfl, (by omega), (by rw [t_roll (by omega), ← hx_1.1, ← hx_1.2, ← hx_6.1, ← hx_6.2]; exact pR_map (fun q => (q, trunc 32 fp)) hx_289)⟩
  by_cases h_12_266 : c = 266
  · subst h_12_266
    refine lv_tableIn (tgt := 176) hx hb d_Re_ofTwo_12 (by decide) (by decide) (by rfl) (by decide) ?_
    refine lv_aload_n hx hb d_Re_ofTwo_176 rfl (lv_at hl 4 rfl) ?_
    refine lv_iload hx hb d_Re_ofTwo_177 (lv_at hl 0 rfl) ?_
    refine lv_iload_n hx hb d_Re_ofTwo_179 rfl (lv_at hl 1 rfl) ?_
    refine lv_iadd hx hb d_Re_ofTwo_180 ?_
    have hC : Cut [(re, .inr (5, [.ref rp])), (rp, .inl (cI, 32, .inl fp)), (v, .inr (3, [.ref va, .ref vb, .int (nI n_6)])), (va, .inl (cI, 48, .inl fa_6)), (vb, .inl (cI, 48, .inl fb_6))] [(v, .inr (3, [.ref va, .ref vb, .int (nI n_6)])), (va, .inl (cI, 48, .inl fa_6)), (vb, .inl (cI, 48, .inl fb_6))] [(re, .inr (5, [.ref rp])), (rp, .inl (cI, 32, .inl fp))] [2, 3, 4] [0, 1] := ⟨rfl, rfl, rfl, rfl, by decide⟩
    refine goI0 (trV (As := [.int (r_6 + r_1)]) (rest := []) ⟨hx, hb, hml, hown, hts⟩ gd_good (c_Va_push l D cB cI cJ v va vb n_6 fa_6 fb_6 (r_6 + r_1) (by omega) ) cal_Va_push ml_Re_47 ⟨Nat.le_of_ble_eq_true rfl, Nat.le_of_ble_eq_true rfl⟩ hZ hP hD hC 2 (ci := 3) rfl rfl rfl rfl hl.1 rfl (Nat.le_of_ble_eq_true rfl) d_Re_ofTwo_181 ⟨Nat.le_of_ble_eq_true rfl, Nat.le_of_ble_eq_true rfl⟩) hZ hP hD hS hC (fun r_181 w1 H locs hq hP hD hS => ?_)
    obtain ⟨n_181, fa_181, fb_181, rfl, hv0_181, hx_181⟩ := hq
    have hP : va_P D classes [(re, .inr (5, [.ref rp])), (rp, .inl (cI, 32, .inl fp)), (v, .inr (3, [.ref va, .ref vb, .int (nI n_181)])), (va, .inl (cI, 48, .inl fa_181)), (vb, .inl (cI, 48, .inl fb_181))] H := hP
    have hD : va_D A_ [(re, .inr (5, [.ref rp])), (rp, .inl (cI, 32, .inl fp)), (v, .inr (3, [.ref va, .ref vb, .int (nI n_181)])), (va, .inl (cI, 48, .inl fa_181)), (vb, .inl (cI, 48, .inl fb_181))] := hD
    exact t_iret hx hb hr hlk d_Re_ofTwo_184 (hP.subm (ws' := [(re, .inr (5, [.ref rp])), (rp, .inl (cI, 32, .inl fp)), (v, .inr (3, [.ref va, .ref vb, .int (nI n_181)])), (va, .inl (cI, 48, .inl fa_181)), (vb, .inl (cI, 48, .inl fb_181))]) [0, 1, 2, 3, 4] rfl) (hD.sub (ws' := [(re, .inr (5, [.ref rp])), (rp, .inl (cI, 32, .inl fp)), (v, .inr (3, [.ref va, .ref vb, .int (nI n_181)])), (va, .inl (cI, 48, .inl fa_181)), (vb, .inl (cI, 48, .inl fb_181))]) [0, 1, 2, 3, 4] rfl rfl) hS ⟨_, rfl, rfl, rfl, _, _, _, _, rfl, (by omega), (by rw [t_266, ← hx_1.1, ← hx_1.2, ← hx_6.1, ← hx_6.2]; exact pR_map (fun q => (q, trunc 32 fp)) hx_181)⟩
  by_cases h_12_267 : c = 267
  · subst h_12_267
    refine lv_tableIn (tgt := 185) hx hb d_Re_ofTwo_12 (by decide) (by decide) (by rfl) (by decide) ?_
    refine lv_aload_n hx hb d_Re_ofTwo_185 rfl (lv_at hl 4 rfl) ?_
    refine lv_iload hx hb d_Re_ofTwo_186 (lv_at hl 0 rfl) ?_
    refine lv_iload_n hx hb d_Re_ofTwo_188 rfl (lv_at hl 1 rfl) ?_
    refine lv_isub hx hb d_Re_ofTwo_189 ?_
    have hC : Cut [(re, .inr (5, [.ref rp])), (rp, .inl (cI, 32, .inl fp)), (v, .inr (3, [.ref va, .ref vb, .int (nI n_6)])), (va, .inl (cI, 48, .inl fa_6)), (vb, .inl (cI, 48, .inl fb_6))] [(v, .inr (3, [.ref va, .ref vb, .int (nI n_6)])), (va, .inl (cI, 48, .inl fa_6)), (vb, .inl (cI, 48, .inl fb_6))] [(re, .inr (5, [.ref rp])), (rp, .inl (cI, 32, .inl fp))] [2, 3, 4] [0, 1] := ⟨rfl, rfl, rfl, rfl, by decide⟩
    refine goI0 (trV (As := [.int (r_6 - r_1)]) (rest := []) ⟨hx, hb, hml, hown, hts⟩ gd_good (c_Va_push l D cB cI cJ v va vb n_6 fa_6 fb_6 (r_6 - r_1) (by omega) ) cal_Va_push ml_Re_47 ⟨Nat.le_of_ble_eq_true rfl, Nat.le_of_ble_eq_true rfl⟩ hZ hP hD hC 2 (ci := 3) rfl rfl rfl rfl hl.1 rfl (Nat.le_of_ble_eq_true rfl) d_Re_ofTwo_190 ⟨Nat.le_of_ble_eq_true rfl, Nat.le_of_ble_eq_true rfl⟩) hZ hP hD hS hC (fun r_190 w1 H locs hq hP hD hS => ?_)
    obtain ⟨n_190, fa_190, fb_190, rfl, hv0_190, hx_190⟩ := hq
    have hP : va_P D classes [(re, .inr (5, [.ref rp])), (rp, .inl (cI, 32, .inl fp)), (v, .inr (3, [.ref va, .ref vb, .int (nI n_190)])), (va, .inl (cI, 48, .inl fa_190)), (vb, .inl (cI, 48, .inl fb_190))] H := hP
    have hD : va_D A_ [(re, .inr (5, [.ref rp])), (rp, .inl (cI, 32, .inl fp)), (v, .inr (3, [.ref va, .ref vb, .int (nI n_190)])), (va, .inl (cI, 48, .inl fa_190)), (vb, .inl (cI, 48, .inl fb_190))] := hD
    exact t_iret hx hb hr hlk d_Re_ofTwo_193 (hP.subm (ws' := [(re, .inr (5, [.ref rp])), (rp, .inl (cI, 32, .inl fp)), (v, .inr (3, [.ref va, .ref vb, .int (nI n_190)])), (va, .inl (cI, 48, .inl fa_190)), (vb, .inl (cI, 48, .inl fb_190))]) [0, 1, 2, 3, 4] rfl) (hD.sub (ws' := [(re, .inr (5, [.ref rp])), (rp, .inl (cI, 32, .inl fp)), (v, .inr (3, [.ref va, .ref vb, .int (nI n_190)])), (va, .inl (cI, 48, .inl fa_190)), (vb, .inl (cI, 48, .inl fb_190))]) [0, 1, 2, 3, 4] rfl rfl) hS ⟨_, rfl, rfl, rfl, _, _, _, _, rfl, (by omega), (by rw [t_267, ← hx_1.1, ← hx_1.2, ← hx_6.1, ← hx_6.2]; exact pR_map (fun q => (q, trunc 32 fp)) hx_190)⟩
  by_cases h_12_268 : c = 268
  · subst h_12_268
    refine lv_tableIn (tgt := 194) hx hb d_Re_ofTwo_12 (by decide) (by decide) (by rfl) (by decide) ?_
    refine lv_iload_n hx hb d_Re_ofTwo_194 rfl (lv_at hl 1 rfl) ?_
    refine lv_if_ne (tgt := 203) hx hb d_Re_ofTwo_195 (by decide) (fun c_195 => ?_) (fun c_195 => ?_)
    · refine lv_aload_n hx hb d_Re_ofTwo_203 rfl (lv_at hl 4 rfl) ?_
      refine lv_iload hx hb d_Re_ofTwo_204 (lv_at hl 0 rfl) ?_
      refine lv_i2l hx hb d_Re_ofTwo_206 rfl ?_
      refine lv_ldc2 (v := 65536) hx hb hown (hts _ kl_Re_60) d_Re_ofTwo_207 ?_
      refine lv_lmul hx hb d_Re_ofTwo_210 ?_
      refine lv_iload_n hx hb d_Re_ofTwo_211 rfl (lv_at hl 1 rfl) ?_
      refine lv_i2l hx hb d_Re_ofTwo_212 rfl ?_
      refine roS (As := [.long (r_6.toInt64 * 65536), .long r_1.toInt64]) (rest := [.ref v]) ⟨hx, hb, hml, hown, hts⟩ gd_good (c_Math_floorDiv l D cB cI cJ (r_6.toInt64 * 65536) r_1.toInt64 (i64_ne c_195)) cal_Math_floorDiv ml_Re_75 ⟨Nat.le_of_ble_eq_true rfl, Nat.le_of_ble_eq_true rfl⟩ hZ hP hD (isC := []) ⟨rfl, rfl⟩ rfl hl.1 rfl (Nat.le_of_ble_eq_true rfl) d_Re_ofTwo_213 ⟨Nat.le_of_ble_eq_true rfl, Nat.le_of_ble_eq_true rfl⟩ (fun v hv => ?_)
      rw [fd_eq] at hv
      subst hv
      refine lv_l2i hx hb d_Re_ofTwo_216 rfl ?_
      have hC : Cut [(re, .inr (5, [.ref rp])), (rp, .inl (cI, 32, .inl fp)), (v, .inr (3, [.ref va, .ref vb, .int (nI n_6)])), (va, .inl (cI, 48, .inl fa_6)), (vb, .inl (cI, 48, .inl fb_6))] [(v, .inr (3, [.ref va, .ref vb, .int (nI n_6)])), (va, .inl (cI, 48, .inl fa_6)), (vb, .inl (cI, 48, .inl fb_6))] [(re, .inr (5, [.ref rp])), (rp, .inl (cI, 32, .inl fp))] [2, 3, 4] [0, 1] := ⟨rfl, rfl, rfl, rfl, by decide⟩
      refine goI0 (trV (As := [.int ((fdR (r_6.toInt64 * 65536) r_1.toInt64).toInt32)]) (rest := []) ⟨hx, hb, hml, hown, hts⟩ gd_good (c_Va_push l D cB cI cJ v va vb n_6 fa_6 fb_6 ((fdR (r_6.toInt64 * 65536) r_1.toInt64).toInt32) (by omega) ) cal_Va_push ml_Re_47 ⟨Nat.le_of_ble_eq_true rfl, Nat.le_of_ble_eq_true rfl⟩ hZ hP hD hC 2 (ci := 3) rfl rfl rfl rfl hl.1 rfl (Nat.le_of_ble_eq_true rfl) d_Re_ofTwo_217 ⟨Nat.le_of_ble_eq_true rfl, Nat.le_of_ble_eq_true rfl⟩) hZ hP hD hS hC (fun r_217 w1 H locs hq hP hD hS => ?_)
      obtain ⟨n_217, fa_217, fb_217, rfl, hv0_217, hx_217⟩ := hq
      have hP : va_P D classes [(re, .inr (5, [.ref rp])), (rp, .inl (cI, 32, .inl fp)), (v, .inr (3, [.ref va, .ref vb, .int (nI n_217)])), (va, .inl (cI, 48, .inl fa_217)), (vb, .inl (cI, 48, .inl fb_217))] H := hP
      have hD : va_D A_ [(re, .inr (5, [.ref rp])), (rp, .inl (cI, 32, .inl fp)), (v, .inr (3, [.ref va, .ref vb, .int (nI n_217)])), (va, .inl (cI, 48, .inl fa_217)), (vb, .inl (cI, 48, .inl fb_217))] := hD
      exact t_iret hx hb hr hlk d_Re_ofTwo_220 (hP.subm (ws' := [(re, .inr (5, [.ref rp])), (rp, .inl (cI, 32, .inl fp)), (v, .inr (3, [.ref va, .ref vb, .int (nI n_217)])), (va, .inl (cI, 48, .inl fa_217)), (vb, .inl (cI, 48, .inl fb_217))]) [0, 1, 2, 3, 4] rfl) (hD.sub (ws' := [(re, .inr (5, [.ref rp])), (rp, .inl (cI, 32, .inl fp)), (v, .inr (3, [.ref va, .ref vb, .int (nI n_217)])), (va, .inl (cI, 48, .inl fa_217)), (vb, .inl (cI, 48, .inl fb_217))]) [0, 1, 2, 3, 4] rfl rfl) hS ⟨_, rfl, rfl, rfl, _, _, _, _, rfl, (by omega), (by rw [t_268, ← hx_1.1, ← hx_1.2, ← hx_6.1, ← hx_6.2, if_neg c_195]; exact pR_map (fun q => (q, trunc 32 fp)) hx_217)⟩
    · refine lv_bipush (v := (-10)) hx hb d_Re_ofTwo_198 (by decide) ?_
      refine lv_goto (tgt := 220) hx hb d_Re_ofTwo_200 (by decide) ?_
      exact t_iret hx hb hr hlk d_Re_ofTwo_220 (hP.subm (ws' := [(re, .inr (5, [.ref rp])), (rp, .inl (cI, 32, .inl fp)), (v, .inr (3, [.ref va, .ref vb, .int (nI n_6)])), (va, .inl (cI, 48, .inl fa_6)), (vb, .inl (cI, 48, .inl fb_6))]) [0, 1, 2, 3, 4] rfl) (hD.sub (ws' := [(re, .inr (5, [.ref rp])), (rp, .inl (cI, 32, .inl fp)), (v, .inr (3, [.ref va, .ref vb, .int (nI n_6)])), (va, .inl (cI, 48, .inl fa_6)), (vb, .inl (cI, 48, .inl fb_6))]) [0, 1, 2, 3, 4] rfl rfl) hS ⟨_, rfl, rfl, rfl, _, _, _, _, rfl, (by omega), (by rw [t_268, ← hx_1.1, ← hx_1.2, ← hx_6.1, ← hx_6.2, if_pos c_195]; exact pR_no (by decide) (by decide) _)⟩
  by_cases h_12_269 : c = 269
  · subst h_12_269
    refine lv_tableIn (tgt := 279) hx hb d_Re_ofTwo_12 (by decide) (by decide) (by rfl) (by decide) ?_
    refine lv_iload hx hb d_Re_ofTwo_279 (lv_at hl 0 rfl) ?_
    refine lv_bipush (v := 16) hx hb d_Re_ofTwo_281 (by decide) ?_
    refine lv_ishr hx hb d_Re_ofTwo_283 ?_
    refine lv_iload_n hx hb d_Re_ofTwo_284 rfl (lv_at hl 1 rfl) ?_
    refine lv_bipush (v := 16) hx hb d_Re_ofTwo_285 (by decide) ?_
    refine lv_ishr hx hb d_Re_ofTwo_287 ?_
    refine lv_aload_n hx hb d_Re_ofTwo_288 rfl (lv_at hl 4 rfl) ?_
    have hC : Cut [(re, .inr (5, [.ref rp])), (rp, .inl (cI, 32, .inl fp)), (v, .inr (3, [.ref va, .ref vb, .int (nI n_6)])), (va, .inl (cI, 48, .inl fa_6)), (vb, .inl (cI, 48, .inl fb_6))] [(v, .inr (3, [.ref va, .ref vb, .int (nI n_6)])), (va, .inl (cI, 48, .inl fa_6)), (vb, .inl (cI, 48, .inl fb_6))] [(re, .inr (5, [.ref rp])), (rp, .inl (cI, 32, .inl fp))] [2, 3, 4] [0, 1] := ⟨rfl, rfl, rfl, rfl, by decide⟩
    refine goI0 (trS (As := [.int (r_6 >>> (16 &&& 31)), .int (r_1 >>> (16 &&& 31)), .ref v]) (rest := []) ⟨hx, hb, hml, hown, hts⟩ gd_good (c_Re_roll l D cB cI cJ v va vb n_6 fa_6 fb_6 (r_6 >>> (16 &&& 31)) (r_1 >>> (16 &&& 31)) (by omega) ) cal_Re_roll ml_Re_82 ⟨Nat.le_of_ble_eq_true rfl, Nat.le_of_ble_eq_true rfl⟩ hZ hP hD hC rfl hl.1 rfl (Nat.le_of_ble_eq_true rfl) d_Re_ofTwo_289 ⟨Nat.le_of_ble_eq_true rfl, Nat.le_of_ble_eq_true rfl⟩) hZ hP hD hS hC (fun r_289 w1 H locs hq hP hD hS => ?_)
    obtain ⟨n_289, fa_289, fb_289, rfl, hv0_289, hx_289⟩ := hq
    have hP : va_P D classes [(re, .inr (5, [.ref rp])), (rp, .inl (cI, 32, .inl fp)), (v, .inr (3, [.ref va, .ref vb, .int (nI n_289)])), (va, .inl (cI, 48, .inl fa_289)), (vb, .inl (cI, 48, .inl fb_289))] H := hP
    have hD : va_D A_ [(re, .inr (5, [.ref rp])), (rp, .inl (cI, 32, .inl fp)), (v, .inr (3, [.ref va, .ref vb, .int (nI n_289)])), (va, .inl (cI, 48, .inl fa_289)), (vb, .inl (cI, 48, .inl fb_289))] := hD
    exact t_iret hx hb hr hlk d_Re_ofTwo_292 (hP.subm (ws' := [(re, .inr (5, [.ref rp])), (rp, .inl (cI, 32, .inl fp)), (v, .inr (3, [.ref va, .ref vb, .int (nI n_289)])), (va, .inl (cI, 48, .inl fa_289)), (vb, .inl (cI, 48, .inl fb_289))]) [0, 1, 2, 3, 4] rfl) (hD.sub (ws' := [(re, .inr (5, [.ref rp])), (rp, .inl (cI, 32, .inl fp)), (v, .inr (3, [.ref va, .ref vb, .int (nI n_289)])), (va, .inl (cI, 48, .inl fa_289)), (vb, .inl (cI, 48, .inl fb_289))]) [0, 1, 2, 3, 4] rfl rfl) hS ⟨_, rfl, rfl, rfl, _, _, _, _, rfl, (by omega), (by rw [t_roll (by omega), ← hx_1.1, ← hx_1.2, ← hx_6.1, ← hx_6.2]; exact pR_map (fun q => (q, trunc 32 fp)) hx_289)⟩
  by_cases h_12_270 : c = 270
  · subst h_12_270
    refine lv_tableIn (tgt := 279) hx hb d_Re_ofTwo_12 (by decide) (by decide) (by rfl) (by decide) ?_
    refine lv_iload hx hb d_Re_ofTwo_279 (lv_at hl 0 rfl) ?_
    refine lv_bipush (v := 16) hx hb d_Re_ofTwo_281 (by decide) ?_
    refine lv_ishr hx hb d_Re_ofTwo_283 ?_
    refine lv_iload_n hx hb d_Re_ofTwo_284 rfl (lv_at hl 1 rfl) ?_
    refine lv_bipush (v := 16) hx hb d_Re_ofTwo_285 (by decide) ?_
    refine lv_ishr hx hb d_Re_ofTwo_287 ?_
    refine lv_aload_n hx hb d_Re_ofTwo_288 rfl (lv_at hl 4 rfl) ?_
    have hC : Cut [(re, .inr (5, [.ref rp])), (rp, .inl (cI, 32, .inl fp)), (v, .inr (3, [.ref va, .ref vb, .int (nI n_6)])), (va, .inl (cI, 48, .inl fa_6)), (vb, .inl (cI, 48, .inl fb_6))] [(v, .inr (3, [.ref va, .ref vb, .int (nI n_6)])), (va, .inl (cI, 48, .inl fa_6)), (vb, .inl (cI, 48, .inl fb_6))] [(re, .inr (5, [.ref rp])), (rp, .inl (cI, 32, .inl fp))] [2, 3, 4] [0, 1] := ⟨rfl, rfl, rfl, rfl, by decide⟩
    refine goI0 (trS (As := [.int (r_6 >>> (16 &&& 31)), .int (r_1 >>> (16 &&& 31)), .ref v]) (rest := []) ⟨hx, hb, hml, hown, hts⟩ gd_good (c_Re_roll l D cB cI cJ v va vb n_6 fa_6 fb_6 (r_6 >>> (16 &&& 31)) (r_1 >>> (16 &&& 31)) (by omega) ) cal_Re_roll ml_Re_82 ⟨Nat.le_of_ble_eq_true rfl, Nat.le_of_ble_eq_true rfl⟩ hZ hP hD hC rfl hl.1 rfl (Nat.le_of_ble_eq_true rfl) d_Re_ofTwo_289 ⟨Nat.le_of_ble_eq_true rfl, Nat.le_of_ble_eq_true rfl⟩) hZ hP hD hS hC (fun r_289 w1 H locs hq hP hD hS => ?_)
    obtain ⟨n_289, fa_289, fb_289, rfl, hv0_289, hx_289⟩ := hq
    have hP : va_P D classes [(re, .inr (5, [.ref rp])), (rp, .inl (cI, 32, .inl fp)), (v, .inr (3, [.ref va, .ref vb, .int (nI n_289)])), (va, .inl (cI, 48, .inl fa_289)), (vb, .inl (cI, 48, .inl fb_289))] H := hP
    have hD : va_D A_ [(re, .inr (5, [.ref rp])), (rp, .inl (cI, 32, .inl fp)), (v, .inr (3, [.ref va, .ref vb, .int (nI n_289)])), (va, .inl (cI, 48, .inl fa_289)), (vb, .inl (cI, 48, .inl fb_289))] := hD
    exact t_iret hx hb hr hlk d_Re_ofTwo_292 (hP.subm (ws' := [(re, .inr (5, [.ref rp])), (rp, .inl (cI, 32, .inl fp)), (v, .inr (3, [.ref va, .ref vb, .int (nI n_289)])), (va, .inl (cI, 48, .inl fa_289)), (vb, .inl (cI, 48, .inl fb_289))]) [0, 1, 2, 3, 4] rfl) (hD.sub (ws' := [(re, .inr (5, [.ref rp])), (rp, .inl (cI, 32, .inl fp)), (v, .inr (3, [.ref va, .ref vb, .int (nI n_289)])), (va, .inl (cI, 48, .inl fa_289)), (vb, .inl (cI, 48, .inl fb_289))]) [0, 1, 2, 3, 4] rfl rfl) hS ⟨_, rfl, rfl, rfl, _, _, _, _, rfl, (by omega), (by rw [t_roll (by omega), ← hx_1.1, ← hx_1.2, ← hx_6.1, ← hx_6.2]; exact pR_map (fun q => (q, trunc 32 fp)) hx_289)⟩
  by_cases h_12_271 : c = 271
  · subst h_12_271
    refine lv_tableIn (tgt := 221) hx hb d_Re_ofTwo_12 (by decide) (by decide) (by rfl) (by decide) ?_
    refine lv_aload_n hx hb d_Re_ofTwo_221 rfl (lv_at hl 4 rfl) ?_
    refine lv_iload hx hb d_Re_ofTwo_222 (lv_at hl 0 rfl) ?_
    refine lv_iload_n hx hb d_Re_ofTwo_224 rfl (lv_at hl 1 rfl) ?_
    refine lv_icmp_ne (tgt := 232) hx hb d_Re_ofTwo_225 (by decide) (fun c_225 => ?_) (fun c_225 => ?_)
    · refine lv_iconst (v := 0) hx hb d_Re_ofTwo_232 (by decide) ?_
      refine roS (As := [.int 0]) (rest := [.ref v]) ⟨hx, hb, hml, hown, hts⟩ gd_good (c_Re_truth l D cB cI cJ 0) cal_Re_truth ml_Re_53 ⟨Nat.le_of_ble_eq_true rfl, Nat.le_of_ble_eq_true rfl⟩ hZ hP hD (isC := []) ⟨rfl, rfl⟩ rfl hl.1 rfl (Nat.le_of_ble_eq_true rfl) d_Re_ofTwo_233 ⟨Nat.le_of_ble_eq_true rfl, Nat.le_of_ble_eq_true rfl⟩ (fun v hv => ?_)
      have hv : v = .int 0 := hv
      subst hv
      have hC : Cut [(re, .inr (5, [.ref rp])), (rp, .inl (cI, 32, .inl fp)), (v, .inr (3, [.ref va, .ref vb, .int (nI n_6)])), (va, .inl (cI, 48, .inl fa_6)), (vb, .inl (cI, 48, .inl fb_6))] [(v, .inr (3, [.ref va, .ref vb, .int (nI n_6)])), (va, .inl (cI, 48, .inl fa_6)), (vb, .inl (cI, 48, .inl fb_6))] [(re, .inr (5, [.ref rp])), (rp, .inl (cI, 32, .inl fp))] [2, 3, 4] [0, 1] := ⟨rfl, rfl, rfl, rfl, by decide⟩
      refine goI0 (trV (As := [.int 0]) (rest := []) ⟨hx, hb, hml, hown, hts⟩ gd_good (c_Va_push l D cB cI cJ v va vb n_6 fa_6 fb_6 0 (by omega) ) cal_Va_push ml_Re_47 ⟨Nat.le_of_ble_eq_true rfl, Nat.le_of_ble_eq_true rfl⟩ hZ hP hD hC 2 (ci := 3) rfl rfl rfl rfl hl.1 rfl (Nat.le_of_ble_eq_true rfl) d_Re_ofTwo_236 ⟨Nat.le_of_ble_eq_true rfl, Nat.le_of_ble_eq_true rfl⟩) hZ hP hD hS hC (fun r_236 w1 H locs hq hP hD hS => ?_)
      obtain ⟨n_236, fa_236, fb_236, rfl, hv0_236, hx_236⟩ := hq
      have hP : va_P D classes [(re, .inr (5, [.ref rp])), (rp, .inl (cI, 32, .inl fp)), (v, .inr (3, [.ref va, .ref vb, .int (nI n_236)])), (va, .inl (cI, 48, .inl fa_236)), (vb, .inl (cI, 48, .inl fb_236))] H := hP
      have hD : va_D A_ [(re, .inr (5, [.ref rp])), (rp, .inl (cI, 32, .inl fp)), (v, .inr (3, [.ref va, .ref vb, .int (nI n_236)])), (va, .inl (cI, 48, .inl fa_236)), (vb, .inl (cI, 48, .inl fb_236))] := hD
      exact t_iret hx hb hr hlk d_Re_ofTwo_239 (hP.subm (ws' := [(re, .inr (5, [.ref rp])), (rp, .inl (cI, 32, .inl fp)), (v, .inr (3, [.ref va, .ref vb, .int (nI n_236)])), (va, .inl (cI, 48, .inl fa_236)), (vb, .inl (cI, 48, .inl fb_236))]) [0, 1, 2, 3, 4] rfl) (hD.sub (ws' := [(re, .inr (5, [.ref rp])), (rp, .inl (cI, 32, .inl fp)), (v, .inr (3, [.ref va, .ref vb, .int (nI n_236)])), (va, .inl (cI, 48, .inl fa_236)), (vb, .inl (cI, 48, .inl fb_236))]) [0, 1, 2, 3, 4] rfl rfl) hS ⟨_, rfl, rfl, rfl, _, _, _, _, rfl, (by omega), (by rw [t_271, ← hx_1.1, ← hx_1.2, ← hx_6.1, ← hx_6.2, if_neg c_225]; exact pR_map (fun q => (q, trunc 32 fp)) hx_236)⟩
    · refine lv_iconst (v := 1) hx hb d_Re_ofTwo_228 (by decide) ?_
      refine lv_goto (tgt := 233) hx hb d_Re_ofTwo_229 (by decide) ?_
      refine roS (As := [.int 1]) (rest := [.ref v]) ⟨hx, hb, hml, hown, hts⟩ gd_good (c_Re_truth l D cB cI cJ 1) cal_Re_truth ml_Re_53 ⟨Nat.le_of_ble_eq_true rfl, Nat.le_of_ble_eq_true rfl⟩ hZ hP hD (isC := []) ⟨rfl, rfl⟩ rfl hl.1 rfl (Nat.le_of_ble_eq_true rfl) d_Re_ofTwo_233 ⟨Nat.le_of_ble_eq_true rfl, Nat.le_of_ble_eq_true rfl⟩ (fun v hv => ?_)
      have hv : v = .int 65536 := hv
      subst hv
      have hC : Cut [(re, .inr (5, [.ref rp])), (rp, .inl (cI, 32, .inl fp)), (v, .inr (3, [.ref va, .ref vb, .int (nI n_6)])), (va, .inl (cI, 48, .inl fa_6)), (vb, .inl (cI, 48, .inl fb_6))] [(v, .inr (3, [.ref va, .ref vb, .int (nI n_6)])), (va, .inl (cI, 48, .inl fa_6)), (vb, .inl (cI, 48, .inl fb_6))] [(re, .inr (5, [.ref rp])), (rp, .inl (cI, 32, .inl fp))] [2, 3, 4] [0, 1] := ⟨rfl, rfl, rfl, rfl, by decide⟩
      refine goI0 (trV (As := [.int 65536]) (rest := []) ⟨hx, hb, hml, hown, hts⟩ gd_good (c_Va_push l D cB cI cJ v va vb n_6 fa_6 fb_6 65536 (by omega) ) cal_Va_push ml_Re_47 ⟨Nat.le_of_ble_eq_true rfl, Nat.le_of_ble_eq_true rfl⟩ hZ hP hD hC 2 (ci := 3) rfl rfl rfl rfl hl.1 rfl (Nat.le_of_ble_eq_true rfl) d_Re_ofTwo_236 ⟨Nat.le_of_ble_eq_true rfl, Nat.le_of_ble_eq_true rfl⟩) hZ hP hD hS hC (fun r_236 w1 H locs hq hP hD hS => ?_)
      obtain ⟨n_236, fa_236, fb_236, rfl, hv0_236, hx_236⟩ := hq
      have hP : va_P D classes [(re, .inr (5, [.ref rp])), (rp, .inl (cI, 32, .inl fp)), (v, .inr (3, [.ref va, .ref vb, .int (nI n_236)])), (va, .inl (cI, 48, .inl fa_236)), (vb, .inl (cI, 48, .inl fb_236))] H := hP
      have hD : va_D A_ [(re, .inr (5, [.ref rp])), (rp, .inl (cI, 32, .inl fp)), (v, .inr (3, [.ref va, .ref vb, .int (nI n_236)])), (va, .inl (cI, 48, .inl fa_236)), (vb, .inl (cI, 48, .inl fb_236))] := hD
      exact t_iret hx hb hr hlk d_Re_ofTwo_239 (hP.subm (ws' := [(re, .inr (5, [.ref rp])), (rp, .inl (cI, 32, .inl fp)), (v, .inr (3, [.ref va, .ref vb, .int (nI n_236)])), (va, .inl (cI, 48, .inl fa_236)), (vb, .inl (cI, 48, .inl fb_236))]) [0, 1, 2, 3, 4] rfl) (hD.sub (ws' := [(re, .inr (5, [.ref rp])), (rp, .inl (cI, 32, .inl fp)), (v, .inr (3, [.ref va, .ref vb, .int (nI n_236)])), (va, .inl (cI, 48, .inl fa_236)), (vb, .inl (cI, 48, .inl fb_236))]) [0, 1, 2, 3, 4] rfl rfl) hS ⟨_, rfl, rfl, rfl, _, _, _, _, rfl, (by omega), (by rw [t_271, ← hx_1.1, ← hx_1.2, ← hx_6.1, ← hx_6.2, if_pos c_225]; exact pR_map (fun q => (q, trunc 32 fp)) hx_236)⟩
  by_cases h_12_272 : c = 272
  · subst h_12_272
    refine lv_tableIn (tgt := 279) hx hb d_Re_ofTwo_12 (by decide) (by decide) (by rfl) (by decide) ?_
    refine lv_iload hx hb d_Re_ofTwo_279 (lv_at hl 0 rfl) ?_
    refine lv_bipush (v := 16) hx hb d_Re_ofTwo_281 (by decide) ?_
    refine lv_ishr hx hb d_Re_ofTwo_283 ?_
    refine lv_iload_n hx hb d_Re_ofTwo_284 rfl (lv_at hl 1 rfl) ?_
    refine lv_bipush (v := 16) hx hb d_Re_ofTwo_285 (by decide) ?_
    refine lv_ishr hx hb d_Re_ofTwo_287 ?_
    refine lv_aload_n hx hb d_Re_ofTwo_288 rfl (lv_at hl 4 rfl) ?_
    have hC : Cut [(re, .inr (5, [.ref rp])), (rp, .inl (cI, 32, .inl fp)), (v, .inr (3, [.ref va, .ref vb, .int (nI n_6)])), (va, .inl (cI, 48, .inl fa_6)), (vb, .inl (cI, 48, .inl fb_6))] [(v, .inr (3, [.ref va, .ref vb, .int (nI n_6)])), (va, .inl (cI, 48, .inl fa_6)), (vb, .inl (cI, 48, .inl fb_6))] [(re, .inr (5, [.ref rp])), (rp, .inl (cI, 32, .inl fp))] [2, 3, 4] [0, 1] := ⟨rfl, rfl, rfl, rfl, by decide⟩
    refine goI0 (trS (As := [.int (r_6 >>> (16 &&& 31)), .int (r_1 >>> (16 &&& 31)), .ref v]) (rest := []) ⟨hx, hb, hml, hown, hts⟩ gd_good (c_Re_roll l D cB cI cJ v va vb n_6 fa_6 fb_6 (r_6 >>> (16 &&& 31)) (r_1 >>> (16 &&& 31)) (by omega) ) cal_Re_roll ml_Re_82 ⟨Nat.le_of_ble_eq_true rfl, Nat.le_of_ble_eq_true rfl⟩ hZ hP hD hC rfl hl.1 rfl (Nat.le_of_ble_eq_true rfl) d_Re_ofTwo_289 ⟨Nat.le_of_ble_eq_true rfl, Nat.le_of_ble_eq_true rfl⟩) hZ hP hD hS hC (fun r_289 w1 H locs hq hP hD hS => ?_)
    obtain ⟨n_289, fa_289, fb_289, rfl, hv0_289, hx_289⟩ := hq
    have hP : va_P D classes [(re, .inr (5, [.ref rp])), (rp, .inl (cI, 32, .inl fp)), (v, .inr (3, [.ref va, .ref vb, .int (nI n_289)])), (va, .inl (cI, 48, .inl fa_289)), (vb, .inl (cI, 48, .inl fb_289))] H := hP
    have hD : va_D A_ [(re, .inr (5, [.ref rp])), (rp, .inl (cI, 32, .inl fp)), (v, .inr (3, [.ref va, .ref vb, .int (nI n_289)])), (va, .inl (cI, 48, .inl fa_289)), (vb, .inl (cI, 48, .inl fb_289))] := hD
    exact t_iret hx hb hr hlk d_Re_ofTwo_292 (hP.subm (ws' := [(re, .inr (5, [.ref rp])), (rp, .inl (cI, 32, .inl fp)), (v, .inr (3, [.ref va, .ref vb, .int (nI n_289)])), (va, .inl (cI, 48, .inl fa_289)), (vb, .inl (cI, 48, .inl fb_289))]) [0, 1, 2, 3, 4] rfl) (hD.sub (ws' := [(re, .inr (5, [.ref rp])), (rp, .inl (cI, 32, .inl fp)), (v, .inr (3, [.ref va, .ref vb, .int (nI n_289)])), (va, .inl (cI, 48, .inl fa_289)), (vb, .inl (cI, 48, .inl fb_289))]) [0, 1, 2, 3, 4] rfl rfl) hS ⟨_, rfl, rfl, rfl, _, _, _, _, rfl, (by omega), (by rw [t_roll (by omega), ← hx_1.1, ← hx_1.2, ← hx_6.1, ← hx_6.2]; exact pR_map (fun q => (q, trunc 32 fp)) hx_289)⟩
  by_cases h_12_273 : c = 273
  · subst h_12_273
    refine lv_tableIn (tgt := 279) hx hb d_Re_ofTwo_12 (by decide) (by decide) (by rfl) (by decide) ?_
    refine lv_iload hx hb d_Re_ofTwo_279 (lv_at hl 0 rfl) ?_
    refine lv_bipush (v := 16) hx hb d_Re_ofTwo_281 (by decide) ?_
    refine lv_ishr hx hb d_Re_ofTwo_283 ?_
    refine lv_iload_n hx hb d_Re_ofTwo_284 rfl (lv_at hl 1 rfl) ?_
    refine lv_bipush (v := 16) hx hb d_Re_ofTwo_285 (by decide) ?_
    refine lv_ishr hx hb d_Re_ofTwo_287 ?_
    refine lv_aload_n hx hb d_Re_ofTwo_288 rfl (lv_at hl 4 rfl) ?_
    have hC : Cut [(re, .inr (5, [.ref rp])), (rp, .inl (cI, 32, .inl fp)), (v, .inr (3, [.ref va, .ref vb, .int (nI n_6)])), (va, .inl (cI, 48, .inl fa_6)), (vb, .inl (cI, 48, .inl fb_6))] [(v, .inr (3, [.ref va, .ref vb, .int (nI n_6)])), (va, .inl (cI, 48, .inl fa_6)), (vb, .inl (cI, 48, .inl fb_6))] [(re, .inr (5, [.ref rp])), (rp, .inl (cI, 32, .inl fp))] [2, 3, 4] [0, 1] := ⟨rfl, rfl, rfl, rfl, by decide⟩
    refine goI0 (trS (As := [.int (r_6 >>> (16 &&& 31)), .int (r_1 >>> (16 &&& 31)), .ref v]) (rest := []) ⟨hx, hb, hml, hown, hts⟩ gd_good (c_Re_roll l D cB cI cJ v va vb n_6 fa_6 fb_6 (r_6 >>> (16 &&& 31)) (r_1 >>> (16 &&& 31)) (by omega) ) cal_Re_roll ml_Re_82 ⟨Nat.le_of_ble_eq_true rfl, Nat.le_of_ble_eq_true rfl⟩ hZ hP hD hC rfl hl.1 rfl (Nat.le_of_ble_eq_true rfl) d_Re_ofTwo_289 ⟨Nat.le_of_ble_eq_true rfl, Nat.le_of_ble_eq_true rfl⟩) hZ hP hD hS hC (fun r_289 w1 H locs hq hP hD hS => ?_)
    obtain ⟨n_289, fa_289, fb_289, rfl, hv0_289, hx_289⟩ := hq
    have hP : va_P D classes [(re, .inr (5, [.ref rp])), (rp, .inl (cI, 32, .inl fp)), (v, .inr (3, [.ref va, .ref vb, .int (nI n_289)])), (va, .inl (cI, 48, .inl fa_289)), (vb, .inl (cI, 48, .inl fb_289))] H := hP
    have hD : va_D A_ [(re, .inr (5, [.ref rp])), (rp, .inl (cI, 32, .inl fp)), (v, .inr (3, [.ref va, .ref vb, .int (nI n_289)])), (va, .inl (cI, 48, .inl fa_289)), (vb, .inl (cI, 48, .inl fb_289))] := hD
    exact t_iret hx hb hr hlk d_Re_ofTwo_292 (hP.subm (ws' := [(re, .inr (5, [.ref rp])), (rp, .inl (cI, 32, .inl fp)), (v, .inr (3, [.ref va, .ref vb, .int (nI n_289)])), (va, .inl (cI, 48, .inl fa_289)), (vb, .inl (cI, 48, .inl fb_289))]) [0, 1, 2, 3, 4] rfl) (hD.sub (ws' := [(re, .inr (5, [.ref rp])), (rp, .inl (cI, 32, .inl fp)), (v, .inr (3, [.ref va, .ref vb, .int (nI n_289)])), (va, .inl (cI, 48, .inl fa_289)), (vb, .inl (cI, 48, .inl fb_289))]) [0, 1, 2, 3, 4] rfl rfl) hS ⟨_, rfl, rfl, rfl, _, _, _, _, rfl, (by omega), (by rw [t_roll (by omega), ← hx_1.1, ← hx_1.2, ← hx_6.1, ← hx_6.2]; exact pR_map (fun q => (q, trunc 32 fp)) hx_289)⟩
  by_cases h_12_274 : c = 274
  · subst h_12_274
    refine lv_tableIn (tgt := 279) hx hb d_Re_ofTwo_12 (by decide) (by decide) (by rfl) (by decide) ?_
    refine lv_iload hx hb d_Re_ofTwo_279 (lv_at hl 0 rfl) ?_
    refine lv_bipush (v := 16) hx hb d_Re_ofTwo_281 (by decide) ?_
    refine lv_ishr hx hb d_Re_ofTwo_283 ?_
    refine lv_iload_n hx hb d_Re_ofTwo_284 rfl (lv_at hl 1 rfl) ?_
    refine lv_bipush (v := 16) hx hb d_Re_ofTwo_285 (by decide) ?_
    refine lv_ishr hx hb d_Re_ofTwo_287 ?_
    refine lv_aload_n hx hb d_Re_ofTwo_288 rfl (lv_at hl 4 rfl) ?_
    have hC : Cut [(re, .inr (5, [.ref rp])), (rp, .inl (cI, 32, .inl fp)), (v, .inr (3, [.ref va, .ref vb, .int (nI n_6)])), (va, .inl (cI, 48, .inl fa_6)), (vb, .inl (cI, 48, .inl fb_6))] [(v, .inr (3, [.ref va, .ref vb, .int (nI n_6)])), (va, .inl (cI, 48, .inl fa_6)), (vb, .inl (cI, 48, .inl fb_6))] [(re, .inr (5, [.ref rp])), (rp, .inl (cI, 32, .inl fp))] [2, 3, 4] [0, 1] := ⟨rfl, rfl, rfl, rfl, by decide⟩
    refine goI0 (trS (As := [.int (r_6 >>> (16 &&& 31)), .int (r_1 >>> (16 &&& 31)), .ref v]) (rest := []) ⟨hx, hb, hml, hown, hts⟩ gd_good (c_Re_roll l D cB cI cJ v va vb n_6 fa_6 fb_6 (r_6 >>> (16 &&& 31)) (r_1 >>> (16 &&& 31)) (by omega) ) cal_Re_roll ml_Re_82 ⟨Nat.le_of_ble_eq_true rfl, Nat.le_of_ble_eq_true rfl⟩ hZ hP hD hC rfl hl.1 rfl (Nat.le_of_ble_eq_true rfl) d_Re_ofTwo_289 ⟨Nat.le_of_ble_eq_true rfl, Nat.le_of_ble_eq_true rfl⟩) hZ hP hD hS hC (fun r_289 w1 H locs hq hP hD hS => ?_)
    obtain ⟨n_289, fa_289, fb_289, rfl, hv0_289, hx_289⟩ := hq
    have hP : va_P D classes [(re, .inr (5, [.ref rp])), (rp, .inl (cI, 32, .inl fp)), (v, .inr (3, [.ref va, .ref vb, .int (nI n_289)])), (va, .inl (cI, 48, .inl fa_289)), (vb, .inl (cI, 48, .inl fb_289))] H := hP
    have hD : va_D A_ [(re, .inr (5, [.ref rp])), (rp, .inl (cI, 32, .inl fp)), (v, .inr (3, [.ref va, .ref vb, .int (nI n_289)])), (va, .inl (cI, 48, .inl fa_289)), (vb, .inl (cI, 48, .inl fb_289))] := hD
    exact t_iret hx hb hr hlk d_Re_ofTwo_292 (hP.subm (ws' := [(re, .inr (5, [.ref rp])), (rp, .inl (cI, 32, .inl fp)), (v, .inr (3, [.ref va, .ref vb, .int (nI n_289)])), (va, .inl (cI, 48, .inl fa_289)), (vb, .inl (cI, 48, .inl fb_289))]) [0, 1, 2, 3, 4] rfl) (hD.sub (ws' := [(re, .inr (5, [.ref rp])), (rp, .inl (cI, 32, .inl fp)), (v, .inr (3, [.ref va, .ref vb, .int (nI n_289)])), (va, .inl (cI, 48, .inl fa_289)), (vb, .inl (cI, 48, .inl fb_289))]) [0, 1, 2, 3, 4] rfl rfl) hS ⟨_, rfl, rfl, rfl, _, _, _, _, rfl, (by omega), (by rw [t_roll (by omega), ← hx_1.1, ← hx_1.2, ← hx_6.1, ← hx_6.2]; exact pR_map (fun q => (q, trunc 32 fp)) hx_289)⟩
  by_cases h_12_275 : c = 275
  · subst h_12_275
    refine lv_tableIn (tgt := 279) hx hb d_Re_ofTwo_12 (by decide) (by decide) (by rfl) (by decide) ?_
    refine lv_iload hx hb d_Re_ofTwo_279 (lv_at hl 0 rfl) ?_
    refine lv_bipush (v := 16) hx hb d_Re_ofTwo_281 (by decide) ?_
    refine lv_ishr hx hb d_Re_ofTwo_283 ?_
    refine lv_iload_n hx hb d_Re_ofTwo_284 rfl (lv_at hl 1 rfl) ?_
    refine lv_bipush (v := 16) hx hb d_Re_ofTwo_285 (by decide) ?_
    refine lv_ishr hx hb d_Re_ofTwo_287 ?_
    refine lv_aload_n hx hb d_Re_ofTwo_288 rfl (lv_at hl 4 rfl) ?_
    have hC : Cut [(re, .inr (5, [.ref rp])), (rp, .inl (cI, 32, .inl fp)), (v, .inr (3, [.ref va, .ref vb, .int (nI n_6)])), (va, .inl (cI, 48, .inl fa_6)), (vb, .inl (cI, 48, .inl fb_6))] [(v, .inr (3, [.ref va, .ref vb, .int (nI n_6)])), (va, .inl (cI, 48, .inl fa_6)), (vb, .inl (cI, 48, .inl fb_6))] [(re, .inr (5, [.ref rp])), (rp, .inl (cI, 32, .inl fp))] [2, 3, 4] [0, 1] := ⟨rfl, rfl, rfl, rfl, by decide⟩
    refine goI0 (trS (As := [.int (r_6 >>> (16 &&& 31)), .int (r_1 >>> (16 &&& 31)), .ref v]) (rest := []) ⟨hx, hb, hml, hown, hts⟩ gd_good (c_Re_roll l D cB cI cJ v va vb n_6 fa_6 fb_6 (r_6 >>> (16 &&& 31)) (r_1 >>> (16 &&& 31)) (by omega) ) cal_Re_roll ml_Re_82 ⟨Nat.le_of_ble_eq_true rfl, Nat.le_of_ble_eq_true rfl⟩ hZ hP hD hC rfl hl.1 rfl (Nat.le_of_ble_eq_true rfl) d_Re_ofTwo_289 ⟨Nat.le_of_ble_eq_true rfl, Nat.le_of_ble_eq_true rfl⟩) hZ hP hD hS hC (fun r_289 w1 H locs hq hP hD hS => ?_)
    obtain ⟨n_289, fa_289, fb_289, rfl, hv0_289, hx_289⟩ := hq
    have hP : va_P D classes [(re, .inr (5, [.ref rp])), (rp, .inl (cI, 32, .inl fp)), (v, .inr (3, [.ref va, .ref vb, .int (nI n_289)])), (va, .inl (cI, 48, .inl fa_289)), (vb, .inl (cI, 48, .inl fb_289))] H := hP
    have hD : va_D A_ [(re, .inr (5, [.ref rp])), (rp, .inl (cI, 32, .inl fp)), (v, .inr (3, [.ref va, .ref vb, .int (nI n_289)])), (va, .inl (cI, 48, .inl fa_289)), (vb, .inl (cI, 48, .inl fb_289))] := hD
    exact t_iret hx hb hr hlk d_Re_ofTwo_292 (hP.subm (ws' := [(re, .inr (5, [.ref rp])), (rp, .inl (cI, 32, .inl fp)), (v, .inr (3, [.ref va, .ref vb, .int (nI n_289)])), (va, .inl (cI, 48, .inl fa_289)), (vb, .inl (cI, 48, .inl fb_289))]) [0, 1, 2, 3, 4] rfl) (hD.sub (ws' := [(re, .inr (5, [.ref rp])), (rp, .inl (cI, 32, .inl fp)), (v, .inr (3, [.ref va, .ref vb, .int (nI n_289)])), (va, .inl (cI, 48, .inl fa_289)), (vb, .inl (cI, 48, .inl fb_289))]) [0, 1, 2, 3, 4] rfl rfl) hS ⟨_, rfl, rfl, rfl, _, _, _, _, rfl, (by omega), (by rw [t_roll (by omega), ← hx_1.1, ← hx_1.2, ← hx_6.1, ← hx_6.2]; exact pR_map (fun q => (q, trunc 32 fp)) hx_289)⟩
  by_cases h_12_276 : c = 276
  · subst h_12_276
    refine lv_tableIn (tgt := 240) hx hb d_Re_ofTwo_12 (by decide) (by decide) (by rfl) (by decide) ?_
    refine lv_aload_n hx hb d_Re_ofTwo_240 rfl (lv_at hl 2 rfl) ?_
    refine lv_iload hx hb d_Re_ofTwo_241 (lv_at hl 0 rfl) ?_
    refine lv_iload_n hx hb d_Re_ofTwo_243 rfl (lv_at hl 1 rfl) ?_
    refine lv_bipush (v := 16) hx hb d_Re_ofTwo_244 (by decide) ?_
    refine lv_ishr hx hb d_Re_ofTwo_246 ?_
    have hC : Cut [(re, .inr (5, [.ref rp])), (rp, .inl (cI, 32, .inl fp)), (v, .inr (3, [.ref va, .ref vb, .int (nI n_6)])), (va, .inl (cI, 48, .inl fa_6)), (vb, .inl (cI, 48, .inl fb_6))] [(re, .inr (5, [.ref rp])), (rp, .inl (cI, 32, .inl fp))] [(v, .inr (3, [.ref va, .ref vb, .int (nI n_6)])), (va, .inl (cI, 48, .inl fa_6)), (vb, .inl (cI, 48, .inl fb_6))] [0, 1] [2, 3, 4] := ⟨rfl, rfl, rfl, rfl, by decide⟩
    refine goI0 (trV (As := [.int r_6, .int (r_1 >>> (16 &&& 31))]) (rest := []) ⟨hx, hb, hml, hown, hts⟩ gd_good (c_Re_store l D cB cI cJ re rp fp r_6 (r_1 >>> (16 &&& 31))  ) cal_Re_store ml_Re_79 ⟨Nat.le_of_ble_eq_true rfl, Nat.le_of_ble_eq_true rfl⟩ hZ hP hD hC 0 (ci := 5) rfl rfl rfl rfl hl.1 rfl (Nat.le_of_ble_eq_true rfl) d_Re_ofTwo_247 ⟨Nat.le_of_ble_eq_true rfl, Nat.le_of_ble_eq_true rfl⟩) hZ hP hD hS hC (fun r_247 w1 H locs hq hP hD hS => ?_)
    obtain ⟨fp_247, rfl, hx_247⟩ := hq
    have hP : va_P D classes [(v, .inr (3, [.ref va, .ref vb, .int (nI n_6)])), (va, .inl (cI, 48, .inl fa_6)), (vb, .inl (cI, 48, .inl fb_6)), (re, .inr (5, [.ref rp])), (rp, .inl (cI, 32, .inl fp_247))] H := hP
    have hD : va_D A_ [(v, .inr (3, [.ref va, .ref vb, .int (nI n_6)])), (va, .inl (cI, 48, .inl fa_6)), (vb, .inl (cI, 48, .inl fb_6)), (re, .inr (5, [.ref rp])), (rp, .inl (cI, 32, .inl fp_247))] := hD
    exact t_iret hx hb hr hlk d_Re_ofTwo_250 (hP.subm (ws' := [(re, .inr (5, [.ref rp])), (rp, .inl (cI, 32, .inl fp_247)), (v, .inr (3, [.ref va, .ref vb, .int (nI n_6)])), (va, .inl (cI, 48, .inl fa_6)), (vb, .inl (cI, 48, .inl fb_6))]) [3, 4, 0, 1, 2] rfl) (hD.sub (ws' := [(re, .inr (5, [.ref rp])), (rp, .inl (cI, 32, .inl fp_247)), (v, .inr (3, [.ref va, .ref vb, .int (nI n_6)])), (va, .inl (cI, 48, .inl fa_6)), (vb, .inl (cI, 48, .inl fb_6))]) [3, 4, 0, 1, 2] rfl rfl) hS ⟨_, rfl, rfl, rfl, _, _, _, _, rfl, (by omega), (by rw [t_276, ← hx_1.1, ← hx_1.2, ← hx_6.1, ← hx_6.2]; exact pR_map (fun q => (vS n_6 fa_6, q)) hx_247)⟩
  by_cases h_12_277 : c = 277
  · subst h_12_277
    refine lv_tableIn (tgt := 279) hx hb d_Re_ofTwo_12 (by decide) (by decide) (by rfl) (by decide) ?_
    refine lv_iload hx hb d_Re_ofTwo_279 (lv_at hl 0 rfl) ?_
    refine lv_bipush (v := 16) hx hb d_Re_ofTwo_281 (by decide) ?_
    refine lv_ishr hx hb d_Re_ofTwo_283 ?_
    refine lv_iload_n hx hb d_Re_ofTwo_284 rfl (lv_at hl 1 rfl) ?_
    refine lv_bipush (v := 16) hx hb d_Re_ofTwo_285 (by decide) ?_
    refine lv_ishr hx hb d_Re_ofTwo_287 ?_
    refine lv_aload_n hx hb d_Re_ofTwo_288 rfl (lv_at hl 4 rfl) ?_
    have hC : Cut [(re, .inr (5, [.ref rp])), (rp, .inl (cI, 32, .inl fp)), (v, .inr (3, [.ref va, .ref vb, .int (nI n_6)])), (va, .inl (cI, 48, .inl fa_6)), (vb, .inl (cI, 48, .inl fb_6))] [(v, .inr (3, [.ref va, .ref vb, .int (nI n_6)])), (va, .inl (cI, 48, .inl fa_6)), (vb, .inl (cI, 48, .inl fb_6))] [(re, .inr (5, [.ref rp])), (rp, .inl (cI, 32, .inl fp))] [2, 3, 4] [0, 1] := ⟨rfl, rfl, rfl, rfl, by decide⟩
    refine goI0 (trS (As := [.int (r_6 >>> (16 &&& 31)), .int (r_1 >>> (16 &&& 31)), .ref v]) (rest := []) ⟨hx, hb, hml, hown, hts⟩ gd_good (c_Re_roll l D cB cI cJ v va vb n_6 fa_6 fb_6 (r_6 >>> (16 &&& 31)) (r_1 >>> (16 &&& 31)) (by omega) ) cal_Re_roll ml_Re_82 ⟨Nat.le_of_ble_eq_true rfl, Nat.le_of_ble_eq_true rfl⟩ hZ hP hD hC rfl hl.1 rfl (Nat.le_of_ble_eq_true rfl) d_Re_ofTwo_289 ⟨Nat.le_of_ble_eq_true rfl, Nat.le_of_ble_eq_true rfl⟩) hZ hP hD hS hC (fun r_289 w1 H locs hq hP hD hS => ?_)
    obtain ⟨n_289, fa_289, fb_289, rfl, hv0_289, hx_289⟩ := hq
    have hP : va_P D classes [(re, .inr (5, [.ref rp])), (rp, .inl (cI, 32, .inl fp)), (v, .inr (3, [.ref va, .ref vb, .int (nI n_289)])), (va, .inl (cI, 48, .inl fa_289)), (vb, .inl (cI, 48, .inl fb_289))] H := hP
    have hD : va_D A_ [(re, .inr (5, [.ref rp])), (rp, .inl (cI, 32, .inl fp)), (v, .inr (3, [.ref va, .ref vb, .int (nI n_289)])), (va, .inl (cI, 48, .inl fa_289)), (vb, .inl (cI, 48, .inl fb_289))] := hD
    exact t_iret hx hb hr hlk d_Re_ofTwo_292 (hP.subm (ws' := [(re, .inr (5, [.ref rp])), (rp, .inl (cI, 32, .inl fp)), (v, .inr (3, [.ref va, .ref vb, .int (nI n_289)])), (va, .inl (cI, 48, .inl fa_289)), (vb, .inl (cI, 48, .inl fb_289))]) [0, 1, 2, 3, 4] rfl) (hD.sub (ws' := [(re, .inr (5, [.ref rp])), (rp, .inl (cI, 32, .inl fp)), (v, .inr (3, [.ref va, .ref vb, .int (nI n_289)])), (va, .inl (cI, 48, .inl fa_289)), (vb, .inl (cI, 48, .inl fb_289))]) [0, 1, 2, 3, 4] rfl rfl) hS ⟨_, rfl, rfl, rfl, _, _, _, _, rfl, (by omega), (by rw [t_roll (by omega), ← hx_1.1, ← hx_1.2, ← hx_6.1, ← hx_6.2]; exact pR_map (fun q => (q, trunc 32 fp)) hx_289)⟩
  by_cases h_12_278 : c = 278
  · subst h_12_278
    refine lv_tableIn (tgt := 279) hx hb d_Re_ofTwo_12 (by decide) (by decide) (by rfl) (by decide) ?_
    refine lv_iload hx hb d_Re_ofTwo_279 (lv_at hl 0 rfl) ?_
    refine lv_bipush (v := 16) hx hb d_Re_ofTwo_281 (by decide) ?_
    refine lv_ishr hx hb d_Re_ofTwo_283 ?_
    refine lv_iload_n hx hb d_Re_ofTwo_284 rfl (lv_at hl 1 rfl) ?_
    refine lv_bipush (v := 16) hx hb d_Re_ofTwo_285 (by decide) ?_
    refine lv_ishr hx hb d_Re_ofTwo_287 ?_
    refine lv_aload_n hx hb d_Re_ofTwo_288 rfl (lv_at hl 4 rfl) ?_
    have hC : Cut [(re, .inr (5, [.ref rp])), (rp, .inl (cI, 32, .inl fp)), (v, .inr (3, [.ref va, .ref vb, .int (nI n_6)])), (va, .inl (cI, 48, .inl fa_6)), (vb, .inl (cI, 48, .inl fb_6))] [(v, .inr (3, [.ref va, .ref vb, .int (nI n_6)])), (va, .inl (cI, 48, .inl fa_6)), (vb, .inl (cI, 48, .inl fb_6))] [(re, .inr (5, [.ref rp])), (rp, .inl (cI, 32, .inl fp))] [2, 3, 4] [0, 1] := ⟨rfl, rfl, rfl, rfl, by decide⟩
    refine goI0 (trS (As := [.int (r_6 >>> (16 &&& 31)), .int (r_1 >>> (16 &&& 31)), .ref v]) (rest := []) ⟨hx, hb, hml, hown, hts⟩ gd_good (c_Re_roll l D cB cI cJ v va vb n_6 fa_6 fb_6 (r_6 >>> (16 &&& 31)) (r_1 >>> (16 &&& 31)) (by omega) ) cal_Re_roll ml_Re_82 ⟨Nat.le_of_ble_eq_true rfl, Nat.le_of_ble_eq_true rfl⟩ hZ hP hD hC rfl hl.1 rfl (Nat.le_of_ble_eq_true rfl) d_Re_ofTwo_289 ⟨Nat.le_of_ble_eq_true rfl, Nat.le_of_ble_eq_true rfl⟩) hZ hP hD hS hC (fun r_289 w1 H locs hq hP hD hS => ?_)
    obtain ⟨n_289, fa_289, fb_289, rfl, hv0_289, hx_289⟩ := hq
    have hP : va_P D classes [(re, .inr (5, [.ref rp])), (rp, .inl (cI, 32, .inl fp)), (v, .inr (3, [.ref va, .ref vb, .int (nI n_289)])), (va, .inl (cI, 48, .inl fa_289)), (vb, .inl (cI, 48, .inl fb_289))] H := hP
    have hD : va_D A_ [(re, .inr (5, [.ref rp])), (rp, .inl (cI, 32, .inl fp)), (v, .inr (3, [.ref va, .ref vb, .int (nI n_289)])), (va, .inl (cI, 48, .inl fa_289)), (vb, .inl (cI, 48, .inl fb_289))] := hD
    exact t_iret hx hb hr hlk d_Re_ofTwo_292 (hP.subm (ws' := [(re, .inr (5, [.ref rp])), (rp, .inl (cI, 32, .inl fp)), (v, .inr (3, [.ref va, .ref vb, .int (nI n_289)])), (va, .inl (cI, 48, .inl fa_289)), (vb, .inl (cI, 48, .inl fb_289))]) [0, 1, 2, 3, 4] rfl) (hD.sub (ws' := [(re, .inr (5, [.ref rp])), (rp, .inl (cI, 32, .inl fp)), (v, .inr (3, [.ref va, .ref vb, .int (nI n_289)])), (va, .inl (cI, 48, .inl fa_289)), (vb, .inl (cI, 48, .inl fb_289))]) [0, 1, 2, 3, 4] rfl rfl) hS ⟨_, rfl, rfl, rfl, _, _, _, _, rfl, (by omega), (by rw [t_roll (by omega), ← hx_1.1, ← hx_1.2, ← hx_6.1, ← hx_6.2]; exact pR_map (fun q => (q, trunc 32 fp)) hx_289)⟩
  by_cases h_12_279 : c = 279
  · subst h_12_279
    refine lv_tableIn (tgt := 279) hx hb d_Re_ofTwo_12 (by decide) (by decide) (by rfl) (by decide) ?_
    refine lv_iload hx hb d_Re_ofTwo_279 (lv_at hl 0 rfl) ?_
    refine lv_bipush (v := 16) hx hb d_Re_ofTwo_281 (by decide) ?_
    refine lv_ishr hx hb d_Re_ofTwo_283 ?_
    refine lv_iload_n hx hb d_Re_ofTwo_284 rfl (lv_at hl 1 rfl) ?_
    refine lv_bipush (v := 16) hx hb d_Re_ofTwo_285 (by decide) ?_
    refine lv_ishr hx hb d_Re_ofTwo_287 ?_
    refine lv_aload_n hx hb d_Re_ofTwo_288 rfl (lv_at hl 4 rfl) ?_
    have hC : Cut [(re, .inr (5, [.ref rp])), (rp, .inl (cI, 32, .inl fp)), (v, .inr (3, [.ref va, .ref vb, .int (nI n_6)])), (va, .inl (cI, 48, .inl fa_6)), (vb, .inl (cI, 48, .inl fb_6))] [(v, .inr (3, [.ref va, .ref vb, .int (nI n_6)])), (va, .inl (cI, 48, .inl fa_6)), (vb, .inl (cI, 48, .inl fb_6))] [(re, .inr (5, [.ref rp])), (rp, .inl (cI, 32, .inl fp))] [2, 3, 4] [0, 1] := ⟨rfl, rfl, rfl, rfl, by decide⟩
    refine goI0 (trS (As := [.int (r_6 >>> (16 &&& 31)), .int (r_1 >>> (16 &&& 31)), .ref v]) (rest := []) ⟨hx, hb, hml, hown, hts⟩ gd_good (c_Re_roll l D cB cI cJ v va vb n_6 fa_6 fb_6 (r_6 >>> (16 &&& 31)) (r_1 >>> (16 &&& 31)) (by omega) ) cal_Re_roll ml_Re_82 ⟨Nat.le_of_ble_eq_true rfl, Nat.le_of_ble_eq_true rfl⟩ hZ hP hD hC rfl hl.1 rfl (Nat.le_of_ble_eq_true rfl) d_Re_ofTwo_289 ⟨Nat.le_of_ble_eq_true rfl, Nat.le_of_ble_eq_true rfl⟩) hZ hP hD hS hC (fun r_289 w1 H locs hq hP hD hS => ?_)
    obtain ⟨n_289, fa_289, fb_289, rfl, hv0_289, hx_289⟩ := hq
    have hP : va_P D classes [(re, .inr (5, [.ref rp])), (rp, .inl (cI, 32, .inl fp)), (v, .inr (3, [.ref va, .ref vb, .int (nI n_289)])), (va, .inl (cI, 48, .inl fa_289)), (vb, .inl (cI, 48, .inl fb_289))] H := hP
    have hD : va_D A_ [(re, .inr (5, [.ref rp])), (rp, .inl (cI, 32, .inl fp)), (v, .inr (3, [.ref va, .ref vb, .int (nI n_289)])), (va, .inl (cI, 48, .inl fa_289)), (vb, .inl (cI, 48, .inl fb_289))] := hD
    exact t_iret hx hb hr hlk d_Re_ofTwo_292 (hP.subm (ws' := [(re, .inr (5, [.ref rp])), (rp, .inl (cI, 32, .inl fp)), (v, .inr (3, [.ref va, .ref vb, .int (nI n_289)])), (va, .inl (cI, 48, .inl fa_289)), (vb, .inl (cI, 48, .inl fb_289))]) [0, 1, 2, 3, 4] rfl) (hD.sub (ws' := [(re, .inr (5, [.ref rp])), (rp, .inl (cI, 32, .inl fp)), (v, .inr (3, [.ref va, .ref vb, .int (nI n_289)])), (va, .inl (cI, 48, .inl fa_289)), (vb, .inl (cI, 48, .inl fb_289))]) [0, 1, 2, 3, 4] rfl rfl) hS ⟨_, rfl, rfl, rfl, _, _, _, _, rfl, (by omega), (by rw [t_roll (by omega), ← hx_1.1, ← hx_1.2, ← hx_6.1, ← hx_6.2]; exact pR_map (fun q => (q, trunc 32 fp)) hx_289)⟩
  by_cases h_12_280 : c = 280
  · subst h_12_280
    refine lv_tableIn (tgt := 251) hx hb d_Re_ofTwo_12 (by decide) (by decide) (by rfl) (by decide) ?_
    refine lv_aload_n hx hb d_Re_ofTwo_251 rfl (lv_at hl 4 rfl) ?_
    refine lv_iload hx hb d_Re_ofTwo_252 (lv_at hl 0 rfl) ?_
    refine lv_i2l hx hb d_Re_ofTwo_254 rfl ?_
    refine lv_iload_n hx hb d_Re_ofTwo_255 rfl (lv_at hl 1 rfl) ?_
    refine lv_i2l hx hb d_Re_ofTwo_256 rfl ?_
    refine lv_lmul hx hb d_Re_ofTwo_257 ?_
    refine lv_bipush (v := 16) hx hb d_Re_ofTwo_258 (by decide) ?_
    refine lv_lshr hx hb d_Re_ofTwo_260 rfl ?_
    refine lv_tvl (y := fdR ((r_6).toInt64 * (r_1).toInt64) 65536) (shr_floor _) ?_
    refine lv_l2i hx hb d_Re_ofTwo_261 rfl ?_
    have hC : Cut [(re, .inr (5, [.ref rp])), (rp, .inl (cI, 32, .inl fp)), (v, .inr (3, [.ref va, .ref vb, .int (nI n_6)])), (va, .inl (cI, 48, .inl fa_6)), (vb, .inl (cI, 48, .inl fb_6))] [(v, .inr (3, [.ref va, .ref vb, .int (nI n_6)])), (va, .inl (cI, 48, .inl fa_6)), (vb, .inl (cI, 48, .inl fb_6))] [(re, .inr (5, [.ref rp])), (rp, .inl (cI, 32, .inl fp))] [2, 3, 4] [0, 1] := ⟨rfl, rfl, rfl, rfl, by decide⟩
    refine goI0 (trV (As := [.int ((fdR ((r_6).toInt64 * (r_1).toInt64) 65536).toInt32)]) (rest := []) ⟨hx, hb, hml, hown, hts⟩ gd_good (c_Va_push l D cB cI cJ v va vb n_6 fa_6 fb_6 ((fdR ((r_6).toInt64 * (r_1).toInt64) 65536).toInt32) (by omega) ) cal_Va_push ml_Re_47 ⟨Nat.le_of_ble_eq_true rfl, Nat.le_of_ble_eq_true rfl⟩ hZ hP hD hC 2 (ci := 3) rfl rfl rfl rfl hl.1 rfl (Nat.le_of_ble_eq_true rfl) d_Re_ofTwo_262 ⟨Nat.le_of_ble_eq_true rfl, Nat.le_of_ble_eq_true rfl⟩) hZ hP hD hS hC (fun r_262 w1 H locs hq hP hD hS => ?_)
    obtain ⟨n_262, fa_262, fb_262, rfl, hv0_262, hx_262⟩ := hq
    have hP : va_P D classes [(re, .inr (5, [.ref rp])), (rp, .inl (cI, 32, .inl fp)), (v, .inr (3, [.ref va, .ref vb, .int (nI n_262)])), (va, .inl (cI, 48, .inl fa_262)), (vb, .inl (cI, 48, .inl fb_262))] H := hP
    have hD : va_D A_ [(re, .inr (5, [.ref rp])), (rp, .inl (cI, 32, .inl fp)), (v, .inr (3, [.ref va, .ref vb, .int (nI n_262)])), (va, .inl (cI, 48, .inl fa_262)), (vb, .inl (cI, 48, .inl fb_262))] := hD
    exact t_iret hx hb hr hlk d_Re_ofTwo_265 (hP.subm (ws' := [(re, .inr (5, [.ref rp])), (rp, .inl (cI, 32, .inl fp)), (v, .inr (3, [.ref va, .ref vb, .int (nI n_262)])), (va, .inl (cI, 48, .inl fa_262)), (vb, .inl (cI, 48, .inl fb_262))]) [0, 1, 2, 3, 4] rfl) (hD.sub (ws' := [(re, .inr (5, [.ref rp])), (rp, .inl (cI, 32, .inl fp)), (v, .inr (3, [.ref va, .ref vb, .int (nI n_262)])), (va, .inl (cI, 48, .inl fa_262)), (vb, .inl (cI, 48, .inl fb_262))]) [0, 1, 2, 3, 4] rfl rfl) hS ⟨_, rfl, rfl, rfl, _, _, _, _, rfl, (by omega), (by rw [t_280, ← hx_1.1, ← hx_1.2, ← hx_6.1, ← hx_6.2]; exact pR_map (fun q => (q, trunc 32 fp)) hx_262)⟩
  by_cases h_12_281 : c = 281
  · subst h_12_281
    refine lv_tableIn (tgt := 279) hx hb d_Re_ofTwo_12 (by decide) (by decide) (by rfl) (by decide) ?_
    refine lv_iload hx hb d_Re_ofTwo_279 (lv_at hl 0 rfl) ?_
    refine lv_bipush (v := 16) hx hb d_Re_ofTwo_281 (by decide) ?_
    refine lv_ishr hx hb d_Re_ofTwo_283 ?_
    refine lv_iload_n hx hb d_Re_ofTwo_284 rfl (lv_at hl 1 rfl) ?_
    refine lv_bipush (v := 16) hx hb d_Re_ofTwo_285 (by decide) ?_
    refine lv_ishr hx hb d_Re_ofTwo_287 ?_
    refine lv_aload_n hx hb d_Re_ofTwo_288 rfl (lv_at hl 4 rfl) ?_
    have hC : Cut [(re, .inr (5, [.ref rp])), (rp, .inl (cI, 32, .inl fp)), (v, .inr (3, [.ref va, .ref vb, .int (nI n_6)])), (va, .inl (cI, 48, .inl fa_6)), (vb, .inl (cI, 48, .inl fb_6))] [(v, .inr (3, [.ref va, .ref vb, .int (nI n_6)])), (va, .inl (cI, 48, .inl fa_6)), (vb, .inl (cI, 48, .inl fb_6))] [(re, .inr (5, [.ref rp])), (rp, .inl (cI, 32, .inl fp))] [2, 3, 4] [0, 1] := ⟨rfl, rfl, rfl, rfl, by decide⟩
    refine goI0 (trS (As := [.int (r_6 >>> (16 &&& 31)), .int (r_1 >>> (16 &&& 31)), .ref v]) (rest := []) ⟨hx, hb, hml, hown, hts⟩ gd_good (c_Re_roll l D cB cI cJ v va vb n_6 fa_6 fb_6 (r_6 >>> (16 &&& 31)) (r_1 >>> (16 &&& 31)) (by omega) ) cal_Re_roll ml_Re_82 ⟨Nat.le_of_ble_eq_true rfl, Nat.le_of_ble_eq_true rfl⟩ hZ hP hD hC rfl hl.1 rfl (Nat.le_of_ble_eq_true rfl) d_Re_ofTwo_289 ⟨Nat.le_of_ble_eq_true rfl, Nat.le_of_ble_eq_true rfl⟩) hZ hP hD hS hC (fun r_289 w1 H locs hq hP hD hS => ?_)
    obtain ⟨n_289, fa_289, fb_289, rfl, hv0_289, hx_289⟩ := hq
    have hP : va_P D classes [(re, .inr (5, [.ref rp])), (rp, .inl (cI, 32, .inl fp)), (v, .inr (3, [.ref va, .ref vb, .int (nI n_289)])), (va, .inl (cI, 48, .inl fa_289)), (vb, .inl (cI, 48, .inl fb_289))] H := hP
    have hD : va_D A_ [(re, .inr (5, [.ref rp])), (rp, .inl (cI, 32, .inl fp)), (v, .inr (3, [.ref va, .ref vb, .int (nI n_289)])), (va, .inl (cI, 48, .inl fa_289)), (vb, .inl (cI, 48, .inl fb_289))] := hD
    exact t_iret hx hb hr hlk d_Re_ofTwo_292 (hP.subm (ws' := [(re, .inr (5, [.ref rp])), (rp, .inl (cI, 32, .inl fp)), (v, .inr (3, [.ref va, .ref vb, .int (nI n_289)])), (va, .inl (cI, 48, .inl fa_289)), (vb, .inl (cI, 48, .inl fb_289))]) [0, 1, 2, 3, 4] rfl) (hD.sub (ws' := [(re, .inr (5, [.ref rp])), (rp, .inl (cI, 32, .inl fp)), (v, .inr (3, [.ref va, .ref vb, .int (nI n_289)])), (va, .inl (cI, 48, .inl fa_289)), (vb, .inl (cI, 48, .inl fb_289))]) [0, 1, 2, 3, 4] rfl rfl) hS ⟨_, rfl, rfl, rfl, _, _, _, _, rfl, (by omega), (by rw [t_roll (by omega), ← hx_1.1, ← hx_1.2, ← hx_6.1, ← hx_6.2]; exact pR_map (fun q => (q, trunc 32 fp)) hx_289)⟩
  by_cases h_12_282 : c = 282
  · subst h_12_282
    refine lv_tableIn (tgt := 279) hx hb d_Re_ofTwo_12 (by decide) (by decide) (by rfl) (by decide) ?_
    refine lv_iload hx hb d_Re_ofTwo_279 (lv_at hl 0 rfl) ?_
    refine lv_bipush (v := 16) hx hb d_Re_ofTwo_281 (by decide) ?_
    refine lv_ishr hx hb d_Re_ofTwo_283 ?_
    refine lv_iload_n hx hb d_Re_ofTwo_284 rfl (lv_at hl 1 rfl) ?_
    refine lv_bipush (v := 16) hx hb d_Re_ofTwo_285 (by decide) ?_
    refine lv_ishr hx hb d_Re_ofTwo_287 ?_
    refine lv_aload_n hx hb d_Re_ofTwo_288 rfl (lv_at hl 4 rfl) ?_
    have hC : Cut [(re, .inr (5, [.ref rp])), (rp, .inl (cI, 32, .inl fp)), (v, .inr (3, [.ref va, .ref vb, .int (nI n_6)])), (va, .inl (cI, 48, .inl fa_6)), (vb, .inl (cI, 48, .inl fb_6))] [(v, .inr (3, [.ref va, .ref vb, .int (nI n_6)])), (va, .inl (cI, 48, .inl fa_6)), (vb, .inl (cI, 48, .inl fb_6))] [(re, .inr (5, [.ref rp])), (rp, .inl (cI, 32, .inl fp))] [2, 3, 4] [0, 1] := ⟨rfl, rfl, rfl, rfl, by decide⟩
    refine goI0 (trS (As := [.int (r_6 >>> (16 &&& 31)), .int (r_1 >>> (16 &&& 31)), .ref v]) (rest := []) ⟨hx, hb, hml, hown, hts⟩ gd_good (c_Re_roll l D cB cI cJ v va vb n_6 fa_6 fb_6 (r_6 >>> (16 &&& 31)) (r_1 >>> (16 &&& 31)) (by omega) ) cal_Re_roll ml_Re_82 ⟨Nat.le_of_ble_eq_true rfl, Nat.le_of_ble_eq_true rfl⟩ hZ hP hD hC rfl hl.1 rfl (Nat.le_of_ble_eq_true rfl) d_Re_ofTwo_289 ⟨Nat.le_of_ble_eq_true rfl, Nat.le_of_ble_eq_true rfl⟩) hZ hP hD hS hC (fun r_289 w1 H locs hq hP hD hS => ?_)
    obtain ⟨n_289, fa_289, fb_289, rfl, hv0_289, hx_289⟩ := hq
    have hP : va_P D classes [(re, .inr (5, [.ref rp])), (rp, .inl (cI, 32, .inl fp)), (v, .inr (3, [.ref va, .ref vb, .int (nI n_289)])), (va, .inl (cI, 48, .inl fa_289)), (vb, .inl (cI, 48, .inl fb_289))] H := hP
    have hD : va_D A_ [(re, .inr (5, [.ref rp])), (rp, .inl (cI, 32, .inl fp)), (v, .inr (3, [.ref va, .ref vb, .int (nI n_289)])), (va, .inl (cI, 48, .inl fa_289)), (vb, .inl (cI, 48, .inl fb_289))] := hD
    exact t_iret hx hb hr hlk d_Re_ofTwo_292 (hP.subm (ws' := [(re, .inr (5, [.ref rp])), (rp, .inl (cI, 32, .inl fp)), (v, .inr (3, [.ref va, .ref vb, .int (nI n_289)])), (va, .inl (cI, 48, .inl fa_289)), (vb, .inl (cI, 48, .inl fb_289))]) [0, 1, 2, 3, 4] rfl) (hD.sub (ws' := [(re, .inr (5, [.ref rp])), (rp, .inl (cI, 32, .inl fp)), (v, .inr (3, [.ref va, .ref vb, .int (nI n_289)])), (va, .inl (cI, 48, .inl fa_289)), (vb, .inl (cI, 48, .inl fb_289))]) [0, 1, 2, 3, 4] rfl rfl) hS ⟨_, rfl, rfl, rfl, _, _, _, _, rfl, (by omega), (by rw [t_roll (by omega), ← hx_1.1, ← hx_1.2, ← hx_6.1, ← hx_6.2]; exact pR_map (fun q => (q, trunc 32 fp)) hx_289)⟩
  by_cases h_12_283 : c = 283
  · subst h_12_283
    refine lv_tableIn (tgt := 279) hx hb d_Re_ofTwo_12 (by decide) (by decide) (by rfl) (by decide) ?_
    refine lv_iload hx hb d_Re_ofTwo_279 (lv_at hl 0 rfl) ?_
    refine lv_bipush (v := 16) hx hb d_Re_ofTwo_281 (by decide) ?_
    refine lv_ishr hx hb d_Re_ofTwo_283 ?_
    refine lv_iload_n hx hb d_Re_ofTwo_284 rfl (lv_at hl 1 rfl) ?_
    refine lv_bipush (v := 16) hx hb d_Re_ofTwo_285 (by decide) ?_
    refine lv_ishr hx hb d_Re_ofTwo_287 ?_
    refine lv_aload_n hx hb d_Re_ofTwo_288 rfl (lv_at hl 4 rfl) ?_
    have hC : Cut [(re, .inr (5, [.ref rp])), (rp, .inl (cI, 32, .inl fp)), (v, .inr (3, [.ref va, .ref vb, .int (nI n_6)])), (va, .inl (cI, 48, .inl fa_6)), (vb, .inl (cI, 48, .inl fb_6))] [(v, .inr (3, [.ref va, .ref vb, .int (nI n_6)])), (va, .inl (cI, 48, .inl fa_6)), (vb, .inl (cI, 48, .inl fb_6))] [(re, .inr (5, [.ref rp])), (rp, .inl (cI, 32, .inl fp))] [2, 3, 4] [0, 1] := ⟨rfl, rfl, rfl, rfl, by decide⟩
    refine goI0 (trS (As := [.int (r_6 >>> (16 &&& 31)), .int (r_1 >>> (16 &&& 31)), .ref v]) (rest := []) ⟨hx, hb, hml, hown, hts⟩ gd_good (c_Re_roll l D cB cI cJ v va vb n_6 fa_6 fb_6 (r_6 >>> (16 &&& 31)) (r_1 >>> (16 &&& 31)) (by omega) ) cal_Re_roll ml_Re_82 ⟨Nat.le_of_ble_eq_true rfl, Nat.le_of_ble_eq_true rfl⟩ hZ hP hD hC rfl hl.1 rfl (Nat.le_of_ble_eq_true rfl) d_Re_ofTwo_289 ⟨Nat.le_of_ble_eq_true rfl, Nat.le_of_ble_eq_true rfl⟩) hZ hP hD hS hC (fun r_289 w1 H locs hq hP hD hS => ?_)
    obtain ⟨n_289, fa_289, fb_289, rfl, hv0_289, hx_289⟩ := hq
    have hP : va_P D classes [(re, .inr (5, [.ref rp])), (rp, .inl (cI, 32, .inl fp)), (v, .inr (3, [.ref va, .ref vb, .int (nI n_289)])), (va, .inl (cI, 48, .inl fa_289)), (vb, .inl (cI, 48, .inl fb_289))] H := hP
    have hD : va_D A_ [(re, .inr (5, [.ref rp])), (rp, .inl (cI, 32, .inl fp)), (v, .inr (3, [.ref va, .ref vb, .int (nI n_289)])), (va, .inl (cI, 48, .inl fa_289)), (vb, .inl (cI, 48, .inl fb_289))] := hD
    exact t_iret hx hb hr hlk d_Re_ofTwo_292 (hP.subm (ws' := [(re, .inr (5, [.ref rp])), (rp, .inl (cI, 32, .inl fp)), (v, .inr (3, [.ref va, .ref vb, .int (nI n_289)])), (va, .inl (cI, 48, .inl fa_289)), (vb, .inl (cI, 48, .inl fb_289))]) [0, 1, 2, 3, 4] rfl) (hD.sub (ws' := [(re, .inr (5, [.ref rp])), (rp, .inl (cI, 32, .inl fp)), (v, .inr (3, [.ref va, .ref vb, .int (nI n_289)])), (va, .inl (cI, 48, .inl fa_289)), (vb, .inl (cI, 48, .inl fb_289))]) [0, 1, 2, 3, 4] rfl rfl) hS ⟨_, rfl, rfl, rfl, _, _, _, _, rfl, (by omega), (by rw [t_roll (by omega), ← hx_1.1, ← hx_1.2, ← hx_6.1, ← hx_6.2]; exact pR_map (fun q => (q, trunc 32 fp)) hx_289)⟩
  by_cases h_12_284 : c = 284
  · subst h_12_284
    refine lv_tableIn (tgt := 266) hx hb d_Re_ofTwo_12 (by decide) (by decide) (by rfl) (by decide) ?_
    refine lv_aload_n hx hb d_Re_ofTwo_266 rfl (lv_at hl 4 rfl) ?_
    refine lv_iload_n hx hb d_Re_ofTwo_267 rfl (lv_at hl 1 rfl) ?_
    have hC : Cut [(re, .inr (5, [.ref rp])), (rp, .inl (cI, 32, .inl fp)), (v, .inr (3, [.ref va, .ref vb, .int (nI n_6)])), (va, .inl (cI, 48, .inl fa_6)), (vb, .inl (cI, 48, .inl fb_6))] [(v, .inr (3, [.ref va, .ref vb, .int (nI n_6)])), (va, .inl (cI, 48, .inl fa_6)), (vb, .inl (cI, 48, .inl fb_6))] [(re, .inr (5, [.ref rp])), (rp, .inl (cI, 32, .inl fp))] [2, 3, 4] [0, 1] := ⟨rfl, rfl, rfl, rfl, by decide⟩
    refine goI0 (trV (As := [.int r_1]) (rest := []) ⟨hx, hb, hml, hown, hts⟩ gd_good (c_Va_push l D cB cI cJ v va vb n_6 fa_6 fb_6 r_1 (by omega) ) cal_Va_push ml_Re_47 ⟨Nat.le_of_ble_eq_true rfl, Nat.le_of_ble_eq_true rfl⟩ hZ hP hD hC 2 (ci := 3) rfl rfl rfl rfl hl.1 rfl (Nat.le_of_ble_eq_true rfl) d_Re_ofTwo_268 ⟨Nat.le_of_ble_eq_true rfl, Nat.le_of_ble_eq_true rfl⟩) hZ hP hD hS hC (fun r_268 w1 H locs hq hP hD hS => ?_)
    obtain ⟨n_268, fa_268, fb_268, rfl, hv0_268, hx_268⟩ := hq
    have hP : va_P D classes [(re, .inr (5, [.ref rp])), (rp, .inl (cI, 32, .inl fp)), (v, .inr (3, [.ref va, .ref vb, .int (nI n_268)])), (va, .inl (cI, 48, .inl fa_268)), (vb, .inl (cI, 48, .inl fb_268))] H := hP
    have hD : va_D A_ [(re, .inr (5, [.ref rp])), (rp, .inl (cI, 32, .inl fp)), (v, .inr (3, [.ref va, .ref vb, .int (nI n_268)])), (va, .inl (cI, 48, .inl fa_268)), (vb, .inl (cI, 48, .inl fb_268))] := hD
    refine lv_pop hx hb d_Re_ofTwo_271 rfl ?_
    refine lv_aload_n hx hb d_Re_ofTwo_272 rfl (lv_at hl 4 rfl) ?_
    refine lv_iload hx hb d_Re_ofTwo_273 (lv_at hl 0 rfl) ?_
    have hC : Cut [(re, .inr (5, [.ref rp])), (rp, .inl (cI, 32, .inl fp)), (v, .inr (3, [.ref va, .ref vb, .int (nI n_268)])), (va, .inl (cI, 48, .inl fa_268)), (vb, .inl (cI, 48, .inl fb_268))] [(v, .inr (3, [.ref va, .ref vb, .int (nI n_268)])), (va, .inl (cI, 48, .inl fa_268)), (vb, .inl (cI, 48, .inl fb_268))] [(re, .inr (5, [.ref rp])), (rp, .inl (cI, 32, .inl fp))] [2, 3, 4] [0, 1] := ⟨rfl, rfl, rfl, rfl, by decide⟩
    refine goI0 (trV (As := [.int r_6]) (rest := []) ⟨hx, hb, hml, hown, hts⟩ gd_good (c_Va_push l D cB cI cJ v va vb n_268 fa_268 fb_268 r_6 (by omega) ) cal_Va_push ml_Re_47 ⟨Nat.le_of_ble_eq_true rfl, Nat.le_of_ble_eq_true rfl⟩ hZ hP hD hC 2 (ci := 3) rfl rfl rfl rfl hl.1 rfl (Nat.le_of_ble_eq_true rfl) d_Re_ofTwo_275 ⟨Nat.le_of_ble_eq_true rfl, Nat.le_of_ble_eq_true rfl⟩) hZ hP hD hS hC (fun r_275 w1 H locs hq hP hD hS => ?_)
    obtain ⟨n_275, fa_275, fb_275, rfl, hv0_275, hx_275⟩ := hq
    have hP : va_P D classes [(re, .inr (5, [.ref rp])), (rp, .inl (cI, 32, .inl fp)), (v, .inr (3, [.ref va, .ref vb, .int (nI n_275)])), (va, .inl (cI, 48, .inl fa_275)), (vb, .inl (cI, 48, .inl fb_275))] H := hP
    have hD : va_D A_ [(re, .inr (5, [.ref rp])), (rp, .inl (cI, 32, .inl fp)), (v, .inr (3, [.ref va, .ref vb, .int (nI n_275)])), (va, .inl (cI, 48, .inl fa_275)), (vb, .inl (cI, 48, .inl fb_275))] := hD
    exact t_iret hx hb hr hlk d_Re_ofTwo_278 (hP.subm (ws' := [(re, .inr (5, [.ref rp])), (rp, .inl (cI, 32, .inl fp)), (v, .inr (3, [.ref va, .ref vb, .int (nI n_275)])), (va, .inl (cI, 48, .inl fa_275)), (vb, .inl (cI, 48, .inl fb_275))]) [0, 1, 2, 3, 4] rfl) (hD.sub (ws' := [(re, .inr (5, [.ref rp])), (rp, .inl (cI, 32, .inl fp)), (v, .inr (3, [.ref va, .ref vb, .int (nI n_275)])), (va, .inl (cI, 48, .inl fa_275)), (vb, .inl (cI, 48, .inl fb_275))]) [0, 1, 2, 3, 4] rfl rfl) hS ⟨_, rfl, rfl, rfl, _, _, _, _, rfl, (by omega), (by have e1 : n_1 = n - 1 := congrArg Prod.fst hx_1.2; have e2 : n_6 = n_1 - 1 := congrArg Prod.fst hx_6.2; rw [t_284, ← hx_1.1, ← hx_1.2, ← hx_6.1, ← hx_6.2, pushed (by omega) hx_268]; exact pR_map (fun q => (q, trunc 32 fp)) hx_275)⟩
  have gh_12_259 : ¬ nI c = 259 := fun z => h_12_259 ((nI_eq (a := c) (b := 259) (by omega) (by omega)).mp z)
  have gh_12_260 : ¬ nI c = 260 := fun z => h_12_260 ((nI_eq (a := c) (b := 260) (by omega) (by omega)).mp z)
  have gh_12_261 : ¬ nI c = 261 := fun z => h_12_261 ((nI_eq (a := c) (b := 261) (by omega) (by omega)).mp z)
  have gh_12_262 : ¬ nI c = 262 := fun z => h_12_262 ((nI_eq (a := c) (b := 262) (by omega) (by omega)).mp z)
  have gh_12_263 : ¬ nI c = 263 := fun z => h_12_263 ((nI_eq (a := c) (b := 263) (by omega) (by omega)).mp z)
  have gh_12_264 : ¬ nI c = 264 := fun z => h_12_264 ((nI_eq (a := c) (b := 264) (by omega) (by omega)).mp z)
  have gh_12_265 : ¬ nI c = 265 := fun z => h_12_265 ((nI_eq (a := c) (b := 265) (by omega) (by omega)).mp z)
  have gh_12_266 : ¬ nI c = 266 := fun z => h_12_266 ((nI_eq (a := c) (b := 266) (by omega) (by omega)).mp z)
  have gh_12_267 : ¬ nI c = 267 := fun z => h_12_267 ((nI_eq (a := c) (b := 267) (by omega) (by omega)).mp z)
  have gh_12_268 : ¬ nI c = 268 := fun z => h_12_268 ((nI_eq (a := c) (b := 268) (by omega) (by omega)).mp z)
  have gh_12_269 : ¬ nI c = 269 := fun z => h_12_269 ((nI_eq (a := c) (b := 269) (by omega) (by omega)).mp z)
  have gh_12_270 : ¬ nI c = 270 := fun z => h_12_270 ((nI_eq (a := c) (b := 270) (by omega) (by omega)).mp z)
  have gh_12_271 : ¬ nI c = 271 := fun z => h_12_271 ((nI_eq (a := c) (b := 271) (by omega) (by omega)).mp z)
  have gh_12_272 : ¬ nI c = 272 := fun z => h_12_272 ((nI_eq (a := c) (b := 272) (by omega) (by omega)).mp z)
  have gh_12_273 : ¬ nI c = 273 := fun z => h_12_273 ((nI_eq (a := c) (b := 273) (by omega) (by omega)).mp z)
  have gh_12_274 : ¬ nI c = 274 := fun z => h_12_274 ((nI_eq (a := c) (b := 274) (by omega) (by omega)).mp z)
  have gh_12_275 : ¬ nI c = 275 := fun z => h_12_275 ((nI_eq (a := c) (b := 275) (by omega) (by omega)).mp z)
  have gh_12_276 : ¬ nI c = 276 := fun z => h_12_276 ((nI_eq (a := c) (b := 276) (by omega) (by omega)).mp z)
  have gh_12_277 : ¬ nI c = 277 := fun z => h_12_277 ((nI_eq (a := c) (b := 277) (by omega) (by omega)).mp z)
  have gh_12_278 : ¬ nI c = 278 := fun z => h_12_278 ((nI_eq (a := c) (b := 278) (by omega) (by omega)).mp z)
  have gh_12_279 : ¬ nI c = 279 := fun z => h_12_279 ((nI_eq (a := c) (b := 279) (by omega) (by omega)).mp z)
  have gh_12_280 : ¬ nI c = 280 := fun z => h_12_280 ((nI_eq (a := c) (b := 280) (by omega) (by omega)).mp z)
  have gh_12_281 : ¬ nI c = 281 := fun z => h_12_281 ((nI_eq (a := c) (b := 281) (by omega) (by omega)).mp z)
  have gh_12_282 : ¬ nI c = 282 := fun z => h_12_282 ((nI_eq (a := c) (b := 282) (by omega) (by omega)).mp z)
  have gh_12_283 : ¬ nI c = 283 := fun z => h_12_283 ((nI_eq (a := c) (b := 283) (by omega) (by omega)).mp z)
  have gh_12_284 : ¬ nI c = 284 := fun z => h_12_284 ((nI_eq (a := c) (b := 284) (by omega) (by omega)).mp z)
  have hsw_12 : (nI c).toInt < 259 ∨ 284 < (nI c).toInt := by
    have z0 := lv_neT gh_12_259 (a := 259) (by decide); have z1 := lv_neT gh_12_260 (a := 260) (by decide); have z2 := lv_neT gh_12_261 (a := 261) (by decide); have z3 := lv_neT gh_12_262 (a := 262) (by decide); have z4 := lv_neT gh_12_263 (a := 263) (by decide); have z5 := lv_neT gh_12_264 (a := 264) (by decide); have z6 := lv_neT gh_12_265 (a := 265) (by decide); have z7 := lv_neT gh_12_266 (a := 266) (by decide); have z8 := lv_neT gh_12_267 (a := 267) (by decide); have z9 := lv_neT gh_12_268 (a := 268) (by decide); have z10 := lv_neT gh_12_269 (a := 269) (by decide); have z11 := lv_neT gh_12_270 (a := 270) (by decide); have z12 := lv_neT gh_12_271 (a := 271) (by decide); have z13 := lv_neT gh_12_272 (a := 272) (by decide); have z14 := lv_neT gh_12_273 (a := 273) (by decide); have z15 := lv_neT gh_12_274 (a := 274) (by decide); have z16 := lv_neT gh_12_275 (a := 275) (by decide); have z17 := lv_neT gh_12_276 (a := 276) (by decide); have z18 := lv_neT gh_12_277 (a := 277) (by decide); have z19 := lv_neT gh_12_278 (a := 278) (by decide); have z20 := lv_neT gh_12_279 (a := 279) (by decide); have z21 := lv_neT gh_12_280 (a := 280) (by decide); have z22 := lv_neT gh_12_281 (a := 281) (by decide); have z23 := lv_neT gh_12_282 (a := 282) (by decide); have z24 := lv_neT gh_12_283 (a := 283) (by decide); have z25 := lv_neT gh_12_284 (a := 284) (by decide); omega
  refine lv_tableOut (tgt := 279) hx hb d_Re_ofTwo_12 hsw_12 (by decide) ?_
  clear gh_12_259
  clear gh_12_260
  clear gh_12_261
  clear gh_12_262
  clear gh_12_263
  clear gh_12_264
  clear gh_12_265
  clear gh_12_266
  clear gh_12_267
  clear gh_12_268
  clear gh_12_269
  clear gh_12_270
  clear gh_12_271
  clear gh_12_272
  clear gh_12_273
  clear gh_12_274
  clear gh_12_275
  clear gh_12_276
  clear gh_12_277
  clear gh_12_278
  clear gh_12_279
  clear gh_12_280
  clear gh_12_281
  clear gh_12_282
  clear gh_12_283
  clear gh_12_284
  clear hsw_12
  refine lv_iload hx hb d_Re_ofTwo_279 (lv_at hl 0 rfl) ?_
  refine lv_bipush (v := 16) hx hb d_Re_ofTwo_281 (by decide) ?_
  refine lv_ishr hx hb d_Re_ofTwo_283 ?_
  refine lv_iload_n hx hb d_Re_ofTwo_284 rfl (lv_at hl 1 rfl) ?_
  refine lv_bipush (v := 16) hx hb d_Re_ofTwo_285 (by decide) ?_
  refine lv_ishr hx hb d_Re_ofTwo_287 ?_
  refine lv_aload_n hx hb d_Re_ofTwo_288 rfl (lv_at hl 4 rfl) ?_
  have hC : Cut [(re, .inr (5, [.ref rp])), (rp, .inl (cI, 32, .inl fp)), (v, .inr (3, [.ref va, .ref vb, .int (nI n_6)])), (va, .inl (cI, 48, .inl fa_6)), (vb, .inl (cI, 48, .inl fb_6))] [(v, .inr (3, [.ref va, .ref vb, .int (nI n_6)])), (va, .inl (cI, 48, .inl fa_6)), (vb, .inl (cI, 48, .inl fb_6))] [(re, .inr (5, [.ref rp])), (rp, .inl (cI, 32, .inl fp))] [2, 3, 4] [0, 1] := ⟨rfl, rfl, rfl, rfl, by decide⟩
  refine goI0 (trS (As := [.int (r_6 >>> (16 &&& 31)), .int (r_1 >>> (16 &&& 31)), .ref v]) (rest := []) ⟨hx, hb, hml, hown, hts⟩ gd_good (c_Re_roll l D cB cI cJ v va vb n_6 fa_6 fb_6 (r_6 >>> (16 &&& 31)) (r_1 >>> (16 &&& 31)) (by omega) ) cal_Re_roll ml_Re_82 ⟨Nat.le_of_ble_eq_true rfl, Nat.le_of_ble_eq_true rfl⟩ hZ hP hD hC rfl hl.1 rfl (Nat.le_of_ble_eq_true rfl) d_Re_ofTwo_289 ⟨Nat.le_of_ble_eq_true rfl, Nat.le_of_ble_eq_true rfl⟩) hZ hP hD hS hC (fun r_289 w1 H locs hq hP hD hS => ?_)
  obtain ⟨n_289, fa_289, fb_289, rfl, hv0_289, hx_289⟩ := hq
  have hP : va_P D classes [(re, .inr (5, [.ref rp])), (rp, .inl (cI, 32, .inl fp)), (v, .inr (3, [.ref va, .ref vb, .int (nI n_289)])), (va, .inl (cI, 48, .inl fa_289)), (vb, .inl (cI, 48, .inl fb_289))] H := hP
  have hD : va_D A_ [(re, .inr (5, [.ref rp])), (rp, .inl (cI, 32, .inl fp)), (v, .inr (3, [.ref va, .ref vb, .int (nI n_289)])), (va, .inl (cI, 48, .inl fa_289)), (vb, .inl (cI, 48, .inl fb_289))] := hD
  exact t_iret hx hb hr hlk d_Re_ofTwo_292 (hP.subm (ws' := [(re, .inr (5, [.ref rp])), (rp, .inl (cI, 32, .inl fp)), (v, .inr (3, [.ref va, .ref vb, .int (nI n_289)])), (va, .inl (cI, 48, .inl fa_289)), (vb, .inl (cI, 48, .inl fb_289))]) [0, 1, 2, 3, 4] rfl) (hD.sub (ws' := [(re, .inr (5, [.ref rp])), (rp, .inl (cI, 32, .inl fp)), (v, .inr (3, [.ref va, .ref vb, .int (nI n_289)])), (va, .inl (cI, 48, .inl fa_289)), (vb, .inl (cI, 48, .inl fb_289))]) [0, 1, 2, 3, 4] rfl rfl) hS ⟨_, rfl, rfl, rfl, _, _, _, _, rfl, (by omega), (by rw [t_roll (by omega), ← hx_1.1, ← hx_1.2, ← hx_6.1, ← hx_6.2]; exact pR_map (fun q => (q, trunc 32 fp)) hx_289)⟩
set_option maxHeartbeats 1000000 in
set_option maxRecDepth 100000 in
theorem c_Re_reckon (l : Launch) (D : va_G) (cB cI cJ : ClassId) (re rp v va vb : Nat) (fp : Nat → Int32) (n : Nat) (fa : Nat → Int32) (fb : Nat → Int32) (c : Nat) (hiVa : n ≤ 48) (hc : c ≤ 511) : Tr l D classes (TY cB cI cJ) gd_tbl nx_tbl y_Re_reckon b_Re_reckon 4 (some .int) ({ frames := 4, cells := 0, slots := 0, locals := 87 }) [.ref re, .int (nI c), .ref v] [(re, .inr (5, [.ref rp])), (rp, .inl (cI, 32, .inl fp)), (v, .inr (3, [.ref va, .ref vb, .int (nI n)])), (va, .inl (cI, 48, .inl fa)), (vb, .inl (cI, 48, .inl fb))] (pI0 (fun r w => ∃ (fp' : Nat → Int32) (n' : Nat) (fa' : Nat → Int32) (fb' : Nat → Int32), w = [(re, .inr (5, [.ref rp])), (rp, .inl (cI, 32, .inl fp')), (v, .inr (3, [.ref va, .ref vb, .int (nI n')])), (va, .inl (cI, 48, .inl fa')), (vb, .inl (cI, 48, .inl fb'))] ∧ (n' ≤ 48) ∧ (qR r (vS n' fa', trunc 32 fp') = gP (reckP c (vS n fa) (trunc 32 fp))))) := by
  refine Tr.intro (by decide +kernel) nx_ok (Nat.le_of_ble_eq_true rfl) ?_
  intro p_ e_ s_ m_ args_ below_ meth_ c_ A_ ls hx hb hml hown hts hr hlk hnm hZ hP hD hS hl
  have hl : lv_has ls 4 [(0, .ref re), (1, .int (nI c)), (2, .ref v)] := hl
  refine lv_iload_n hx hb d_Re_reckon_0 rfl (lv_at hl 1 rfl) ?_
  refine roS (As := [.int (nI c)]) (rest := []) ⟨hx, hb, hml, hown, hts⟩ gd_good (c_Re_valuesTaken l D cB cI cJ c (by omega)) cal_Re_valuesTaken ml_Re_21 ⟨Nat.le_of_ble_eq_true rfl, Nat.le_of_ble_eq_true rfl⟩ hZ hP hD (isC := []) ⟨rfl, rfl⟩ rfl hl.1 rfl (Nat.le_of_ble_eq_true rfl) d_Re_reckon_1 ⟨Nat.le_of_ble_eq_true rfl, Nat.le_of_ble_eq_true rfl⟩ (fun v hv => ?_)
  subst hv
  have htk4 := takN_le c
  obtain ⟨tk, etk⟩ : ∃ z, takN c = z := ⟨_, rfl⟩
  rw [etk] at htk4
  refine lv_tv (y := nI tk) (congrArg nI etk) ?_
  refine lv_istore_n (lv' := [(3, .int (nI tk)), (0, .ref re), (1, .int (nI c)), (2, .ref v)]) hx hb d_Re_reckon_4 rfl hl (by decide) rfl (fun ls hl => ?_)
  refine lv_iload_n hx hb d_Re_reckon_5 rfl (lv_at hl 0 rfl) ?_
  refine lv_if_ne (tgt := 12) hx hb d_Re_reckon_6 (by decide) (fun c_6 => ?_) (fun c_6 => ?_)
  · have n_6 : ¬ (tk) = (0) := fun z => c_6 ((nI_eq (a := tk) (b := 0) (by omega) (by omega)).mpr z)
    refine lv_aload_n hx hb d_Re_reckon_12 rfl (lv_at hl 3 rfl) ?_
    refine roV (As := []) (rest := []) ⟨hx, hb, hml, hown, hts⟩ gd_good (c_Va_size l D cB cI cJ v va vb n) cal_Va_size ml_Re_25 ⟨Nat.le_of_ble_eq_true rfl, Nat.le_of_ble_eq_true rfl⟩ hZ hP hD (isC := [2]) ⟨rfl, rfl⟩ 2 (ci := 3) rfl rfl rfl rfl hl.1 rfl (Nat.le_of_ble_eq_true rfl) d_Re_reckon_13 ⟨Nat.le_of_ble_eq_true rfl, Nat.le_of_ble_eq_true rfl⟩ (fun v hv => ?_)
    subst hv
    refine lv_iload_n hx hb d_Re_reckon_16 rfl (lv_at hl 0 rfl) ?_
    refine lv_icmp_ge (tgt := 23) hx hb d_Re_reckon_17 (by decide) (fun c_17 => ?_) (fun c_17 => ?_)
    · have n_17 : (tk) ≤ (n) := (nI_leI (a := tk) (b := n) (by omega) (by omega)).mp c_17
      refine lv_iload_n hx hb d_Re_reckon_23 rfl (lv_at hl 0 rfl) ?_
      by_cases h_24_1 : tk = 1
      · subst h_24_1
        refine lv_lookup (tgt := 52) (off := 28) hx hb d_Re_reckon_24 (by decide) (by first | rfl | decide) (by decide) ?_
        refine lv_aload_n hx hb d_Re_reckon_52 rfl (lv_at hl 1 rfl) ?_
        refine lv_iload_n hx hb d_Re_reckon_53 rfl (lv_at hl 2 rfl) ?_
        refine lv_aload_n hx hb d_Re_reckon_54 rfl (lv_at hl 3 rfl) ?_
        have hC : Cut [(re, .inr (5, [.ref rp])), (rp, .inl (cI, 32, .inl fp)), (v, .inr (3, [.ref va, .ref vb, .int (nI n)])), (va, .inl (cI, 48, .inl fa)), (vb, .inl (cI, 48, .inl fb))] [(re, .inr (5, [.ref rp])), (rp, .inl (cI, 32, .inl fp)), (v, .inr (3, [.ref va, .ref vb, .int (nI n)])), (va, .inl (cI, 48, .inl fa)), (vb, .inl (cI, 48, .inl fb))] [] [0, 1, 2, 3, 4] [] := ⟨rfl, rfl, rfl, rfl, by decide⟩
        refine goI0 (trV (As := [.int (nI c), .ref v]) (rest := []) ⟨hx, hb, hml, hown, hts⟩ gd_good (c_Re_ofOne l D cB cI cJ re rp v va vb fp n fa fb c (by omega) (by omega) (by omega)) cal_Re_ofOne ml_Re_31 ⟨Nat.le_of_ble_eq_true rfl, Nat.le_of_ble_eq_true rfl⟩ hZ hP hD hC 0 (ci := 5) rfl rfl rfl rfl hl.1 rfl (Nat.le_of_ble_eq_true rfl) d_Re_reckon_55 ⟨Nat.le_of_ble_eq_true rfl, Nat.le_of_ble_eq_true rfl⟩) hZ hP hD hS hC (fun r_55 w1 H locs hq hP hD hS => ?_)
        obtain ⟨n_55, fa_55, fb_55, rfl, hv0_55, hx_55⟩ := hq
        have hP : va_P D classes [(re, .inr (5, [.ref rp])), (rp, .inl (cI, 32, .inl fp)), (v, .inr (3, [.ref va, .ref vb, .int (nI n_55)])), (va, .inl (cI, 48, .inl fa_55)), (vb, .inl (cI, 48, .inl fb_55))] H := hP
        have hD : va_D A_ [(re, .inr (5, [.ref rp])), (rp, .inl (cI, 32, .inl fp)), (v, .inr (3, [.ref va, .ref vb, .int (nI n_55)])), (va, .inl (cI, 48, .inl fa_55)), (vb, .inl (cI, 48, .inl fb_55))] := hD
        exact t_iret hx hb hr hlk d_Re_reckon_58 (hP.subm (ws' := [(re, .inr (5, [.ref rp])), (rp, .inl (cI, 32, .inl fp)), (v, .inr (3, [.ref va, .ref vb, .int (nI n_55)])), (va, .inl (cI, 48, .inl fa_55)), (vb, .inl (cI, 48, .inl fb_55))]) [0, 1, 2, 3, 4] rfl) (hD.sub (ws' := [(re, .inr (5, [.ref rp])), (rp, .inl (cI, 32, .inl fp)), (v, .inr (3, [.ref va, .ref vb, .int (nI n_55)])), (va, .inl (cI, 48, .inl fa_55)), (vb, .inl (cI, 48, .inl fb_55))]) [0, 1, 2, 3, 4] rfl rfl) hS ⟨_, rfl, rfl, rfl, _, _, _, _, rfl, (by omega), (by rw [rk_1 (v := vS n fa) etk (show ¬ n < 1 by omega)]; exact pR_map (fun q => (q, trunc 32 fp)) hx_55)⟩
      by_cases h_24_2 : tk = 2
      · subst h_24_2
        refine lv_lookup (tgt := 59) (off := 35) hx hb d_Re_reckon_24 (by decide) (by first | rfl | decide) (by decide) ?_
        refine lv_aload_n hx hb d_Re_reckon_59 rfl (lv_at hl 1 rfl) ?_
        refine lv_iload_n hx hb d_Re_reckon_60 rfl (lv_at hl 2 rfl) ?_
        refine lv_aload_n hx hb d_Re_reckon_61 rfl (lv_at hl 3 rfl) ?_
        have hC : Cut [(re, .inr (5, [.ref rp])), (rp, .inl (cI, 32, .inl fp)), (v, .inr (3, [.ref va, .ref vb, .int (nI n)])), (va, .inl (cI, 48, .inl fa)), (vb, .inl (cI, 48, .inl fb))] [(re, .inr (5, [.ref rp])), (rp, .inl (cI, 32, .inl fp)), (v, .inr (3, [.ref va, .ref vb, .int (nI n)])), (va, .inl (cI, 48, .inl fa)), (vb, .inl (cI, 48, .inl fb))] [] [0, 1, 2, 3, 4] [] := ⟨rfl, rfl, rfl, rfl, by decide⟩
        refine goI0 (trV (As := [.int (nI c), .ref v]) (rest := []) ⟨hx, hb, hml, hown, hts⟩ gd_good (c_Re_ofTwo l D cB cI cJ re rp v va vb fp n fa fb c (by omega) (by omega) (by omega)) cal_Re_ofTwo ml_Re_35 ⟨Nat.le_of_ble_eq_true rfl, Nat.le_of_ble_eq_true rfl⟩ hZ hP hD hC 0 (ci := 5) rfl rfl rfl rfl hl.1 rfl (Nat.le_of_ble_eq_true rfl) d_Re_reckon_62 ⟨Nat.le_of_ble_eq_true rfl, Nat.le_of_ble_eq_true rfl⟩) hZ hP hD hS hC (fun r_62 w1 H locs hq hP hD hS => ?_)
        obtain ⟨fp_62, n_62, fa_62, fb_62, rfl, hv0_62, hx_62⟩ := hq
        have hP : va_P D classes [(re, .inr (5, [.ref rp])), (rp, .inl (cI, 32, .inl fp_62)), (v, .inr (3, [.ref va, .ref vb, .int (nI n_62)])), (va, .inl (cI, 48, .inl fa_62)), (vb, .inl (cI, 48, .inl fb_62))] H := hP
        have hD : va_D A_ [(re, .inr (5, [.ref rp])), (rp, .inl (cI, 32, .inl fp_62)), (v, .inr (3, [.ref va, .ref vb, .int (nI n_62)])), (va, .inl (cI, 48, .inl fa_62)), (vb, .inl (cI, 48, .inl fb_62))] := hD
        exact t_iret hx hb hr hlk d_Re_reckon_65 (hP.subm (ws' := [(re, .inr (5, [.ref rp])), (rp, .inl (cI, 32, .inl fp_62)), (v, .inr (3, [.ref va, .ref vb, .int (nI n_62)])), (va, .inl (cI, 48, .inl fa_62)), (vb, .inl (cI, 48, .inl fb_62))]) [0, 1, 2, 3, 4] rfl) (hD.sub (ws' := [(re, .inr (5, [.ref rp])), (rp, .inl (cI, 32, .inl fp_62)), (v, .inr (3, [.ref va, .ref vb, .int (nI n_62)])), (va, .inl (cI, 48, .inl fa_62)), (vb, .inl (cI, 48, .inl fb_62))]) [0, 1, 2, 3, 4] rfl rfl) hS ⟨_, rfl, rfl, rfl, _, _, _, _, rfl, (by omega), (by rw [rk_2 (v := vS n fa) etk (show ¬ n < 2 by omega)]; exact hx_62)⟩
      have gh_24_1 : ¬ nI tk = 1 := fun z => h_24_1 ((nI_eq (a := tk) (b := 1) (by omega) (by omega)).mp z)
      have gh_24_2 : ¬ nI tk = 2 := fun z => h_24_2 ((nI_eq (a := tk) (b := 2) (by omega) (by omega)).mp z)
      refine lv_lookup (tgt := 66) (off := 42) hx hb d_Re_reckon_24 (by decide) (by show Op.lookupswitch.offset _ _ _ = _; first | (rw [lv_osw gh_24_1 (by decide), lv_osw gh_24_2 (by decide)]; done) | (rw [lv_osw gh_24_1 (by decide), lv_osw gh_24_2 (by decide)]; rfl)) (by decide) ?_
      clear gh_24_1
      clear gh_24_2
      refine lv_aload_n hx hb d_Re_reckon_66 rfl (lv_at hl 3 rfl) ?_
      have hC : Cut [(re, .inr (5, [.ref rp])), (rp, .inl (cI, 32, .inl fp)), (v, .inr (3, [.ref va, .ref vb, .int (nI n)])), (va, .inl (cI, 48, .inl fa)), (vb, .inl (cI, 48, .inl fb))] [(v, .inr (3, [.ref va, .ref vb, .int (nI n)])), (va, .inl (cI, 48, .inl fa)), (vb, .inl (cI, 48, .inl fb))] [(re, .inr (5, [.ref rp])), (rp, .inl (cI, 32, .inl fp))] [2, 3, 4] [0, 1] := ⟨rfl, rfl, rfl, rfl, by decide⟩
      refine goI0 (trS (As := [.ref v]) (rest := []) ⟨hx, hb, hml, hown, hts⟩ gd_good (c_Re_choose l D cB cI cJ v va vb n fa fb (by omega) ) cal_Re_choose ml_Re_38 ⟨Nat.le_of_ble_eq_true rfl, Nat.le_of_ble_eq_true rfl⟩ hZ hP hD hC rfl hl.1 rfl (Nat.le_of_ble_eq_true rfl) d_Re_reckon_67 ⟨Nat.le_of_ble_eq_true rfl, Nat.le_of_ble_eq_true rfl⟩) hZ hP hD hS hC (fun r_67 w1 H locs hq hP hD hS => ?_)
      obtain ⟨n_67, fa_67, fb_67, rfl, hv0_67, hx_67⟩ := hq
      have hP : va_P D classes [(re, .inr (5, [.ref rp])), (rp, .inl (cI, 32, .inl fp)), (v, .inr (3, [.ref va, .ref vb, .int (nI n_67)])), (va, .inl (cI, 48, .inl fa_67)), (vb, .inl (cI, 48, .inl fb_67))] H := hP
      have hD : va_D A_ [(re, .inr (5, [.ref rp])), (rp, .inl (cI, 32, .inl fp)), (v, .inr (3, [.ref va, .ref vb, .int (nI n_67)])), (va, .inl (cI, 48, .inl fa_67)), (vb, .inl (cI, 48, .inl fb_67))] := hD
      exact t_iret hx hb hr hlk d_Re_reckon_70 (hP.subm (ws' := [(re, .inr (5, [.ref rp])), (rp, .inl (cI, 32, .inl fp)), (v, .inr (3, [.ref va, .ref vb, .int (nI n_67)])), (va, .inl (cI, 48, .inl fa_67)), (vb, .inl (cI, 48, .inl fb_67))]) [0, 1, 2, 3, 4] rfl) (hD.sub (ws' := [(re, .inr (5, [.ref rp])), (rp, .inl (cI, 32, .inl fp)), (v, .inr (3, [.ref va, .ref vb, .int (nI n_67)])), (va, .inl (cI, 48, .inl fa_67)), (vb, .inl (cI, 48, .inl fb_67))]) [0, 1, 2, 3, 4] rfl rfl) hS ⟨_, rfl, rfl, rfl, _, _, _, _, rfl, (by omega), (by rw [rk_4 (v := vS n fa) (by rw [etk]; omega) (by rw [etk]; omega) (by rw [etk]; omega) (by rw [etk]; show ¬ n < tk; omega)]; exact pR_map (fun q => (q, trunc 32 fp)) hx_67)⟩
    · have n_17 : ¬ (tk) ≤ (n) := fun z => c_17 ((nI_leI (a := tk) (b := n) (by omega) (by omega)).mpr z)
      refine lv_bipush (v := (-4)) hx hb d_Re_reckon_20 (by decide) ?_
      exact t_iret hx hb hr hlk d_Re_reckon_22 (hP.subm (ws' := [(re, .inr (5, [.ref rp])), (rp, .inl (cI, 32, .inl fp)), (v, .inr (3, [.ref va, .ref vb, .int (nI n)])), (va, .inl (cI, 48, .inl fa)), (vb, .inl (cI, 48, .inl fb))]) [0, 1, 2, 3, 4] rfl) (hD.sub (ws' := [(re, .inr (5, [.ref rp])), (rp, .inl (cI, 32, .inl fp)), (v, .inr (3, [.ref va, .ref vb, .int (nI n)])), (va, .inl (cI, 48, .inl fa)), (vb, .inl (cI, 48, .inl fb))]) [0, 1, 2, 3, 4] rfl rfl) hS ⟨_, rfl, rfl, rfl, _, _, _, _, rfl, (by omega), (by rw [rk_s (v := vS n fa) (by rw [etk]; exact n_6) (by rw [etk]; show n < tk; omega)]; exact pR_no (by decide) (by decide) _)⟩
  · have n_6 : (tk) = (0) := (nI_eq (a := tk) (b := 0) (by omega) (by omega)).mp c_6
    refine lv_bipush (v := (-5)) hx hb d_Re_reckon_9 (by decide) ?_
    exact t_iret hx hb hr hlk d_Re_reckon_11 (hP.subm (ws' := [(re, .inr (5, [.ref rp])), (rp, .inl (cI, 32, .inl fp)), (v, .inr (3, [.ref va, .ref vb, .int (nI n)])), (va, .inl (cI, 48, .inl fa)), (vb, .inl (cI, 48, .inl fb))]) [0, 1, 2, 3, 4] rfl) (hD.sub (ws' := [(re, .inr (5, [.ref rp])), (rp, .inl (cI, 32, .inl fp)), (v, .inr (3, [.ref va, .ref vb, .int (nI n)])), (va, .inl (cI, 48, .inl fa)), (vb, .inl (cI, 48, .inl fb))]) [0, 1, 2, 3, 4] rfl rfl) hS ⟨_, rfl, rfl, rfl, _, _, _, _, rfl, (by omega), (by rw [rk_0 (etk.trans n_6)]; exact pR_no (by decide) (by decide) _)⟩
