theorem in_ok {i : Int32} {n : Nat} (h1 : ¬ i < 0) (h2 : i < nI n) (h4 : n < 2 ^ 31) : ∃ j : Nat, j < n ∧ i = nI j := by
  obtain ⟨j, hj, rfl⟩ := nI_of h1
  exact ⟨j, (nI_ltI hj h4).mp h2, rfl⟩
theorem lt_min {j n : Nat} (h : ¬ n ≤ j) : j = min j n := by omega
theorem lt_le {j n : Nat} (h : ¬ n ≤ j) : j ≤ n := by omega
def isK (k : Int32) : Int32 := if k < 0 then 0 else if 2 < k then 0 else 1
def okI (n : Nat) (i : Int32) : Prop := ¬ i < 0 ∧ i < nI n
def okB (b : Int32) : Prop := ¬ b < 0 ∧ b ≤ 255
def selK (k : Int32) (p g q : Nat) : Nat := if k = 1 then g else if k = 2 then q else p
theorem kind0 {k : Int32} (h : ¬ isK k = 0) (h1 : ¬ k = 1) (h2 : ¬ k = 2) : k = 0 := by
  unfold isK at h
  by_cases a : k < 0
  · simp [a] at h
  · by_cases b : 2 < k
    · simp [a, b] at h
    · obtain ⟨j, hj, rfl⟩ := nI_of a
      have hb : j ≤ 2 := by
        rcases Nat.lt_or_ge 2 j with q | q
        · exact absurd (show nI 2 < nI j from nI_lt q hj) b
        · exact q
      rcases (show j = 0 ∨ j = 1 ∨ j = 2 by omega) with rfl | rfl | rfl
      · rfl
      · exact absurd rfl h1
      · exact absurd rfl h2
def app4 (f : Nat → Int32) (n : Nat) (x : Int32) : Nat → Int32 := upd (upd (upd (upd f n (vp_nar .byte (x >>> (24 &&& 31)).toInt8.toInt32)) (n + 1) (vp_nar .byte (x >>> (16 &&& 31)).toInt8.toInt32)) (n + 2) (vp_nar .byte (x >>> (8 &&& 31)).toInt8.toInt32)) (n + 3) (vp_nar .byte x.toInt8.toInt32)
def hasS (n : Nat) (k : Int32) : Int32 := if k < 0 then 0 else if nI n ≤ k then 0 else 1
def hasO (n : Nat) (i w : Int32) : Int32 := if i < 0 then 0 else if nI n ≤ i then 0 else if w < 0 then 0 else if 7 ≤ w then 0 else 1
theorem hasS0 {n : Nat} {k : Int32} (h : n = 0) : hasS n k = 0 := by
  subst h
  unfold hasS
  by_cases a : k < 0
  · simp [a]
  · rw [if_neg a, if_pos (show nI 0 ≤ k from Int32.not_lt.mp a)]
theorem hasO0 {n : Nat} {i w : Int32} (h : n = 0) : hasO n i w = 0 := by
  subst h
  unfold hasO
  by_cases a : i < 0
  · simp [a]
  · rw [if_neg a, if_pos (show nI 0 ≤ i from Int32.not_lt.mp a)]
abbrev b_CO_isKind : ByteArray := prog_1_method_10_code
abbrev y_CO_isKind : MethodName := ⟨"CharOutlines", "isKind", "(I)Z"⟩
set_option maxRecDepth 100000 in
theorem cal_CO_isKind : CalS gd_tbl y_CO_isKind b_CO_isKind 1 (some .boolean) 1 := ⟨⟨List.mem_filter.mpr ⟨List.mem_of_getElem? (i := 411) rfl, rfl⟩, List.mem_filter.mpr ⟨List.mem_of_getElem? (i := 60) rfl, rfl⟩, ⟨by decide, by decide⟩, by decide +kernel⟩, List.mem_filter.mpr ⟨List.mem_of_getElem? (i := 410) rfl, rfl⟩⟩
theorem d_CO_isKind_0 : decode b_CO_isKind 0 = .ok (.iload_n 0, 1) := by decide +kernel
theorem d_CO_isKind_1 : decode b_CO_isKind 1 = .ok (.ifCond .lt 12, 3) := by decide +kernel
theorem d_CO_isKind_4 : decode b_CO_isKind 4 = .ok (.iload_n 0, 1) := by decide +kernel
theorem d_CO_isKind_5 : decode b_CO_isKind 5 = .ok (.iconst 2, 1) := by decide +kernel
theorem d_CO_isKind_6 : decode b_CO_isKind 6 = .ok (.if_icmp .gt 7, 3) := by decide +kernel
theorem d_CO_isKind_9 : decode b_CO_isKind 9 = .ok (.iconst 1, 1) := by decide +kernel
theorem d_CO_isKind_10 : decode b_CO_isKind 10 = .ok (.goto 4, 3) := by decide +kernel
theorem d_CO_isKind_13 : decode b_CO_isKind 13 = .ok (.iconst 0, 1) := by decide +kernel
theorem d_CO_isKind_14 : decode b_CO_isKind 14 = .ok (.ireturn, 1) := by decide +kernel
abbrev b_By_makeRoom : ByteArray := prog_2_method_9_code
abbrev y_By_makeRoom : MethodName := ⟨"CharOutlines$Bytes", "makeRoom", "(I)V"⟩
set_option maxRecDepth 100000 in
theorem cal_By_makeRoom : CalV gd_tbl "CharOutlines$Bytes" y_By_makeRoom b_By_makeRoom 2 none 1 := ⟨⟨List.mem_filter.mpr ⟨List.mem_of_getElem? (i := 254) rfl, rfl⟩, List.mem_filter.mpr ⟨List.mem_of_getElem? (i := 61) rfl, rfl⟩, ⟨by decide, by decide⟩, by decide +kernel⟩, List.mem_filter.mpr ⟨List.mem_of_getElem? (i := 253) rfl, rfl⟩, List.mem_filter.mpr ⟨List.mem_of_getElem? (i := 0) rfl, rfl⟩⟩
theorem d_By_makeRoom_0 : decode b_By_makeRoom 0 = .ok (.iload_n 1, 1) := by decide +kernel
theorem d_By_makeRoom_1 : decode b_By_makeRoom 1 = .ok (.aload_n 0, 1) := by decide +kernel
theorem d_By_makeRoom_2 : decode b_By_makeRoom 2 = .ok (.getfield 11, 3) := by decide +kernel
theorem d_By_makeRoom_5 : decode b_By_makeRoom 5 = .ok (.arraylength, 1) := by decide +kernel
theorem d_By_makeRoom_6 : decode b_By_makeRoom 6 = .ok (.if_icmp .le 38, 3) := by decide +kernel
theorem d_By_makeRoom_9 : decode b_By_makeRoom 9 = .ok (.iload_n 1, 1) := by decide +kernel
theorem d_By_makeRoom_10 : decode b_By_makeRoom 10 = .ok (.sipush 16384, 3) := by decide +kernel
theorem d_By_makeRoom_13 : decode b_By_makeRoom 13 = .ok (.if_icmp .gt 31, 3) := by decide +kernel
theorem d_By_makeRoom_16 : decode b_By_makeRoom 16 = .ok (.aload_n 0, 1) := by decide +kernel
theorem d_By_makeRoom_17 : decode b_By_makeRoom 17 = .ok (.aload_n 0, 1) := by decide +kernel
theorem d_By_makeRoom_18 : decode b_By_makeRoom 18 = .ok (.getfield 11, 3) := by decide +kernel
theorem d_By_makeRoom_21 : decode b_By_makeRoom 21 = .ok (.sipush 16384, 3) := by decide +kernel
theorem d_By_makeRoom_24 : decode b_By_makeRoom 24 = .ok (.iload_n 1, 1) := by decide +kernel
theorem d_By_makeRoom_25 : decode b_By_makeRoom 25 = .ok (.iconst 2, 1) := by decide +kernel
theorem d_By_makeRoom_26 : decode b_By_makeRoom 26 = .ok (.aload_n 0, 1) := by decide +kernel
theorem d_By_makeRoom_27 : decode b_By_makeRoom 27 = .ok (.getfield 11, 3) := by decide +kernel
theorem d_By_makeRoom_30 : decode b_By_makeRoom 30 = .ok (.arraylength, 1) := by decide +kernel
theorem d_By_makeRoom_31 : decode b_By_makeRoom 31 = .ok (.imul, 1) := by decide +kernel
theorem d_By_makeRoom_32 : decode b_By_makeRoom 32 = .ok (.invokestatic 35, 3) := by decide +kernel
theorem d_By_makeRoom_35 : decode b_By_makeRoom 35 = .ok (.invokestatic 41, 3) := by decide +kernel
theorem d_By_makeRoom_38 : decode b_By_makeRoom 38 = .ok (.invokestatic 44, 3) := by decide +kernel
theorem d_By_makeRoom_41 : decode b_By_makeRoom 41 = .ok (.putfield 11, 3) := by decide +kernel
theorem d_By_makeRoom_44 : decode b_By_makeRoom 44 = .ok (.return_, 1) := by decide +kernel
abbrev b_By_append : ByteArray := prog_2_method_5_code
abbrev y_By_append : MethodName := ⟨"CharOutlines$Bytes", "append", "(I)V"⟩
set_option maxRecDepth 100000 in
theorem cal_By_append : CalV gd_tbl "CharOutlines$Bytes" y_By_append b_By_append 3 none 1 := ⟨⟨List.mem_filter.mpr ⟨List.mem_of_getElem? (i := 250) rfl, rfl⟩, List.mem_filter.mpr ⟨List.mem_of_getElem? (i := 61) rfl, rfl⟩, ⟨by decide, by decide⟩, by decide +kernel⟩, List.mem_filter.mpr ⟨List.mem_of_getElem? (i := 248) rfl, rfl⟩, List.mem_filter.mpr ⟨List.mem_of_getElem? (i := 249) rfl, rfl⟩⟩
theorem d_By_append_0 : decode b_By_append 0 = .ok (.aload_n 0, 1) := by decide +kernel
theorem d_By_append_1 : decode b_By_append 1 = .ok (.getfield 15, 3) := by decide +kernel
theorem d_By_append_4 : decode b_By_append 4 = .ok (.iconst 4, 1) := by decide +kernel
theorem d_By_append_5 : decode b_By_append 5 = .ok (.iadd, 1) := by decide +kernel
theorem d_By_append_6 : decode b_By_append 6 = .ok (.istore_n 2, 1) := by decide +kernel
theorem d_By_append_7 : decode b_By_append 7 = .ok (.aload_n 0, 1) := by decide +kernel
theorem d_By_append_8 : decode b_By_append 8 = .ok (.iload_n 2, 1) := by decide +kernel
theorem d_By_append_9 : decode b_By_append 9 = .ok (.invokevirtual 25, 3) := by decide +kernel
theorem d_By_append_12 : decode b_By_append 12 = .ok (.iload_n 2, 1) := by decide +kernel
theorem d_By_append_13 : decode b_By_append 13 = .ok (.aload_n 0, 1) := by decide +kernel
theorem d_By_append_14 : decode b_By_append 14 = .ok (.getfield 11, 3) := by decide +kernel
theorem d_By_append_17 : decode b_By_append 17 = .ok (.arraylength, 1) := by decide +kernel
theorem d_By_append_18 : decode b_By_append 18 = .ok (.if_icmp .le 4, 3) := by decide +kernel
theorem d_By_append_21 : decode b_By_append 21 = .ok (.return_, 1) := by decide +kernel
theorem d_By_append_22 : decode b_By_append 22 = .ok (.aload_n 0, 1) := by decide +kernel
theorem d_By_append_23 : decode b_By_append 23 = .ok (.getfield 11, 3) := by decide +kernel
theorem d_By_append_26 : decode b_By_append 26 = .ok (.aload_n 0, 1) := by decide +kernel
theorem d_By_append_27 : decode b_By_append 27 = .ok (.getfield 15, 3) := by decide +kernel
theorem d_By_append_30 : decode b_By_append 30 = .ok (.iload_n 1, 1) := by decide +kernel
theorem d_By_append_31 : decode b_By_append 31 = .ok (.bipush 24, 2) := by decide +kernel
theorem d_By_append_33 : decode b_By_append 33 = .ok (.ishr, 1) := by decide +kernel
theorem d_By_append_34 : decode b_By_append 34 = .ok (.i2b, 1) := by decide +kernel
theorem d_By_append_35 : decode b_By_append 35 = .ok (.bastore, 1) := by decide +kernel
theorem d_By_append_36 : decode b_By_append 36 = .ok (.aload_n 0, 1) := by decide +kernel
theorem d_By_append_37 : decode b_By_append 37 = .ok (.getfield 11, 3) := by decide +kernel
theorem d_By_append_40 : decode b_By_append 40 = .ok (.aload_n 0, 1) := by decide +kernel
theorem d_By_append_41 : decode b_By_append 41 = .ok (.getfield 15, 3) := by decide +kernel
theorem d_By_append_44 : decode b_By_append 44 = .ok (.iconst 1, 1) := by decide +kernel
theorem d_By_append_45 : decode b_By_append 45 = .ok (.iadd, 1) := by decide +kernel
theorem d_By_append_46 : decode b_By_append 46 = .ok (.iload_n 1, 1) := by decide +kernel
theorem d_By_append_47 : decode b_By_append 47 = .ok (.bipush 16, 2) := by decide +kernel
theorem d_By_append_49 : decode b_By_append 49 = .ok (.ishr, 1) := by decide +kernel
theorem d_By_append_50 : decode b_By_append 50 = .ok (.i2b, 1) := by decide +kernel
theorem d_By_append_51 : decode b_By_append 51 = .ok (.bastore, 1) := by decide +kernel
theorem d_By_append_52 : decode b_By_append 52 = .ok (.aload_n 0, 1) := by decide +kernel
theorem d_By_append_53 : decode b_By_append 53 = .ok (.getfield 11, 3) := by decide +kernel
theorem d_By_append_56 : decode b_By_append 56 = .ok (.aload_n 0, 1) := by decide +kernel
theorem d_By_append_57 : decode b_By_append 57 = .ok (.getfield 15, 3) := by decide +kernel
theorem d_By_append_60 : decode b_By_append 60 = .ok (.iconst 2, 1) := by decide +kernel
theorem d_By_append_61 : decode b_By_append 61 = .ok (.iadd, 1) := by decide +kernel
theorem d_By_append_62 : decode b_By_append 62 = .ok (.iload_n 1, 1) := by decide +kernel
theorem d_By_append_63 : decode b_By_append 63 = .ok (.bipush 8, 2) := by decide +kernel
theorem d_By_append_65 : decode b_By_append 65 = .ok (.ishr, 1) := by decide +kernel
theorem d_By_append_66 : decode b_By_append 66 = .ok (.i2b, 1) := by decide +kernel
theorem d_By_append_67 : decode b_By_append 67 = .ok (.bastore, 1) := by decide +kernel
theorem d_By_append_68 : decode b_By_append 68 = .ok (.aload_n 0, 1) := by decide +kernel
theorem d_By_append_69 : decode b_By_append 69 = .ok (.getfield 11, 3) := by decide +kernel
theorem d_By_append_72 : decode b_By_append 72 = .ok (.aload_n 0, 1) := by decide +kernel
theorem d_By_append_73 : decode b_By_append 73 = .ok (.getfield 15, 3) := by decide +kernel
theorem d_By_append_76 : decode b_By_append 76 = .ok (.iconst 3, 1) := by decide +kernel
theorem d_By_append_77 : decode b_By_append 77 = .ok (.iadd, 1) := by decide +kernel
theorem d_By_append_78 : decode b_By_append 78 = .ok (.iload_n 1, 1) := by decide +kernel
theorem d_By_append_79 : decode b_By_append 79 = .ok (.i2b, 1) := by decide +kernel
theorem d_By_append_80 : decode b_By_append 80 = .ok (.bastore, 1) := by decide +kernel
theorem d_By_append_81 : decode b_By_append 81 = .ok (.aload_n 0, 1) := by decide +kernel
theorem d_By_append_82 : decode b_By_append 82 = .ok (.iload_n 2, 1) := by decide +kernel
theorem d_By_append_83 : decode b_By_append 83 = .ok (.putfield 15, 3) := by decide +kernel
theorem d_By_append_86 : decode b_By_append 86 = .ok (.return_, 1) := by decide +kernel
abbrev b_By_replace : ByteArray := prog_2_method_6_code
abbrev y_By_replace : MethodName := ⟨"CharOutlines$Bytes", "replace", "(II)I"⟩
set_option maxRecDepth 100000 in
theorem cal_By_replace : CalV gd_tbl "CharOutlines$Bytes" y_By_replace b_By_replace 4 (some .int) 2 := ⟨⟨List.mem_filter.mpr ⟨List.mem_of_getElem? (i := 385) rfl, rfl⟩, List.mem_filter.mpr ⟨List.mem_of_getElem? (i := 61) rfl, rfl⟩, ⟨by decide, by decide⟩, by decide +kernel⟩, List.mem_filter.mpr ⟨List.mem_of_getElem? (i := 383) rfl, rfl⟩, List.mem_filter.mpr ⟨List.mem_of_getElem? (i := 384) rfl, rfl⟩⟩
theorem d_By_replace_0 : decode b_By_replace 0 = .ok (.aload_n 0, 1) := by decide +kernel
theorem d_By_replace_1 : decode b_By_replace 1 = .ok (.iload_n 1, 1) := by decide +kernel
theorem d_By_replace_2 : decode b_By_replace 2 = .ok (.invokevirtual 21, 3) := by decide +kernel
theorem d_By_replace_5 : decode b_By_replace 5 = .ok (.istore_n 3, 1) := by decide +kernel
theorem d_By_replace_6 : decode b_By_replace 6 = .ok (.iload_n 1, 1) := by decide +kernel
theorem d_By_replace_7 : decode b_By_replace 7 = .ok (.ifCond .lt 19, 3) := by decide +kernel
theorem d_By_replace_10 : decode b_By_replace 10 = .ok (.iload_n 1, 1) := by decide +kernel
theorem d_By_replace_11 : decode b_By_replace 11 = .ok (.aload_n 0, 1) := by decide +kernel
theorem d_By_replace_12 : decode b_By_replace 12 = .ok (.getfield 15, 3) := by decide +kernel
theorem d_By_replace_15 : decode b_By_replace 15 = .ok (.if_icmp .ge 11, 3) := by decide +kernel
theorem d_By_replace_18 : decode b_By_replace 18 = .ok (.aload_n 0, 1) := by decide +kernel
theorem d_By_replace_19 : decode b_By_replace 19 = .ok (.getfield 11, 3) := by decide +kernel
theorem d_By_replace_22 : decode b_By_replace 22 = .ok (.iload_n 1, 1) := by decide +kernel
theorem d_By_replace_23 : decode b_By_replace 23 = .ok (.iload_n 2, 1) := by decide +kernel
theorem d_By_replace_24 : decode b_By_replace 24 = .ok (.i2b, 1) := by decide +kernel
theorem d_By_replace_25 : decode b_By_replace 25 = .ok (.bastore, 1) := by decide +kernel
theorem d_By_replace_26 : decode b_By_replace 26 = .ok (.iload_n 3, 1) := by decide +kernel
theorem d_By_replace_27 : decode b_By_replace 27 = .ok (.ireturn, 1) := by decide +kernel
abbrev b_By_shorten : ByteArray := prog_2_method_7_code
abbrev y_By_shorten : MethodName := ⟨"CharOutlines$Bytes", "shorten", "(I)I"⟩
set_option maxRecDepth 100000 in
theorem cal_By_shorten : CalV gd_tbl "CharOutlines$Bytes" y_By_shorten b_By_shorten 3 (some .int) 1 := ⟨⟨List.mem_filter.mpr ⟨List.mem_of_getElem? (i := 401) rfl, rfl⟩, List.mem_filter.mpr ⟨List.mem_of_getElem? (i := 61) rfl, rfl⟩, ⟨by decide, by decide⟩, by decide +kernel⟩, List.mem_filter.mpr ⟨List.mem_of_getElem? (i := 399) rfl, rfl⟩, List.mem_filter.mpr ⟨List.mem_of_getElem? (i := 400) rfl, rfl⟩⟩
theorem d_By_shorten_0 : decode b_By_shorten 0 = .ok (.aload_n 0, 1) := by decide +kernel
theorem d_By_shorten_1 : decode b_By_shorten 1 = .ok (.getfield 15, 3) := by decide +kernel
theorem d_By_shorten_4 : decode b_By_shorten 4 = .ok (.istore_n 2, 1) := by decide +kernel
theorem d_By_shorten_5 : decode b_By_shorten 5 = .ok (.iload_n 1, 1) := by decide +kernel
theorem d_By_shorten_6 : decode b_By_shorten 6 = .ok (.ifCond .lt 16, 3) := by decide +kernel
theorem d_By_shorten_9 : decode b_By_shorten 9 = .ok (.iload_n 1, 1) := by decide +kernel
theorem d_By_shorten_10 : decode b_By_shorten 10 = .ok (.aload_n 0, 1) := by decide +kernel
theorem d_By_shorten_11 : decode b_By_shorten 11 = .ok (.getfield 15, 3) := by decide +kernel
theorem d_By_shorten_14 : decode b_By_shorten 14 = .ok (.if_icmp .ge 8, 3) := by decide +kernel
theorem d_By_shorten_17 : decode b_By_shorten 17 = .ok (.aload_n 0, 1) := by decide +kernel
theorem d_By_shorten_18 : decode b_By_shorten 18 = .ok (.iload_n 1, 1) := by decide +kernel
theorem d_By_shorten_19 : decode b_By_shorten 19 = .ok (.putfield 15, 3) := by decide +kernel
theorem d_By_shorten_22 : decode b_By_shorten 22 = .ok (.iload_n 2, 1) := by decide +kernel
theorem d_By_shorten_23 : decode b_By_shorten 23 = .ok (.aload_n 0, 1) := by decide +kernel
theorem d_By_shorten_24 : decode b_By_shorten 24 = .ok (.getfield 15, 3) := by decide +kernel
theorem d_By_shorten_27 : decode b_By_shorten 27 = .ok (.isub, 1) := by decide +kernel
theorem d_By_shorten_28 : decode b_By_shorten 28 = .ok (.ireturn, 1) := by decide +kernel
abbrev b_CO_feed : ByteArray := prog_1_method_2_code
abbrev y_CO_feed : MethodName := ⟨"CharOutlines", "feed", "(IIIII)I"⟩
set_option maxRecDepth 100000 in
theorem cal_CO_feed : CalV gd_tbl "CharOutlines" y_CO_feed b_CO_feed 6 (some .int) 5 := ⟨⟨List.mem_filter.mpr ⟨List.mem_of_getElem? (i := 242) rfl, rfl⟩, List.mem_filter.mpr ⟨List.mem_of_getElem? (i := 60) rfl, rfl⟩, ⟨by decide, by decide⟩, by decide +kernel⟩, List.mem_filter.mpr ⟨List.mem_of_getElem? (i := 240) rfl, rfl⟩, List.mem_filter.mpr ⟨List.mem_of_getElem? (i := 241) rfl, rfl⟩⟩
theorem d_CO_feed_0 : decode b_CO_feed 0 = .ok (.aload_n 0, 1) := by decide +kernel
theorem d_CO_feed_1 : decode b_CO_feed 1 = .ok (.getfield 10, 3) := by decide +kernel
theorem d_CO_feed_4 : decode b_CO_feed 4 = .ok (.invokevirtual 23, 3) := by decide +kernel
theorem d_CO_feed_7 : decode b_CO_feed 7 = .ok (.sipush 16364, 3) := by decide +kernel
theorem d_CO_feed_10 : decode b_CO_feed 10 = .ok (.if_icmp .le 5, 3) := by decide +kernel
theorem d_CO_feed_13 : decode b_CO_feed 13 = .ok (.iconst (-1), 1) := by decide +kernel
theorem d_CO_feed_14 : decode b_CO_feed 14 = .ok (.ireturn, 1) := by decide +kernel
theorem d_CO_feed_15 : decode b_CO_feed 15 = .ok (.aload_n 0, 1) := by decide +kernel
theorem d_CO_feed_16 : decode b_CO_feed 16 = .ok (.getfield 10, 3) := by decide +kernel
theorem d_CO_feed_19 : decode b_CO_feed 19 = .ok (.iload_n 1, 1) := by decide +kernel
theorem d_CO_feed_20 : decode b_CO_feed 20 = .ok (.invokevirtual 27, 3) := by decide +kernel
theorem d_CO_feed_23 : decode b_CO_feed 23 = .ok (.aload_n 0, 1) := by decide +kernel
theorem d_CO_feed_24 : decode b_CO_feed 24 = .ok (.getfield 10, 3) := by decide +kernel
theorem d_CO_feed_27 : decode b_CO_feed 27 = .ok (.iload_n 2, 1) := by decide +kernel
theorem d_CO_feed_28 : decode b_CO_feed 28 = .ok (.invokevirtual 27, 3) := by decide +kernel
theorem d_CO_feed_31 : decode b_CO_feed 31 = .ok (.aload_n 0, 1) := by decide +kernel
theorem d_CO_feed_32 : decode b_CO_feed 32 = .ok (.getfield 10, 3) := by decide +kernel
theorem d_CO_feed_35 : decode b_CO_feed 35 = .ok (.iload_n 3, 1) := by decide +kernel
theorem d_CO_feed_36 : decode b_CO_feed 36 = .ok (.invokevirtual 27, 3) := by decide +kernel
theorem d_CO_feed_39 : decode b_CO_feed 39 = .ok (.aload_n 0, 1) := by decide +kernel
theorem d_CO_feed_40 : decode b_CO_feed 40 = .ok (.getfield 10, 3) := by decide +kernel
theorem d_CO_feed_43 : decode b_CO_feed 43 = .ok (.iload 4, 2) := by decide +kernel
theorem d_CO_feed_45 : decode b_CO_feed 45 = .ok (.invokevirtual 27, 3) := by decide +kernel
theorem d_CO_feed_48 : decode b_CO_feed 48 = .ok (.aload_n 0, 1) := by decide +kernel
theorem d_CO_feed_49 : decode b_CO_feed 49 = .ok (.getfield 10, 3) := by decide +kernel
theorem d_CO_feed_52 : decode b_CO_feed 52 = .ok (.iload 5, 2) := by decide +kernel
theorem d_CO_feed_54 : decode b_CO_feed 54 = .ok (.invokevirtual 27, 3) := by decide +kernel
theorem d_CO_feed_57 : decode b_CO_feed 57 = .ok (.aload_n 0, 1) := by decide +kernel
theorem d_CO_feed_58 : decode b_CO_feed 58 = .ok (.getfield 10, 3) := by decide +kernel
theorem d_CO_feed_61 : decode b_CO_feed 61 = .ok (.invokevirtual 23, 3) := by decide +kernel
theorem d_CO_feed_64 : decode b_CO_feed 64 = .ok (.ireturn, 1) := by decide +kernel
abbrev b_CO_put : ByteArray := prog_1_method_3_code
abbrev y_CO_put : MethodName := ⟨"CharOutlines", "put", "(II)I"⟩
set_option maxRecDepth 100000 in
theorem cal_CO_put : CalV gd_tbl "CharOutlines" y_CO_put b_CO_put 3 (some .int) 2 := ⟨⟨List.mem_filter.mpr ⟨List.mem_of_getElem? (i := 299) rfl, rfl⟩, List.mem_filter.mpr ⟨List.mem_of_getElem? (i := 60) rfl, rfl⟩, ⟨by decide, by decide⟩, by decide +kernel⟩, List.mem_filter.mpr ⟨List.mem_of_getElem? (i := 297) rfl, rfl⟩, List.mem_filter.mpr ⟨List.mem_of_getElem? (i := 298) rfl, rfl⟩⟩
theorem d_CO_put_0 : decode b_CO_put 0 = .ok (.iload_n 1, 1) := by decide +kernel
theorem d_CO_put_1 : decode b_CO_put 1 = .ok (.ifCond .lt 14, 3) := by decide +kernel
theorem d_CO_put_4 : decode b_CO_put 4 = .ok (.iload_n 1, 1) := by decide +kernel
theorem d_CO_put_5 : decode b_CO_put 5 = .ok (.aload_n 0, 1) := by decide +kernel
theorem d_CO_put_6 : decode b_CO_put 6 = .ok (.getfield 10, 3) := by decide +kernel
theorem d_CO_put_9 : decode b_CO_put 9 = .ok (.invokevirtual 23, 3) := by decide +kernel
theorem d_CO_put_12 : decode b_CO_put 12 = .ok (.if_icmp .lt 13, 3) := by decide +kernel
theorem d_CO_put_15 : decode b_CO_put 15 = .ok (.new 31, 3) := by decide +kernel
theorem d_CO_put_18 : decode b_CO_put 18 = .ok (.dup, 1) := by decide +kernel
theorem d_CO_put_19 : decode b_CO_put 19 = .ok (.ldc 33, 2) := by decide +kernel
theorem d_CO_put_21 : decode b_CO_put 21 = .ok (.invokespecial 35, 3) := by decide +kernel
theorem d_CO_put_24 : decode b_CO_put 24 = .ok (.athrow, 1) := by decide +kernel
theorem d_CO_put_25 : decode b_CO_put 25 = .ok (.iload_n 2, 1) := by decide +kernel
theorem d_CO_put_26 : decode b_CO_put 26 = .ok (.ifCond .lt 10, 3) := by decide +kernel
theorem d_CO_put_29 : decode b_CO_put 29 = .ok (.iload_n 2, 1) := by decide +kernel
theorem d_CO_put_30 : decode b_CO_put 30 = .ok (.sipush 255, 3) := by decide +kernel
theorem d_CO_put_33 : decode b_CO_put 33 = .ok (.if_icmp .le 13, 3) := by decide +kernel
theorem d_CO_put_36 : decode b_CO_put 36 = .ok (.new 38, 3) := by decide +kernel
theorem d_CO_put_39 : decode b_CO_put 39 = .ok (.dup, 1) := by decide +kernel
theorem d_CO_put_40 : decode b_CO_put 40 = .ok (.ldc 40, 2) := by decide +kernel
theorem d_CO_put_42 : decode b_CO_put 42 = .ok (.invokespecial 42, 3) := by decide +kernel
theorem d_CO_put_45 : decode b_CO_put 45 = .ok (.athrow, 1) := by decide +kernel
theorem d_CO_put_46 : decode b_CO_put 46 = .ok (.aload_n 0, 1) := by decide +kernel
theorem d_CO_put_47 : decode b_CO_put 47 = .ok (.getfield 10, 3) := by decide +kernel
theorem d_CO_put_50 : decode b_CO_put 50 = .ok (.iload_n 1, 1) := by decide +kernel
theorem d_CO_put_51 : decode b_CO_put 51 = .ok (.iload_n 2, 1) := by decide +kernel
theorem d_CO_put_52 : decode b_CO_put 52 = .ok (.invokevirtual 43, 3) := by decide +kernel
theorem d_CO_put_55 : decode b_CO_put 55 = .ok (.ireturn, 1) := by decide +kernel
abbrev b_CO_cut : ByteArray := prog_1_method_4_code
abbrev y_CO_cut : MethodName := ⟨"CharOutlines", "cut", "(I)I"⟩
set_option maxRecDepth 100000 in
theorem cal_CO_cut : CalV gd_tbl "CharOutlines" y_CO_cut b_CO_cut 2 (some .int) 1 := ⟨⟨List.mem_filter.mpr ⟨List.mem_of_getElem? (i := 396) rfl, rfl⟩, List.mem_filter.mpr ⟨List.mem_of_getElem? (i := 60) rfl, rfl⟩, ⟨by decide, by decide⟩, by decide +kernel⟩, List.mem_filter.mpr ⟨List.mem_of_getElem? (i := 394) rfl, rfl⟩, List.mem_filter.mpr ⟨List.mem_of_getElem? (i := 395) rfl, rfl⟩⟩
theorem d_CO_cut_0 : decode b_CO_cut 0 = .ok (.iload_n 1, 1) := by decide +kernel
theorem d_CO_cut_1 : decode b_CO_cut 1 = .ok (.ifCond .ge 13, 3) := by decide +kernel
theorem d_CO_cut_4 : decode b_CO_cut 4 = .ok (.new 38, 3) := by decide +kernel
theorem d_CO_cut_7 : decode b_CO_cut 7 = .ok (.dup, 1) := by decide +kernel
theorem d_CO_cut_8 : decode b_CO_cut 8 = .ok (.ldc 47, 2) := by decide +kernel
theorem d_CO_cut_10 : decode b_CO_cut 10 = .ok (.invokespecial 42, 3) := by decide +kernel
theorem d_CO_cut_13 : decode b_CO_cut 13 = .ok (.athrow, 1) := by decide +kernel
theorem d_CO_cut_14 : decode b_CO_cut 14 = .ok (.aload_n 0, 1) := by decide +kernel
theorem d_CO_cut_15 : decode b_CO_cut 15 = .ok (.getfield 10, 3) := by decide +kernel
theorem d_CO_cut_18 : decode b_CO_cut 18 = .ok (.iload_n 1, 1) := by decide +kernel
theorem d_CO_cut_19 : decode b_CO_cut 19 = .ok (.invokevirtual 49, 3) := by decide +kernel
theorem d_CO_cut_22 : decode b_CO_cut 22 = .ok (.ireturn, 1) := by decide +kernel
abbrev b_St_shelf : ByteArray := prog_9_method_2_code
abbrev y_St_shelf : MethodName := ⟨"CharOutlines$Strings", "shelf", "(I)LCharOutlines$Shelf;"⟩
set_option maxRecDepth 100000 in
theorem cal_St_shelf : CalV gd_tbl "CharOutlines$Strings" y_St_shelf b_St_shelf 2 (some (.object "CharOutlines$Shelf")) 1 := ⟨⟨List.mem_filter.mpr ⟨List.mem_of_getElem? (i := 420) rfl, rfl⟩, List.mem_filter.mpr ⟨List.mem_of_getElem? (i := 63) rfl, rfl⟩, ⟨by decide, by decide⟩, by decide +kernel⟩, List.mem_filter.mpr ⟨List.mem_of_getElem? (i := 418) rfl, rfl⟩, List.mem_filter.mpr ⟨List.mem_of_getElem? (i := 419) rfl, rfl⟩⟩
theorem d_St_shelf_0 : decode b_St_shelf 0 = .ok (.iload_n 1, 1) := by decide +kernel
theorem d_St_shelf_1 : decode b_St_shelf 1 = .ok (.lookupswitch 37 #[(1, 27), (2, 32)], 27) := by decide +kernel
theorem d_St_shelf_28 : decode b_St_shelf 28 = .ok (.aload_n 0, 1) := by decide +kernel
theorem d_St_shelf_29 : decode b_St_shelf 29 = .ok (.getfield 18, 3) := by decide +kernel
theorem d_St_shelf_32 : decode b_St_shelf 32 = .ok (.areturn, 1) := by decide +kernel
theorem d_St_shelf_33 : decode b_St_shelf 33 = .ok (.aload_n 0, 1) := by decide +kernel
theorem d_St_shelf_34 : decode b_St_shelf 34 = .ok (.getfield 21, 3) := by decide +kernel
theorem d_St_shelf_37 : decode b_St_shelf 37 = .ok (.areturn, 1) := by decide +kernel
theorem d_St_shelf_38 : decode b_St_shelf 38 = .ok (.aload_n 0, 1) := by decide +kernel
theorem d_St_shelf_39 : decode b_St_shelf 39 = .ok (.getfield 12, 3) := by decide +kernel
theorem d_St_shelf_42 : decode b_St_shelf 42 = .ok (.areturn, 1) := by decide +kernel
abbrev b_Ma_shelf : ByteArray := prog_4_method_2_code
abbrev y_Ma_shelf : MethodName := ⟨"CharOutlines$Machine", "shelf", "(I)LCharOutlines$Shelf;"⟩
set_option maxRecDepth 100000 in
theorem cal_Ma_shelf : CalV gd_tbl "CharOutlines$Machine" y_Ma_shelf b_Ma_shelf 2 (some (.object "CharOutlines$Shelf")) 1 := ⟨⟨List.mem_filter.mpr ⟨List.mem_of_getElem? (i := 416) rfl, rfl⟩, List.mem_filter.mpr ⟨List.mem_of_getElem? (i := 62) rfl, rfl⟩, ⟨by decide, by decide⟩, by decide +kernel⟩, List.mem_filter.mpr ⟨List.mem_of_getElem? (i := 414) rfl, rfl⟩, List.mem_filter.mpr ⟨List.mem_of_getElem? (i := 415) rfl, rfl⟩⟩
theorem d_Ma_shelf_0 : decode b_Ma_shelf 0 = .ok (.aload_n 0, 1) := by decide +kernel
theorem d_Ma_shelf_1 : decode b_Ma_shelf 1 = .ok (.getfield 12, 3) := by decide +kernel
theorem d_Ma_shelf_4 : decode b_Ma_shelf 4 = .ok (.iload_n 1, 1) := by decide +kernel
theorem d_Ma_shelf_5 : decode b_Ma_shelf 5 = .ok (.invokevirtual 39, 3) := by decide +kernel
theorem d_Ma_shelf_8 : decode b_Ma_shelf 8 = .ok (.areturn, 1) := by decide +kernel
abbrev b_Ma_outline : ByteArray := prog_4_method_3_code
abbrev y_Ma_outline : MethodName := ⟨"CharOutlines$Machine", "outline", "()LCharOutlines$Outline;"⟩
set_option maxRecDepth 100000 in
theorem cal_Ma_outline : CalV gd_tbl "CharOutlines$Machine" y_Ma_outline b_Ma_outline 1 (some (.object "CharOutlines$Outline")) 0 := ⟨⟨List.mem_filter.mpr ⟨List.mem_of_getElem? (i := 725) rfl, rfl⟩, List.mem_filter.mpr ⟨List.mem_of_getElem? (i := 62) rfl, rfl⟩, ⟨by decide, by decide⟩, by decide +kernel⟩, List.mem_filter.mpr ⟨List.mem_of_getElem? (i := 723) rfl, rfl⟩, List.mem_filter.mpr ⟨List.mem_of_getElem? (i := 724) rfl, rfl⟩⟩
theorem d_Ma_outline_0 : decode b_Ma_outline 0 = .ok (.aload_n 0, 1) := by decide +kernel
theorem d_Ma_outline_1 : decode b_Ma_outline 1 = .ok (.getfield 35, 3) := by decide +kernel
theorem d_Ma_outline_4 : decode b_Ma_outline 4 = .ok (.areturn, 1) := by decide +kernel
abbrev b_Sh_strings : ByteArray := prog_8_method_2_code
abbrev y_Sh_strings : MethodName := ⟨"CharOutlines$Shelf", "strings", "()I"⟩
set_option maxRecDepth 100000 in
theorem cal_Sh_strings : CalV gd_tbl "CharOutlines$Shelf" y_Sh_strings b_Sh_strings 1 (some .int) 0 := ⟨⟨List.mem_filter.mpr ⟨List.mem_of_getElem? (i := 643) rfl, rfl⟩, List.mem_filter.mpr ⟨List.mem_of_getElem? (i := 64) rfl, rfl⟩, ⟨by decide, by decide⟩, by decide +kernel⟩, List.mem_filter.mpr ⟨List.mem_of_getElem? (i := 641) rfl, rfl⟩, List.mem_filter.mpr ⟨List.mem_of_getElem? (i := 642) rfl, rfl⟩⟩
theorem d_Sh_strings_0 : decode b_Sh_strings 0 = .ok (.aload_n 0, 1) := by decide +kernel
theorem d_Sh_strings_1 : decode b_Sh_strings 1 = .ok (.getfield 18, 3) := by decide +kernel
theorem d_Sh_strings_4 : decode b_Sh_strings 4 = .ok (.ireturn, 1) := by decide +kernel
abbrev b_Sh_has : ByteArray := prog_8_method_3_code
abbrev y_Sh_has : MethodName := ⟨"CharOutlines$Shelf", "has", "(I)Z"⟩
set_option maxRecDepth 100000 in
theorem cal_Sh_has : CalV gd_tbl "CharOutlines$Shelf" y_Sh_has b_Sh_has 2 (some .boolean) 1 := ⟨⟨List.mem_filter.mpr ⟨List.mem_of_getElem? (i := 453) rfl, rfl⟩, List.mem_filter.mpr ⟨List.mem_of_getElem? (i := 64) rfl, rfl⟩, ⟨by decide, by decide⟩, by decide +kernel⟩, List.mem_filter.mpr ⟨List.mem_of_getElem? (i := 451) rfl, rfl⟩, List.mem_filter.mpr ⟨List.mem_of_getElem? (i := 452) rfl, rfl⟩⟩
theorem d_Sh_has_0 : decode b_Sh_has 0 = .ok (.iload_n 1, 1) := by decide +kernel
theorem d_Sh_has_1 : decode b_Sh_has 1 = .ok (.ifCond .lt 15, 3) := by decide +kernel
theorem d_Sh_has_4 : decode b_Sh_has 4 = .ok (.iload_n 1, 1) := by decide +kernel
theorem d_Sh_has_5 : decode b_Sh_has 5 = .ok (.aload_n 0, 1) := by decide +kernel
theorem d_Sh_has_6 : decode b_Sh_has 6 = .ok (.getfield 18, 3) := by decide +kernel
theorem d_Sh_has_9 : decode b_Sh_has 9 = .ok (.if_icmp .ge 7, 3) := by decide +kernel
theorem d_Sh_has_12 : decode b_Sh_has 12 = .ok (.iconst 1, 1) := by decide +kernel
theorem d_Sh_has_13 : decode b_Sh_has 13 = .ok (.goto 4, 3) := by decide +kernel
theorem d_Sh_has_16 : decode b_Sh_has 16 = .ok (.iconst 0, 1) := by decide +kernel
theorem d_Sh_has_17 : decode b_Sh_has 17 = .ok (.ireturn, 1) := by decide +kernel
abbrev b_Sh_stringsIn : ByteArray := prog_8_method_7_code
abbrev y_Sh_stringsIn : MethodName := ⟨"CharOutlines$Shelf", "stringsIn", "(LCharOutlines$Bytes;)I"⟩
set_option maxRecDepth 100000 in
theorem cal_Sh_stringsIn : CalS gd_tbl y_Sh_stringsIn b_Sh_stringsIn 2 (some .int) 1 := ⟨⟨List.mem_filter.mpr ⟨List.mem_of_getElem? (i := 427) rfl, rfl⟩, List.mem_filter.mpr ⟨List.mem_of_getElem? (i := 64) rfl, rfl⟩, ⟨by decide, by decide⟩, by decide +kernel⟩, List.mem_filter.mpr ⟨List.mem_of_getElem? (i := 426) rfl, rfl⟩⟩
theorem d_Sh_stringsIn_0 : decode b_Sh_stringsIn 0 = .ok (.aload_n 0, 1) := by decide +kernel
theorem d_Sh_stringsIn_1 : decode b_Sh_stringsIn 1 = .ok (.invokevirtual 38, 3) := by decide +kernel
theorem d_Sh_stringsIn_4 : decode b_Sh_stringsIn 4 = .ok (.iconst 2, 1) := by decide +kernel
theorem d_Sh_stringsIn_5 : decode b_Sh_stringsIn 5 = .ok (.if_icmp .ge 6, 3) := by decide +kernel
theorem d_Sh_stringsIn_8 : decode b_Sh_stringsIn 8 = .ok (.bipush (-2), 2) := by decide +kernel
theorem d_Sh_stringsIn_10 : decode b_Sh_stringsIn 10 = .ok (.ireturn, 1) := by decide +kernel
theorem d_Sh_stringsIn_11 : decode b_Sh_stringsIn 11 = .ok (.aload_n 0, 1) := by decide +kernel
theorem d_Sh_stringsIn_12 : decode b_Sh_stringsIn 12 = .ok (.iconst 0, 1) := by decide +kernel
theorem d_Sh_stringsIn_13 : decode b_Sh_stringsIn 13 = .ok (.iconst 2, 1) := by decide +kernel
theorem d_Sh_stringsIn_14 : decode b_Sh_stringsIn 14 = .ok (.invokevirtual 34, 3) := by decide +kernel
theorem d_Sh_stringsIn_17 : decode b_Sh_stringsIn 17 = .ok (.l2i, 1) := by decide +kernel
theorem d_Sh_stringsIn_18 : decode b_Sh_stringsIn 18 = .ok (.istore_n 1, 1) := by decide +kernel
theorem d_Sh_stringsIn_19 : decode b_Sh_stringsIn 19 = .ok (.iload_n 1, 1) := by decide +kernel
theorem d_Sh_stringsIn_20 : decode b_Sh_stringsIn 20 = .ok (.ifCond .ne 5, 3) := by decide +kernel
theorem d_Sh_stringsIn_23 : decode b_Sh_stringsIn 23 = .ok (.iconst 0, 1) := by decide +kernel
theorem d_Sh_stringsIn_24 : decode b_Sh_stringsIn 24 = .ok (.ireturn, 1) := by decide +kernel
theorem d_Sh_stringsIn_25 : decode b_Sh_stringsIn 25 = .ok (.iload_n 1, 1) := by decide +kernel
theorem d_Sh_stringsIn_26 : decode b_Sh_stringsIn 26 = .ok (.sipush 2000, 3) := by decide +kernel
theorem d_Sh_stringsIn_29 : decode b_Sh_stringsIn 29 = .ok (.if_icmp .gt 15, 3) := by decide +kernel
theorem d_Sh_stringsIn_32 : decode b_Sh_stringsIn 32 = .ok (.aload_n 0, 1) := by decide +kernel
theorem d_Sh_stringsIn_33 : decode b_Sh_stringsIn 33 = .ok (.iload_n 1, 1) := by decide +kernel
theorem d_Sh_stringsIn_34 : decode b_Sh_stringsIn 34 = .ok (.invokestatic 42, 3) := by decide +kernel
theorem d_Sh_stringsIn_37 : decode b_Sh_stringsIn 37 = .ok (.ifCond .eq 7, 3) := by decide +kernel
theorem d_Sh_stringsIn_40 : decode b_Sh_stringsIn 40 = .ok (.iload_n 1, 1) := by decide +kernel
theorem d_Sh_stringsIn_41 : decode b_Sh_stringsIn 41 = .ok (.goto 5, 3) := by decide +kernel
theorem d_Sh_stringsIn_44 : decode b_Sh_stringsIn 44 = .ok (.bipush (-2), 2) := by decide +kernel
theorem d_Sh_stringsIn_46 : decode b_Sh_stringsIn 46 = .ok (.ireturn, 1) := by decide +kernel
abbrev b_Sh_fill : ByteArray := prog_8_method_5_code
abbrev y_Sh_fill : MethodName := ⟨"CharOutlines$Shelf", "fill", "(LCharOutlines$Bytes;)I"⟩
set_option maxRecDepth 100000 in
theorem cal_Sh_fill : CalV gd_tbl "CharOutlines$Shelf" y_Sh_fill b_Sh_fill 3 (some .int) 1 := ⟨⟨List.mem_filter.mpr ⟨List.mem_of_getElem? (i := 424) rfl, rfl⟩, List.mem_filter.mpr ⟨List.mem_of_getElem? (i := 64) rfl, rfl⟩, ⟨by decide, by decide⟩, by decide +kernel⟩, List.mem_filter.mpr ⟨List.mem_of_getElem? (i := 422) rfl, rfl⟩, List.mem_filter.mpr ⟨List.mem_of_getElem? (i := 423) rfl, rfl⟩⟩
theorem d_Sh_fill_0 : decode b_Sh_fill 0 = .ok (.aload_n 1, 1) := by decide +kernel
theorem d_Sh_fill_1 : decode b_Sh_fill 1 = .ok (.invokestatic 26, 3) := by decide +kernel
theorem d_Sh_fill_4 : decode b_Sh_fill 4 = .ok (.istore_n 2, 1) := by decide +kernel
theorem d_Sh_fill_5 : decode b_Sh_fill 5 = .ok (.iload_n 2, 1) := by decide +kernel
theorem d_Sh_fill_6 : decode b_Sh_fill 6 = .ok (.bipush (-2), 2) := by decide +kernel
theorem d_Sh_fill_8 : decode b_Sh_fill 8 = .ok (.if_icmp .eq 16, 3) := by decide +kernel
theorem d_Sh_fill_11 : decode b_Sh_fill 11 = .ok (.aload_n 0, 1) := by decide +kernel
theorem d_Sh_fill_12 : decode b_Sh_fill 12 = .ok (.getfield 12, 3) := by decide +kernel
theorem d_Sh_fill_15 : decode b_Sh_fill 15 = .ok (.aload_n 1, 1) := by decide +kernel
theorem d_Sh_fill_16 : decode b_Sh_fill 16 = .ok (.invokevirtual 30, 3) := by decide +kernel
theorem d_Sh_fill_19 : decode b_Sh_fill 19 = .ok (.aload_n 0, 1) := by decide +kernel
theorem d_Sh_fill_20 : decode b_Sh_fill 20 = .ok (.iload_n 2, 1) := by decide +kernel
theorem d_Sh_fill_21 : decode b_Sh_fill 21 = .ok (.putfield 18, 3) := by decide +kernel
theorem d_Sh_fill_24 : decode b_Sh_fill 24 = .ok (.iload_n 2, 1) := by decide +kernel
theorem d_Sh_fill_25 : decode b_Sh_fill 25 = .ok (.ireturn, 1) := by decide +kernel
abbrev b_CO_take : ByteArray := prog_1_method_5_code
abbrev y_CO_take : MethodName := ⟨"CharOutlines", "take", "(I)I"⟩
set_option maxRecDepth 100000 in
theorem cal_CO_take : CalV gd_tbl "CharOutlines" y_CO_take b_CO_take 2 (some .int) 1 := ⟨⟨List.mem_filter.mpr ⟨List.mem_of_getElem? (i := 408) rfl, rfl⟩, List.mem_filter.mpr ⟨List.mem_of_getElem? (i := 60) rfl, rfl⟩, ⟨by decide, by decide⟩, by decide +kernel⟩, List.mem_filter.mpr ⟨List.mem_of_getElem? (i := 406) rfl, rfl⟩, List.mem_filter.mpr ⟨List.mem_of_getElem? (i := 407) rfl, rfl⟩⟩
theorem d_CO_take_0 : decode b_CO_take 0 = .ok (.iload_n 1, 1) := by decide +kernel
theorem d_CO_take_1 : decode b_CO_take 1 = .ok (.invokestatic 53, 3) := by decide +kernel
theorem d_CO_take_4 : decode b_CO_take 4 = .ok (.ifCond .ne 13, 3) := by decide +kernel
theorem d_CO_take_7 : decode b_CO_take 7 = .ok (.new 38, 3) := by decide +kernel
theorem d_CO_take_10 : decode b_CO_take 10 = .ok (.dup, 1) := by decide +kernel
theorem d_CO_take_11 : decode b_CO_take 11 = .ok (.ldc 57, 2) := by decide +kernel
theorem d_CO_take_13 : decode b_CO_take 13 = .ok (.invokespecial 42, 3) := by decide +kernel
theorem d_CO_take_16 : decode b_CO_take 16 = .ok (.athrow, 1) := by decide +kernel
theorem d_CO_take_17 : decode b_CO_take 17 = .ok (.aload_n 0, 1) := by decide +kernel
theorem d_CO_take_18 : decode b_CO_take 18 = .ok (.getfield 19, 3) := by decide +kernel
theorem d_CO_take_21 : decode b_CO_take 21 = .ok (.iload_n 1, 1) := by decide +kernel
theorem d_CO_take_22 : decode b_CO_take 22 = .ok (.invokevirtual 59, 3) := by decide +kernel
theorem d_CO_take_25 : decode b_CO_take 25 = .ok (.aload_n 0, 1) := by decide +kernel
theorem d_CO_take_26 : decode b_CO_take 26 = .ok (.getfield 10, 3) := by decide +kernel
theorem d_CO_take_29 : decode b_CO_take 29 = .ok (.invokevirtual 63, 3) := by decide +kernel
theorem d_CO_take_32 : decode b_CO_take 32 = .ok (.ireturn, 1) := by decide +kernel
abbrev b_CO_count : ByteArray := prog_1_method_9_code
abbrev y_CO_count : MethodName := ⟨"CharOutlines", "count", "(I)I"⟩
set_option maxRecDepth 100000 in
theorem cal_CO_count : CalV gd_tbl "CharOutlines" y_CO_count b_CO_count 2 (some .int) 1 := ⟨⟨List.mem_filter.mpr ⟨List.mem_of_getElem? (i := 742) rfl, rfl⟩, List.mem_filter.mpr ⟨List.mem_of_getElem? (i := 60) rfl, rfl⟩, ⟨by decide, by decide⟩, by decide +kernel⟩, List.mem_filter.mpr ⟨List.mem_of_getElem? (i := 740) rfl, rfl⟩, List.mem_filter.mpr ⟨List.mem_of_getElem? (i := 741) rfl, rfl⟩⟩
theorem d_CO_count_0 : decode b_CO_count 0 = .ok (.iload_n 1, 1) := by decide +kernel
theorem d_CO_count_1 : decode b_CO_count 1 = .ok (.invokestatic 53, 3) := by decide +kernel
theorem d_CO_count_4 : decode b_CO_count 4 = .ok (.ifCond .ne 13, 3) := by decide +kernel
theorem d_CO_count_7 : decode b_CO_count 7 = .ok (.new 38, 3) := by decide +kernel
theorem d_CO_count_10 : decode b_CO_count 10 = .ok (.dup, 1) := by decide +kernel
theorem d_CO_count_11 : decode b_CO_count 11 = .ok (.ldc 57, 2) := by decide +kernel
theorem d_CO_count_13 : decode b_CO_count 13 = .ok (.invokespecial 42, 3) := by decide +kernel
theorem d_CO_count_16 : decode b_CO_count 16 = .ok (.athrow, 1) := by decide +kernel
theorem d_CO_count_17 : decode b_CO_count 17 = .ok (.aload_n 0, 1) := by decide +kernel
theorem d_CO_count_18 : decode b_CO_count 18 = .ok (.getfield 19, 3) := by decide +kernel
theorem d_CO_count_21 : decode b_CO_count 21 = .ok (.iload_n 1, 1) := by decide +kernel
theorem d_CO_count_22 : decode b_CO_count 22 = .ok (.invokevirtual 59, 3) := by decide +kernel
theorem d_CO_count_25 : decode b_CO_count 25 = .ok (.invokevirtual 94, 3) := by decide +kernel
theorem d_CO_count_28 : decode b_CO_count 28 = .ok (.ireturn, 1) := by decide +kernel
abbrev b_CO_run : ByteArray := prog_1_method_6_code
abbrev y_CO_run : MethodName := ⟨"CharOutlines", "run", "(I)I"⟩
set_option maxRecDepth 100000 in
theorem cal_CO_run : CalV gd_tbl "CharOutlines" y_CO_run b_CO_run 2 (some .int) 1 := ⟨⟨List.mem_filter.mpr ⟨List.mem_of_getElem? (i := 449) rfl, rfl⟩, List.mem_filter.mpr ⟨List.mem_of_getElem? (i := 60) rfl, rfl⟩, ⟨by decide, by decide⟩, by decide +kernel⟩, List.mem_filter.mpr ⟨List.mem_of_getElem? (i := 447) rfl, rfl⟩, List.mem_filter.mpr ⟨List.mem_of_getElem? (i := 448) rfl, rfl⟩⟩
theorem d_CO_run_0 : decode b_CO_run 0 = .ok (.aload_n 0, 1) := by decide +kernel
theorem d_CO_run_1 : decode b_CO_run 1 = .ok (.getfield 19, 3) := by decide +kernel
theorem d_CO_run_4 : decode b_CO_run 4 = .ok (.iconst 0, 1) := by decide +kernel
theorem d_CO_run_5 : decode b_CO_run 5 = .ok (.invokevirtual 59, 3) := by decide +kernel
theorem d_CO_run_8 : decode b_CO_run 8 = .ok (.iload_n 1, 1) := by decide +kernel
theorem d_CO_run_9 : decode b_CO_run 9 = .ok (.invokevirtual 69, 3) := by decide +kernel
theorem d_CO_run_12 : decode b_CO_run 12 = .ok (.ifCond .ne 13, 3) := by decide +kernel
theorem d_CO_run_15 : decode b_CO_run 15 = .ok (.new 31, 3) := by decide +kernel
theorem d_CO_run_18 : decode b_CO_run 18 = .ok (.dup, 1) := by decide +kernel
theorem d_CO_run_19 : decode b_CO_run 19 = .ok (.ldc 72, 2) := by decide +kernel
theorem d_CO_run_21 : decode b_CO_run 21 = .ok (.invokespecial 35, 3) := by decide +kernel
theorem d_CO_run_24 : decode b_CO_run 24 = .ok (.athrow, 1) := by decide +kernel
theorem d_CO_run_25 : decode b_CO_run 25 = .ok (.aload_n 0, 1) := by decide +kernel
theorem d_CO_run_26 : decode b_CO_run 26 = .ok (.getfield 19, 3) := by decide +kernel
theorem d_CO_run_29 : decode b_CO_run 29 = .ok (.iload_n 1, 1) := by decide +kernel
theorem d_CO_run_30 : decode b_CO_run 30 = .ok (.invokevirtual 74, 3) := by decide +kernel
theorem d_CO_run_33 : decode b_CO_run 33 = .ok (.ireturn, 1) := by decide +kernel
abbrev b_Ou_has : ByteArray := prog_6_method_3_code
abbrev y_Ou_has : MethodName := ⟨"CharOutlines$Outline", "has", "(II)Z"⟩
set_option maxRecDepth 100000 in
theorem cal_Ou_has : CalV gd_tbl "CharOutlines$Outline" y_Ou_has b_Ou_has 3 (some .boolean) 2 := ⟨⟨List.mem_filter.mpr ⟨List.mem_of_getElem? (i := 729) rfl, rfl⟩, List.mem_filter.mpr ⟨List.mem_of_getElem? (i := 67) rfl, rfl⟩, ⟨by decide, by decide⟩, by decide +kernel⟩, List.mem_filter.mpr ⟨List.mem_of_getElem? (i := 727) rfl, rfl⟩, List.mem_filter.mpr ⟨List.mem_of_getElem? (i := 728) rfl, rfl⟩⟩
theorem d_Ou_has_0 : decode b_Ou_has 0 = .ok (.iload_n 1, 1) := by decide +kernel
theorem d_Ou_has_1 : decode b_Ou_has 1 = .ok (.ifCond .lt 25, 3) := by decide +kernel
theorem d_Ou_has_4 : decode b_Ou_has 4 = .ok (.iload_n 1, 1) := by decide +kernel
theorem d_Ou_has_5 : decode b_Ou_has 5 = .ok (.aload_n 0, 1) := by decide +kernel
theorem d_Ou_has_6 : decode b_Ou_has 6 = .ok (.getfield 15, 3) := by decide +kernel
theorem d_Ou_has_9 : decode b_Ou_has 9 = .ok (.if_icmp .ge 17, 3) := by decide +kernel
theorem d_Ou_has_12 : decode b_Ou_has 12 = .ok (.iload_n 2, 1) := by decide +kernel
theorem d_Ou_has_13 : decode b_Ou_has 13 = .ok (.ifCond .lt 13, 3) := by decide +kernel
theorem d_Ou_has_16 : decode b_Ou_has 16 = .ok (.iload_n 2, 1) := by decide +kernel
theorem d_Ou_has_17 : decode b_Ou_has 17 = .ok (.bipush 7, 2) := by decide +kernel
theorem d_Ou_has_19 : decode b_Ou_has 19 = .ok (.if_icmp .ge 7, 3) := by decide +kernel
theorem d_Ou_has_22 : decode b_Ou_has 22 = .ok (.iconst 1, 1) := by decide +kernel
theorem d_Ou_has_23 : decode b_Ou_has 23 = .ok (.goto 4, 3) := by decide +kernel
theorem d_Ou_has_26 : decode b_Ou_has 26 = .ok (.iconst 0, 1) := by decide +kernel
theorem d_Ou_has_27 : decode b_Ou_has 27 = .ok (.ireturn, 1) := by decide +kernel
abbrev b_CO_mark : ByteArray := prog_1_method_7_code
abbrev y_CO_mark : MethodName := ⟨"CharOutlines", "mark", "(II)I"⟩
set_option maxRecDepth 100000 in
theorem cal_CO_mark : CalV gd_tbl "CharOutlines" y_CO_mark b_CO_mark 3 (some .int) 2 := ⟨⟨List.mem_filter.mpr ⟨List.mem_of_getElem? (i := 721) rfl, rfl⟩, List.mem_filter.mpr ⟨List.mem_of_getElem? (i := 60) rfl, rfl⟩, ⟨by decide, by decide⟩, by decide +kernel⟩, List.mem_filter.mpr ⟨List.mem_of_getElem? (i := 719) rfl, rfl⟩, List.mem_filter.mpr ⟨List.mem_of_getElem? (i := 720) rfl, rfl⟩⟩
theorem d_CO_mark_0 : decode b_CO_mark 0 = .ok (.aload_n 0, 1) := by decide +kernel
theorem d_CO_mark_1 : decode b_CO_mark 1 = .ok (.getfield 19, 3) := by decide +kernel
theorem d_CO_mark_4 : decode b_CO_mark 4 = .ok (.invokevirtual 77, 3) := by decide +kernel
theorem d_CO_mark_7 : decode b_CO_mark 7 = .ok (.iload_n 1, 1) := by decide +kernel
theorem d_CO_mark_8 : decode b_CO_mark 8 = .ok (.iload_n 2, 1) := by decide +kernel
theorem d_CO_mark_9 : decode b_CO_mark 9 = .ok (.invokevirtual 81, 3) := by decide +kernel
theorem d_CO_mark_12 : decode b_CO_mark 12 = .ok (.ifCond .ne 13, 3) := by decide +kernel
theorem d_CO_mark_15 : decode b_CO_mark 15 = .ok (.new 31, 3) := by decide +kernel
theorem d_CO_mark_18 : decode b_CO_mark 18 = .ok (.dup, 1) := by decide +kernel
theorem d_CO_mark_19 : decode b_CO_mark 19 = .ok (.ldc 86, 2) := by decide +kernel
theorem d_CO_mark_21 : decode b_CO_mark 21 = .ok (.invokespecial 35, 3) := by decide +kernel
theorem d_CO_mark_24 : decode b_CO_mark 24 = .ok (.athrow, 1) := by decide +kernel
theorem d_CO_mark_25 : decode b_CO_mark 25 = .ok (.aload_n 0, 1) := by decide +kernel
theorem d_CO_mark_26 : decode b_CO_mark 26 = .ok (.getfield 19, 3) := by decide +kernel
theorem d_CO_mark_29 : decode b_CO_mark 29 = .ok (.invokevirtual 77, 3) := by decide +kernel
theorem d_CO_mark_32 : decode b_CO_mark 32 = .ok (.iload_n 1, 1) := by decide +kernel
theorem d_CO_mark_33 : decode b_CO_mark 33 = .ok (.iload_n 2, 1) := by decide +kernel
theorem d_CO_mark_34 : decode b_CO_mark 34 = .ok (.invokevirtual 88, 3) := by decide +kernel
theorem d_CO_mark_37 : decode b_CO_mark 37 = .ok (.ireturn, 1) := by decide +kernel
abbrev b_Ma_told : ByteArray := prog_4_method_4_code
abbrev y_Ma_told : MethodName := ⟨"CharOutlines$Machine", "told", "(I)I"⟩
set_option maxRecDepth 100000 in
theorem cal_Ma_told : CalV gd_tbl "CharOutlines$Machine" y_Ma_told b_Ma_told 2 (some .int) 1 := ⟨⟨List.mem_filter.mpr ⟨List.mem_of_getElem? (i := 282) rfl, rfl⟩, List.mem_filter.mpr ⟨List.mem_of_getElem? (i := 62) rfl, rfl⟩, ⟨by decide, by decide⟩, by decide +kernel⟩, List.mem_filter.mpr ⟨List.mem_of_getElem? (i := 280) rfl, rfl⟩, List.mem_filter.mpr ⟨List.mem_of_getElem? (i := 281) rfl, rfl⟩⟩
theorem d_Ma_told_0 : decode b_Ma_told 0 = .ok (.aload_n 0, 1) := by decide +kernel
theorem d_Ma_told_1 : decode b_Ma_told 1 = .ok (.getfield 43, 3) := by decide +kernel
theorem d_Ma_told_4 : decode b_Ma_told 4 = .ok (.ifCond .ne 5, 3) := by decide +kernel
theorem d_Ma_told_7 : decode b_Ma_told 7 = .ok (.iconst (-1), 1) := by decide +kernel
theorem d_Ma_told_8 : decode b_Ma_told 8 = .ok (.ireturn, 1) := by decide +kernel
theorem d_Ma_told_9 : decode b_Ma_told 9 = .ok (.iload_n 1, 1) := by decide +kernel
theorem d_Ma_told_10 : decode b_Ma_told 10 = .ok (.tableswitch 82 0 5 #[38, 43, 48, 61, 66, 74], 38) := by decide +kernel
theorem d_Ma_told_48 : decode b_Ma_told 48 = .ok (.aload_n 0, 1) := by decide +kernel
theorem d_Ma_told_49 : decode b_Ma_told 49 = .ok (.getfield 47, 3) := by decide +kernel
theorem d_Ma_told_52 : decode b_Ma_told 52 = .ok (.ireturn, 1) := by decide +kernel
theorem d_Ma_told_53 : decode b_Ma_told 53 = .ok (.aload_n 0, 1) := by decide +kernel
theorem d_Ma_told_54 : decode b_Ma_told 54 = .ok (.getfield 51, 3) := by decide +kernel
theorem d_Ma_told_57 : decode b_Ma_told 57 = .ok (.ireturn, 1) := by decide +kernel
theorem d_Ma_told_58 : decode b_Ma_told 58 = .ok (.aload_n 0, 1) := by decide +kernel
theorem d_Ma_told_59 : decode b_Ma_told 59 = .ok (.getfield 54, 3) := by decide +kernel
theorem d_Ma_told_62 : decode b_Ma_told 62 = .ok (.ifCond .eq 7, 3) := by decide +kernel
theorem d_Ma_told_65 : decode b_Ma_told 65 = .ok (.iconst 1, 1) := by decide +kernel
theorem d_Ma_told_66 : decode b_Ma_told 66 = .ok (.goto 4, 3) := by decide +kernel
theorem d_Ma_told_69 : decode b_Ma_told 69 = .ok (.iconst 0, 1) := by decide +kernel
theorem d_Ma_told_70 : decode b_Ma_told 70 = .ok (.ireturn, 1) := by decide +kernel
theorem d_Ma_told_71 : decode b_Ma_told 71 = .ok (.aload_n 0, 1) := by decide +kernel
theorem d_Ma_told_72 : decode b_Ma_told 72 = .ok (.getfield 57, 3) := by decide +kernel
theorem d_Ma_told_75 : decode b_Ma_told 75 = .ok (.ireturn, 1) := by decide +kernel
theorem d_Ma_told_76 : decode b_Ma_told 76 = .ok (.aload_n 0, 1) := by decide +kernel
theorem d_Ma_told_77 : decode b_Ma_told 77 = .ok (.getfield 21, 3) := by decide +kernel
theorem d_Ma_told_80 : decode b_Ma_told 80 = .ok (.invokevirtual 60, 3) := by decide +kernel
theorem d_Ma_told_83 : decode b_Ma_told 83 = .ok (.ireturn, 1) := by decide +kernel
theorem d_Ma_told_84 : decode b_Ma_told 84 = .ok (.aload_n 0, 1) := by decide +kernel
theorem d_Ma_told_85 : decode b_Ma_told 85 = .ok (.getfield 12, 3) := by decide +kernel
theorem d_Ma_told_88 : decode b_Ma_told 88 = .ok (.invokevirtual 64, 3) := by decide +kernel
theorem d_Ma_told_91 : decode b_Ma_told 91 = .ok (.ireturn, 1) := by decide +kernel
theorem d_Ma_told_92 : decode b_Ma_told 92 = .ok (.iconst (-1), 1) := by decide +kernel
theorem d_Ma_told_93 : decode b_Ma_told 93 = .ok (.ireturn, 1) := by decide +kernel
abbrev b_CO_last : ByteArray := prog_1_method_8_code
abbrev y_CO_last : MethodName := ⟨"CharOutlines", "last", "(I)I"⟩
set_option maxRecDepth 100000 in
theorem cal_CO_last : CalV gd_tbl "CharOutlines" y_CO_last b_CO_last 2 (some .int) 1 := ⟨⟨List.mem_filter.mpr ⟨List.mem_of_getElem? (i := 278) rfl, rfl⟩, List.mem_filter.mpr ⟨List.mem_of_getElem? (i := 60) rfl, rfl⟩, ⟨by decide, by decide⟩, by decide +kernel⟩, List.mem_filter.mpr ⟨List.mem_of_getElem? (i := 276) rfl, rfl⟩, List.mem_filter.mpr ⟨List.mem_of_getElem? (i := 277) rfl, rfl⟩⟩
theorem d_CO_last_0 : decode b_CO_last 0 = .ok (.aload_n 0, 1) := by decide +kernel
theorem d_CO_last_1 : decode b_CO_last 1 = .ok (.getfield 19, 3) := by decide +kernel
theorem d_CO_last_4 : decode b_CO_last 4 = .ok (.iload_n 1, 1) := by decide +kernel
theorem d_CO_last_5 : decode b_CO_last 5 = .ok (.invokevirtual 91, 3) := by decide +kernel
theorem d_CO_last_8 : decode b_CO_last 8 = .ok (.ireturn, 1) := by decide +kernel
set_option maxRecDepth 100000 in
theorem cl_CO_31 : (Jvm.Cond.classLink "CharOutlines" (31 : Nat) "java/lang/IndexOutOfBoundsException") ∈ gd_tbl := List.mem_filter.mpr ⟨List.mem_of_getElem? (i := 300) rfl, rfl⟩
set_option maxRecDepth 100000 in
theorem cl_CO_38 : (Jvm.Cond.classLink "CharOutlines" (38 : Nat) "java/lang/IllegalArgumentException") ∈ gd_tbl := List.mem_filter.mpr ⟨List.mem_of_getElem? (i := 366) rfl, rfl⟩
set_option maxRecDepth 100000 in
theorem fl_Ma_43 : (Jvm.Cond.fieldLink "CharOutlines$Machine" (43 : Nat) "CharOutlines$Machine" "hasRun" "Z") ∈ gd_tbl := List.mem_filter.mpr ⟨List.mem_of_getElem? (i := 202) rfl, rfl⟩
set_option maxRecDepth 100000 in
theorem fl_Ou_15 : (Jvm.Cond.fieldLink "CharOutlines$Outline" (15 : Nat) "CharOutlines$Outline" "marks" "I") ∈ gd_tbl := List.mem_filter.mpr ⟨List.mem_of_getElem? (i := 186) rfl, rfl⟩
set_option maxRecDepth 100000 in
theorem fl_Sh_18 : (Jvm.Cond.fieldLink "CharOutlines$Shelf" (18 : Nat) "CharOutlines$Shelf" "strings" "I") ∈ gd_tbl := List.mem_filter.mpr ⟨List.mem_of_getElem? (i := 121) rfl, rfl⟩
set_option maxRecDepth 100000 in
theorem ml_By_21 : (Jvm.Cond.methodLink "CharOutlines$Bytes" (21 : Nat) ({ cls := "CharOutlines$Bytes", name := "at", desc := "(I)I" } : Jvm.MethodName)) ∈ gd_tbl := List.mem_filter.mpr ⟨List.mem_of_getElem? (i := 386) rfl, rfl⟩
set_option maxRecDepth 100000 in
theorem ml_By_25 : (Jvm.Cond.methodLink "CharOutlines$Bytes" (25 : Nat) ({ cls := "CharOutlines$Bytes", name := "makeRoom", desc := "(I)V" } : Jvm.MethodName)) ∈ gd_tbl := List.mem_filter.mpr ⟨List.mem_of_getElem? (i := 251) rfl, rfl⟩
set_option maxRecDepth 100000 in
theorem ml_CO_23 : (Jvm.Cond.methodLink "CharOutlines" (23 : Nat) ({ cls := "CharOutlines$Bytes", name := "length", desc := "()I" } : Jvm.MethodName)) ∈ gd_tbl := List.mem_filter.mpr ⟨List.mem_of_getElem? (i := 243) rfl, rfl⟩
set_option maxRecDepth 100000 in
theorem ml_CO_27 : (Jvm.Cond.methodLink "CharOutlines" (27 : Nat) ({ cls := "CharOutlines$Bytes", name := "append", desc := "(I)V" } : Jvm.MethodName)) ∈ gd_tbl := List.mem_filter.mpr ⟨List.mem_of_getElem? (i := 247) rfl, rfl⟩
set_option maxRecDepth 100000 in
theorem ml_CO_35 : (Jvm.Cond.methodLink "CharOutlines" (35 : Nat) ({ cls := "java/lang/IndexOutOfBoundsException", name := "<init>", desc := "(Ljava/lang/String;)V" } : Jvm.MethodName)) ∈ gd_tbl := List.mem_filter.mpr ⟨List.mem_of_getElem? (i := 341) rfl, rfl⟩
set_option maxRecDepth 100000 in
theorem ml_CO_42 : (Jvm.Cond.methodLink "CharOutlines" (42 : Nat) ({ cls := "java/lang/IllegalArgumentException", name := "<init>", desc := "(Ljava/lang/String;)V" } : Jvm.MethodName)) ∈ gd_tbl := List.mem_filter.mpr ⟨List.mem_of_getElem? (i := 376) rfl, rfl⟩
set_option maxRecDepth 100000 in
theorem ml_CO_43 : (Jvm.Cond.methodLink "CharOutlines" (43 : Nat) ({ cls := "CharOutlines$Bytes", name := "replace", desc := "(II)I" } : Jvm.MethodName)) ∈ gd_tbl := List.mem_filter.mpr ⟨List.mem_of_getElem? (i := 382) rfl, rfl⟩
set_option maxRecDepth 100000 in
theorem ml_CO_49 : (Jvm.Cond.methodLink "CharOutlines" (49 : Nat) ({ cls := "CharOutlines$Bytes", name := "shorten", desc := "(I)I" } : Jvm.MethodName)) ∈ gd_tbl := List.mem_filter.mpr ⟨List.mem_of_getElem? (i := 398) rfl, rfl⟩
set_option maxRecDepth 100000 in
theorem ml_CO_53 : (Jvm.Cond.methodLink "CharOutlines" (53 : Nat) ({ cls := "CharOutlines", name := "isKind", desc := "(I)Z" } : Jvm.MethodName)) ∈ gd_tbl := List.mem_filter.mpr ⟨List.mem_of_getElem? (i := 409) rfl, rfl⟩
set_option maxRecDepth 100000 in
theorem ml_CO_59 : (Jvm.Cond.methodLink "CharOutlines" (59 : Nat) ({ cls := "CharOutlines$Machine", name := "shelf", desc := "(I)LCharOutlines$Shelf;" } : Jvm.MethodName)) ∈ gd_tbl := List.mem_filter.mpr ⟨List.mem_of_getElem? (i := 413) rfl, rfl⟩
set_option maxRecDepth 100000 in
theorem ml_CO_63 : (Jvm.Cond.methodLink "CharOutlines" (63 : Nat) ({ cls := "CharOutlines$Shelf", name := "fill", desc := "(LCharOutlines$Bytes;)I" } : Jvm.MethodName)) ∈ gd_tbl := List.mem_filter.mpr ⟨List.mem_of_getElem? (i := 421) rfl, rfl⟩
set_option maxRecDepth 100000 in
theorem ml_CO_69 : (Jvm.Cond.methodLink "CharOutlines" (69 : Nat) ({ cls := "CharOutlines$Shelf", name := "has", desc := "(I)Z" } : Jvm.MethodName)) ∈ gd_tbl := List.mem_filter.mpr ⟨List.mem_of_getElem? (i := 450) rfl, rfl⟩
set_option maxRecDepth 100000 in
theorem ml_CO_77 : (Jvm.Cond.methodLink "CharOutlines" (77 : Nat) ({ cls := "CharOutlines$Machine", name := "outline", desc := "()LCharOutlines$Outline;" } : Jvm.MethodName)) ∈ gd_tbl := List.mem_filter.mpr ⟨List.mem_of_getElem? (i := 722) rfl, rfl⟩
set_option maxRecDepth 100000 in
theorem ml_CO_81 : (Jvm.Cond.methodLink "CharOutlines" (81 : Nat) ({ cls := "CharOutlines$Outline", name := "has", desc := "(II)Z" } : Jvm.MethodName)) ∈ gd_tbl := List.mem_filter.mpr ⟨List.mem_of_getElem? (i := 726) rfl, rfl⟩
set_option maxRecDepth 100000 in
theorem ml_CO_91 : (Jvm.Cond.methodLink "CharOutlines" (91 : Nat) ({ cls := "CharOutlines$Machine", name := "told", desc := "(I)I" } : Jvm.MethodName)) ∈ gd_tbl := List.mem_filter.mpr ⟨List.mem_of_getElem? (i := 279) rfl, rfl⟩
set_option maxRecDepth 100000 in
theorem ml_CO_94 : (Jvm.Cond.methodLink "CharOutlines" (94 : Nat) ({ cls := "CharOutlines$Shelf", name := "strings", desc := "()I" } : Jvm.MethodName)) ∈ gd_tbl := List.mem_filter.mpr ⟨List.mem_of_getElem? (i := 743) rfl, rfl⟩
set_option maxRecDepth 100000 in
theorem ml_Ma_39 : (Jvm.Cond.methodLink "CharOutlines$Machine" (39 : Nat) ({ cls := "CharOutlines$Strings", name := "shelf", desc := "(I)LCharOutlines$Shelf;" } : Jvm.MethodName)) ∈ gd_tbl := List.mem_filter.mpr ⟨List.mem_of_getElem? (i := 417) rfl, rfl⟩
set_option maxRecDepth 100000 in
theorem ml_Sh_26 : (Jvm.Cond.methodLink "CharOutlines$Shelf" (26 : Nat) ({ cls := "CharOutlines$Shelf", name := "stringsIn", desc := "(LCharOutlines$Bytes;)I" } : Jvm.MethodName)) ∈ gd_tbl := List.mem_filter.mpr ⟨List.mem_of_getElem? (i := 425) rfl, rfl⟩
set_option maxRecDepth 100000 in
theorem ml_Sh_38 : (Jvm.Cond.methodLink "CharOutlines$Shelf" (38 : Nat) ({ cls := "CharOutlines$Bytes", name := "length", desc := "()I" } : Jvm.MethodName)) ∈ gd_tbl := List.mem_filter.mpr ⟨List.mem_of_getElem? (i := 428) rfl, rfl⟩
set_option maxHeartbeats 1000000 in
set_option maxRecDepth 100000 in
theorem c_CO_isKind (l : Launch) (D : va_G) (cB cI cJ : ClassId) (k : Int32) : Ro l D classes (TY cB cI cJ) gd_tbl nx_tbl y_CO_isKind b_CO_isKind 1 (some .boolean) ({ frames := 0, cells := 0, slots := 0, locals := 0 }) [.int k] [] (fun v => v = .int (isK k)) := by
  refine Ro.intro (by decide +kernel) nx_ok (Nat.le_of_ble_eq_true rfl) ?_
  intro p_ e_ s_ m_ args_ below_ meth_ c_ A_ ls hx hb hml hown hts hr hlk hnm hZ hP hD hl
  have hl : lv_has ls 1 [(0, .int k)] := hl
  refine lv_iload_n hx hb d_CO_isKind_0 rfl (lv_at hl 0 rfl) ?_
  refine lv_if_lt (tgt := 13) hx hb d_CO_isKind_1 (by decide) (fun c_1 => ?_) (fun c_1 => ?_)
  · refine lv_iconst (v := 0) hx hb d_CO_isKind_13 (by decide) ?_
    exact r_zret hx hb hr hlk (by decide) d_CO_isKind_14 (by simp [isK, c_1])
  · refine lv_iload_n hx hb d_CO_isKind_4 rfl (lv_at hl 0 rfl) ?_
    refine lv_iconst (v := 2) hx hb d_CO_isKind_5 (by decide) ?_
    refine lv_icmp_gt (tgt := 13) hx hb d_CO_isKind_6 (by decide) (fun c_6 => ?_) (fun c_6 => ?_)
    · refine lv_iconst (v := 0) hx hb d_CO_isKind_13 (by decide) ?_
      exact r_zret hx hb hr hlk (by decide) d_CO_isKind_14 (by simp [isK, c_1, c_6])
    · refine lv_iconst (v := 1) hx hb d_CO_isKind_9 (by decide) ?_
      refine lv_goto (tgt := 14) hx hb d_CO_isKind_10 (by decide) ?_
      exact r_zret hx hb hr hlk (by decide) d_CO_isKind_14 (by simp [isK, c_1, c_6])
set_option maxHeartbeats 1000000 in
set_option maxRecDepth 100000 in
theorem c_By_makeRoom_fit (l : Launch) (D : va_G) (cB cI cJ : ClassId) (h a n cap : Nat) (f : Nat → Int32) (j : Nat) (hj : j ≤ cap) (hc : cap ≤ 16384) : Tr l D classes (TY cB cI cJ) gd_tbl nx_tbl y_By_makeRoom b_By_makeRoom 2 none ({ frames := 0, cells := 0, slots := 0, locals := 0 }) [.ref h, .int (nI j)] [(h, .inr (0, [.ref a, .int (nI n)])), (a, .inl (cB, cap, .inl f))] (pV0 (fun w => w = [(h, .inr (0, [.ref a, .int (nI n)])), (a, .inl (cB, cap, .inl f))])) := by
  refine Tr.intro (by decide +kernel) nx_ok (Nat.le_of_ble_eq_true rfl) ?_
  intro p_ e_ s_ m_ args_ below_ meth_ c_ A_ ls hx hb hml hown hts hr hlk hnm hZ hP hD hS hl
  have hl : lv_has ls 2 [(0, .ref h), (1, .int (nI j))] := hl
  refine lv_iload_n hx hb d_By_makeRoom_0 rfl (lv_at hl 1 rfl) ?_
  refine lv_aload_n hx hb d_By_makeRoom_1 rfl (lv_at hl 0 rfl) ?_
  refine va_get (D := D) (ci := 0) (v := .ref a) (C := R_By) (T := F_By) (N := 2) hx hb hts i_By hown hZ.1 hP 0 rfl rfl 0 (by decide) (hts _ fl_By_11) (fun _ h9 => h9) rfl d_By_makeRoom_2 ?_
  refine va_alen (v := nI cap) hx hb hZ.1 hP 1 0 rfl rfl rfl d_By_makeRoom_5 ?_
  refine lv_icmp_le (tgt := 44) hx hb d_By_makeRoom_6 (by decide) (fun c_6 => ?_) (fun c_6 => absurd (nI_le hj (by omega)) c_6)
  exact t_vret hx hb hr hlk d_By_makeRoom_44 hP hD hS ⟨rfl, rfl, rfl, rfl⟩
set_option maxHeartbeats 1000000 in
set_option maxRecDepth 100000 in
theorem c_By_append_fit (l : Launch) (D : va_G) (cB cI cJ : ClassId) (h a n cap : Nat) (f : Nat → Int32) (x : Int32) (hn : n + 4 ≤ cap) (hc : cap ≤ 16384) : Tr l D classes (TY cB cI cJ) gd_tbl nx_tbl y_By_append b_By_append 3 none ({ frames := 1, cells := 0, slots := 0, locals := 21 }) [.ref h, .int x] [(h, .inr (0, [.ref a, .int (nI n)])), (a, .inl (cB, cap, .inl f))] (pV0 (fun w => w = [(h, .inr (0, [.ref a, .int (nI (n + 4))])), (a, .inl (cB, cap, .inl (app4 f n x)))])) := by
  refine Tr.intro (by decide +kernel) nx_ok (Nat.le_of_ble_eq_true rfl) ?_
  intro p_ e_ s_ m_ args_ below_ meth_ c_ A_ ls hx hb hml hown hts hr hlk hnm hZ hP hD hS hl
  have hl : lv_has ls 3 [(0, .ref h), (1, .int x)] := hl
  refine lv_aload_n hx hb d_By_append_0 rfl (lv_at hl 0 rfl) ?_
  refine va_get (D := D) (ci := 0) (v := .int (nI n)) (C := R_By) (T := F_By) (N := 2) hx hb hts i_By hown hZ.1 hP 0 rfl rfl 1 (by decide) (hts _ fl_By_15) (fun _ h9 => h9) rfl d_By_append_1 ?_
  refine lv_iconst (v := 4) hx hb d_By_append_4 (by decide) ?_
  refine lv_iadd hx hb d_By_append_5 ?_
  refine lv_tv (y := nI (n + 4)) (nI_add n 4) ?_
  refine lv_istore_n (lv' := [(2, .int (nI (n + 4))), (0, .ref h), (1, .int x)]) hx hb d_By_append_6 rfl hl (by decide) rfl (fun ls hl => ?_)
  refine lv_aload_n hx hb d_By_append_7 rfl (lv_at hl 1 rfl) ?_
  refine lv_iload_n hx hb d_By_append_8 rfl (lv_at hl 0 rfl) ?_
  have hC : Cut [(h, .inr (0, [.ref a, .int (nI n)])), (a, .inl (cB, cap, .inl f))] [(h, .inr (0, [.ref a, .int (nI n)])), (a, .inl (cB, cap, .inl f))] [] [0, 1] [] := ⟨rfl, rfl, rfl, rfl, by decide⟩
  refine goV0 (trV (As := [.int (nI (n + 4))]) (rest := []) ⟨hx, hb, hml, hown, hts⟩ gd_good (c_By_makeRoom_fit l D cB cI cJ h a n cap f (n + 4) (by omega) (by omega)) cal_By_makeRoom ml_By_25 ⟨Nat.le_of_ble_eq_true rfl, Nat.le_of_ble_eq_true rfl⟩ hZ hP hD hC 0 (ci := 0) rfl rfl rfl rfl hl.1 rfl (Nat.le_of_ble_eq_true rfl) d_By_append_9 ⟨Nat.le_of_ble_eq_true rfl, Nat.le_of_ble_eq_true rfl⟩) hZ hP hD hS hC (fun w1 H locs hq hP hD hS => ?_)
  subst hq
  have hP : va_P D classes [(h, .inr (0, [.ref a, .int (nI n)])), (a, .inl (cB, cap, .inl f))] H := hP
  have hD : va_D A_ [(h, .inr (0, [.ref a, .int (nI n)])), (a, .inl (cB, cap, .inl f))] := hD
  refine lv_iload_n hx hb d_By_append_12 rfl (lv_at hl 0 rfl) ?_
  refine lv_aload_n hx hb d_By_append_13 rfl (lv_at hl 1 rfl) ?_
  refine va_get (D := D) (ci := 0) (v := .ref a) (C := R_By) (T := F_By) (N := 2) hx hb hts i_By hown hZ.1 hP 0 rfl rfl 0 (by decide) (hts _ fl_By_11) (fun _ h9 => h9) rfl d_By_append_14 ?_
  refine va_alen (v := nI cap) hx hb hZ.1 hP 1 0 rfl rfl rfl d_By_append_17 ?_
  refine lv_icmp_le (tgt := 22) hx hb d_By_append_18 (by decide) (fun c_18 => ?_) (fun c_18 => absurd (nI_le hn (by omega)) c_18)
  refine lv_aload_n hx hb d_By_append_22 rfl (lv_at hl 1 rfl) ?_
  refine va_get (D := D) (ci := 0) (v := .ref a) (C := R_By) (T := F_By) (N := 2) hx hb hts i_By hown hZ.1 hP 0 rfl rfl 0 (by decide) (hts _ fl_By_11) (fun _ h9 => h9) rfl d_By_append_23 ?_
  refine lv_aload_n hx hb d_By_append_26 rfl (lv_at hl 1 rfl) ?_
  refine va_get (D := D) (ci := 0) (v := .int (nI n)) (C := R_By) (T := F_By) (N := 2) hx hb hts i_By hown hZ.1 hP 0 rfl rfl 1 (by decide) (hts _ fl_By_15) (fun _ h9 => h9) rfl d_By_append_27 ?_
  refine lv_iload_n hx hb d_By_append_30 rfl (lv_at hl 2 rfl) ?_
  refine lv_bipush (v := 24) hx hb d_By_append_31 (by decide) ?_
  refine lv_ishr hx hb d_By_append_33 ?_
  refine lv_i2b hx hb d_By_append_34 rfl ?_
  refine va_bast hx hb hZ.1 hP hD hS 1 0 rfl rfl (vp_in_nI (by omega) (by omega)) d_By_append_35 (fun H locs hP hD hS => ?_)
  rw [show ((nI n).toNatClampNeg) = n from nI_clamp (by omega)] at hP hD
  have hP : va_P D classes [(h, .inr (0, [.ref a, .int (nI n)])), (a, .inl (cB, cap, .inl (upd f n (vp_nar .byte ((x >>> (24 &&& 31)).toInt8.toInt32)))))] H := hP
  have hD : va_D A_ [(h, .inr (0, [.ref a, .int (nI n)])), (a, .inl (cB, cap, .inl (upd f n (vp_nar .byte ((x >>> (24 &&& 31)).toInt8.toInt32)))))] := hD
  refine lv_aload_n hx hb d_By_append_36 rfl (lv_at hl 1 rfl) ?_
  refine va_get (D := D) (ci := 0) (v := .ref a) (C := R_By) (T := F_By) (N := 2) hx hb hts i_By hown hZ.1 hP 0 rfl rfl 0 (by decide) (hts _ fl_By_11) (fun _ h9 => h9) rfl d_By_append_37 ?_
  refine lv_aload_n hx hb d_By_append_40 rfl (lv_at hl 1 rfl) ?_
  refine va_get (D := D) (ci := 0) (v := .int (nI n)) (C := R_By) (T := F_By) (N := 2) hx hb hts i_By hown hZ.1 hP 0 rfl rfl 1 (by decide) (hts _ fl_By_15) (fun _ h9 => h9) rfl d_By_append_41 ?_
  refine lv_iconst (v := 1) hx hb d_By_append_44 (by decide) ?_
  refine lv_iadd hx hb d_By_append_45 ?_
  refine lv_tv (y := nI (n + 1)) (nI_add n 1) ?_
  refine lv_iload_n hx hb d_By_append_46 rfl (lv_at hl 2 rfl) ?_
  refine lv_bipush (v := 16) hx hb d_By_append_47 (by decide) ?_
  refine lv_ishr hx hb d_By_append_49 ?_
  refine lv_i2b hx hb d_By_append_50 rfl ?_
  refine va_bast hx hb hZ.1 hP hD hS 1 0 rfl rfl (vp_in_nI (by omega) (by omega)) d_By_append_51 (fun H locs hP hD hS => ?_)
  rw [show ((nI (n + 1)).toNatClampNeg) = n + 1 from nI_clamp (by omega)] at hP hD
  have hP : va_P D classes [(h, .inr (0, [.ref a, .int (nI n)])), (a, .inl (cB, cap, .inl (upd (upd f n (vp_nar .byte ((x >>> (24 &&& 31)).toInt8.toInt32))) (n + 1) (vp_nar .byte ((x >>> (16 &&& 31)).toInt8.toInt32)))))] H := hP
  have hD : va_D A_ [(h, .inr (0, [.ref a, .int (nI n)])), (a, .inl (cB, cap, .inl (upd (upd f n (vp_nar .byte ((x >>> (24 &&& 31)).toInt8.toInt32))) (n + 1) (vp_nar .byte ((x >>> (16 &&& 31)).toInt8.toInt32)))))] := hD
  refine lv_aload_n hx hb d_By_append_52 rfl (lv_at hl 1 rfl) ?_
  refine va_get (D := D) (ci := 0) (v := .ref a) (C := R_By) (T := F_By) (N := 2) hx hb hts i_By hown hZ.1 hP 0 rfl rfl 0 (by decide) (hts _ fl_By_11) (fun _ h9 => h9) rfl d_By_append_53 ?_
  refine lv_aload_n hx hb d_By_append_56 rfl (lv_at hl 1 rfl) ?_
  refine va_get (D := D) (ci := 0) (v := .int (nI n)) (C := R_By) (T := F_By) (N := 2) hx hb hts i_By hown hZ.1 hP 0 rfl rfl 1 (by decide) (hts _ fl_By_15) (fun _ h9 => h9) rfl d_By_append_57 ?_
  refine lv_iconst (v := 2) hx hb d_By_append_60 (by decide) ?_
  refine lv_iadd hx hb d_By_append_61 ?_
  refine lv_tv (y := nI (n + 2)) (nI_add n 2) ?_
  refine lv_iload_n hx hb d_By_append_62 rfl (lv_at hl 2 rfl) ?_
  refine lv_bipush (v := 8) hx hb d_By_append_63 (by decide) ?_
  refine lv_ishr hx hb d_By_append_65 ?_
  refine lv_i2b hx hb d_By_append_66 rfl ?_
  refine va_bast hx hb hZ.1 hP hD hS 1 0 rfl rfl (vp_in_nI (by omega) (by omega)) d_By_append_67 (fun H locs hP hD hS => ?_)
  rw [show ((nI (n + 2)).toNatClampNeg) = n + 2 from nI_clamp (by omega)] at hP hD
  have hP : va_P D classes [(h, .inr (0, [.ref a, .int (nI n)])), (a, .inl (cB, cap, .inl (upd (upd (upd f n (vp_nar .byte ((x >>> (24 &&& 31)).toInt8.toInt32))) (n + 1) (vp_nar .byte ((x >>> (16 &&& 31)).toInt8.toInt32))) (n + 2) (vp_nar .byte ((x >>> (8 &&& 31)).toInt8.toInt32)))))] H := hP
  have hD : va_D A_ [(h, .inr (0, [.ref a, .int (nI n)])), (a, .inl (cB, cap, .inl (upd (upd (upd f n (vp_nar .byte ((x >>> (24 &&& 31)).toInt8.toInt32))) (n + 1) (vp_nar .byte ((x >>> (16 &&& 31)).toInt8.toInt32))) (n + 2) (vp_nar .byte ((x >>> (8 &&& 31)).toInt8.toInt32)))))] := hD
  refine lv_aload_n hx hb d_By_append_68 rfl (lv_at hl 1 rfl) ?_
  refine va_get (D := D) (ci := 0) (v := .ref a) (C := R_By) (T := F_By) (N := 2) hx hb hts i_By hown hZ.1 hP 0 rfl rfl 0 (by decide) (hts _ fl_By_11) (fun _ h9 => h9) rfl d_By_append_69 ?_
  refine lv_aload_n hx hb d_By_append_72 rfl (lv_at hl 1 rfl) ?_
  refine va_get (D := D) (ci := 0) (v := .int (nI n)) (C := R_By) (T := F_By) (N := 2) hx hb hts i_By hown hZ.1 hP 0 rfl rfl 1 (by decide) (hts _ fl_By_15) (fun _ h9 => h9) rfl d_By_append_73 ?_
  refine lv_iconst (v := 3) hx hb d_By_append_76 (by decide) ?_
  refine lv_iadd hx hb d_By_append_77 ?_
  refine lv_tv (y := nI (n + 3)) (nI_add n 3) ?_
  refine lv_iload_n hx hb d_By_append_78 rfl (lv_at hl 2 rfl) ?_
  refine lv_i2b hx hb d_By_append_79 rfl ?_
  refine va_bast hx hb hZ.1 hP hD hS 1 0 rfl rfl (vp_in_nI (by omega) (by omega)) d_By_append_80 (fun H locs hP hD hS => ?_)
  rw [show ((nI (n + 3)).toNatClampNeg) = n + 3 from nI_clamp (by omega)] at hP hD
  have hP : va_P D classes [(h, .inr (0, [.ref a, .int (nI n)])), (a, .inl (cB, cap, .inl (upd (upd (upd (upd f n (vp_nar .byte ((x >>> (24 &&& 31)).toInt8.toInt32))) (n + 1) (vp_nar .byte ((x >>> (16 &&& 31)).toInt8.toInt32))) (n + 2) (vp_nar .byte ((x >>> (8 &&& 31)).toInt8.toInt32))) (n + 3) (vp_nar .byte x.toInt8.toInt32))))] H := hP
  have hD : va_D A_ [(h, .inr (0, [.ref a, .int (nI n)])), (a, .inl (cB, cap, .inl (upd (upd (upd (upd f n (vp_nar .byte ((x >>> (24 &&& 31)).toInt8.toInt32))) (n + 1) (vp_nar .byte ((x >>> (16 &&& 31)).toInt8.toInt32))) (n + 2) (vp_nar .byte ((x >>> (8 &&& 31)).toInt8.toInt32))) (n + 3) (vp_nar .byte x.toInt8.toInt32))))] := hD
  refine lv_aload_n hx hb d_By_append_81 rfl (lv_at hl 1 rfl) ?_
  refine lv_iload_n hx hb d_By_append_82 rfl (lv_at hl 0 rfl) ?_
  refine va_put (D := D) (ci := 0) (v := .int (nI (n + 4))) (ty := .int) (C := R_By) (T := F_By) (N := 2) hx hb hts i_By t_By t_By_ok n_By hown hZ.1 hP hD hS 0 rfl rfl 1 (by decide) (hts _ fl_By_15) (fun _ h9 => h9) rfl (by decide +kernel) rfl rfl (Nat.le_of_ble_eq_true rfl) d_By_append_83 (fun H locs hP hD hS => ?_)
  have hP : va_P D classes [(h, .inr (0, [.ref a, .int (nI (n + 4))])), (a, .inl (cB, cap, .inl (upd (upd (upd (upd f n (vp_nar .byte ((x >>> (24 &&& 31)).toInt8.toInt32))) (n + 1) (vp_nar .byte ((x >>> (16 &&& 31)).toInt8.toInt32))) (n + 2) (vp_nar .byte ((x >>> (8 &&& 31)).toInt8.toInt32))) (n + 3) (vp_nar .byte x.toInt8.toInt32))))] H := hP
  have hD : va_D A_ [(h, .inr (0, [.ref a, .int (nI (n + 4))])), (a, .inl (cB, cap, .inl (upd (upd (upd (upd f n (vp_nar .byte ((x >>> (24 &&& 31)).toInt8.toInt32))) (n + 1) (vp_nar .byte ((x >>> (16 &&& 31)).toInt8.toInt32))) (n + 2) (vp_nar .byte ((x >>> (8 &&& 31)).toInt8.toInt32))) (n + 3) (vp_nar .byte x.toInt8.toInt32))))] := hD
  exact t_vret hx hb hr hlk d_By_append_86 hP hD hS ⟨rfl, rfl, rfl, rfl⟩
set_option maxHeartbeats 1000000 in
set_option maxRecDepth 100000 in
theorem c_By_replace (l : Launch) (D : va_G) (cB cI cJ : ClassId) (h a n cap : Nat) (f : Nat → Int32) (j : Nat) (b : Int32) (hj : j < n) (hn : n ≤ cap ∧ cap ≤ 16384) : Tr l D classes (TY cB cI cJ) gd_tbl nx_tbl y_By_replace b_By_replace 4 (some .int) ({ frames := 1, cells := 0, slots := 0, locals := 21 }) [.ref h, .int (nI j), .int b] [(h, .inr (0, [.ref a, .int (nI n)])), (a, .inl (cB, cap, .inl f))] (pI0 (fun r w => r = atB n f (nI j) ∧ w = [(h, .inr (0, [.ref a, .int (nI n)])), (a, .inl (cB, cap, .inl (upd f j (vp_nar .byte b.toInt8.toInt32))))])) := by
  refine Tr.intro (by decide +kernel) nx_ok (Nat.le_of_ble_eq_true rfl) ?_
  intro p_ e_ s_ m_ args_ below_ meth_ c_ A_ ls hx hb hml hown hts hr hlk hnm hZ hP hD hS hl
  have hl : lv_has ls 4 [(0, .ref h), (1, .int (nI j)), (2, .int b)] := hl
  refine lv_aload_n hx hb d_By_replace_0 rfl (lv_at hl 0 rfl) ?_
  refine lv_iload_n hx hb d_By_replace_1 rfl (lv_at hl 1 rfl) ?_
  refine roV (As := [.int (nI j)]) (rest := []) ⟨hx, hb, hml, hown, hts⟩ gd_good (c_By_at l D cB cI cJ h a n cap f (nI j) hn) cal_By_at ml_By_21 ⟨Nat.le_of_ble_eq_true rfl, Nat.le_of_ble_eq_true rfl⟩ hZ hP hD (isC := [0, 1]) ⟨rfl, rfl⟩ 0 (ci := 0) rfl rfl rfl rfl hl.1 rfl (Nat.le_of_ble_eq_true rfl) d_By_replace_2 ⟨Nat.le_of_ble_eq_true rfl, Nat.le_of_ble_eq_true rfl⟩ (fun v hv => ?_)
  subst hv
  refine lv_istore_n (lv' := [(3, .int (atB n f (nI j))), (0, .ref h), (1, .int (nI j)), (2, .int b)]) hx hb d_By_replace_5 rfl hl (by decide) rfl (fun ls hl => ?_)
  refine lv_iload_n hx hb d_By_replace_6 rfl (lv_at hl 2 rfl) ?_
  refine lv_if_lt (tgt := 26) hx hb d_By_replace_7 (by decide) (fun c_7 => absurd c_7 (nI_pos (by omega))) (fun c_7 => ?_)
  refine lv_iload_n hx hb d_By_replace_10 rfl (lv_at hl 2 rfl) ?_
  refine lv_aload_n hx hb d_By_replace_11 rfl (lv_at hl 1 rfl) ?_
  refine va_get (D := D) (ci := 0) (v := .int (nI n)) (C := R_By) (T := F_By) (N := 2) hx hb hts i_By hown hZ.1 hP 0 rfl rfl 1 (by decide) (hts _ fl_By_15) (fun _ h9 => h9) rfl d_By_replace_12 ?_
  refine lv_icmp_ge (tgt := 26) hx hb d_By_replace_15 (by decide) (fun c_15 => absurd c_15 (nI_ge hj (by omega))) (fun c_15 => ?_)
  refine lv_aload_n hx hb d_By_replace_18 rfl (lv_at hl 1 rfl) ?_
  refine va_get (D := D) (ci := 0) (v := .ref a) (C := R_By) (T := F_By) (N := 2) hx hb hts i_By hown hZ.1 hP 0 rfl rfl 0 (by decide) (hts _ fl_By_11) (fun _ h9 => h9) rfl d_By_replace_19 ?_
  refine lv_iload_n hx hb d_By_replace_22 rfl (lv_at hl 2 rfl) ?_
  refine lv_iload_n hx hb d_By_replace_23 rfl (lv_at hl 3 rfl) ?_
  refine lv_i2b hx hb d_By_replace_24 rfl ?_
  refine va_bast hx hb hZ.1 hP hD hS 1 0 rfl rfl (vp_in_nI (by omega) (by omega)) d_By_replace_25 (fun H locs hP hD hS => ?_)
  rw [show ((nI j).toNatClampNeg) = j from nI_clamp (by omega)] at hP hD
  have hP : va_P D classes [(h, .inr (0, [.ref a, .int (nI n)])), (a, .inl (cB, cap, .inl (upd f j (vp_nar .byte b.toInt8.toInt32))))] H := hP
  have hD : va_D A_ [(h, .inr (0, [.ref a, .int (nI n)])), (a, .inl (cB, cap, .inl (upd f j (vp_nar .byte b.toInt8.toInt32))))] := hD
  refine lv_iload_n hx hb d_By_replace_26 rfl (lv_at hl 0 rfl) ?_
  exact t_iret hx hb hr hlk d_By_replace_27 hP hD hS ⟨_, rfl, rfl, rfl, rfl, rfl⟩
set_option maxHeartbeats 1000000 in
set_option maxRecDepth 100000 in
theorem c_By_shorten (l : Launch) (D : va_G) (cB cI cJ : ClassId) (h a n cap : Nat) (f : Nat → Int32) (j : Nat) (hj : j < 2 ^ 31) (hn : n ≤ cap ∧ cap ≤ 16384) : Tr l D classes (TY cB cI cJ) gd_tbl nx_tbl y_By_shorten b_By_shorten 3 (some .int) ({ frames := 0, cells := 0, slots := 0, locals := 0 }) [.ref h, .int (nI j)] [(h, .inr (0, [.ref a, .int (nI n)])), (a, .inl (cB, cap, .inl f))] (pI0 (fun r w => ∃ n' : Nat, n' = min j n ∧ r = nI (n - n') ∧ w = [(h, .inr (0, [.ref a, .int (nI n')])), (a, .inl (cB, cap, .inl f))])) := by
  refine Tr.intro (by decide +kernel) nx_ok (Nat.le_of_ble_eq_true rfl) ?_
  intro p_ e_ s_ m_ args_ below_ meth_ c_ A_ ls hx hb hml hown hts hr hlk hnm hZ hP hD hS hl
  have hl : lv_has ls 3 [(0, .ref h), (1, .int (nI j))] := hl
  refine lv_aload_n hx hb d_By_shorten_0 rfl (lv_at hl 0 rfl) ?_
  refine va_get (D := D) (ci := 0) (v := .int (nI n)) (C := R_By) (T := F_By) (N := 2) hx hb hts i_By hown hZ.1 hP 0 rfl rfl 1 (by decide) (hts _ fl_By_15) (fun _ h9 => h9) rfl d_By_shorten_1 ?_
  refine lv_istore_n (lv' := [(2, .int (nI n)), (0, .ref h), (1, .int (nI j))]) hx hb d_By_shorten_4 rfl hl (by decide) rfl (fun ls hl => ?_)
  refine lv_iload_n hx hb d_By_shorten_5 rfl (lv_at hl 2 rfl) ?_
  refine lv_if_lt (tgt := 22) hx hb d_By_shorten_6 (by decide) (fun c_6 => absurd c_6 (nI_pos hj)) (fun c_6 => ?_)
  refine lv_iload_n hx hb d_By_shorten_9 rfl (lv_at hl 2 rfl) ?_
  refine lv_aload_n hx hb d_By_shorten_10 rfl (lv_at hl 1 rfl) ?_
  refine va_get (D := D) (ci := 0) (v := .int (nI n)) (C := R_By) (T := F_By) (N := 2) hx hb hts i_By hown hZ.1 hP 0 rfl rfl 1 (by decide) (hts _ fl_By_15) (fun _ h9 => h9) rfl d_By_shorten_11 ?_
  refine lv_icmp_ge (tgt := 22) hx hb d_By_shorten_14 (by decide) (fun c_14 => ?_) (fun c_14 => ?_)
  · refine lv_iload_n hx hb d_By_shorten_22 rfl (lv_at hl 0 rfl) ?_
    refine lv_aload_n hx hb d_By_shorten_23 rfl (lv_at hl 1 rfl) ?_
    refine va_get (D := D) (ci := 0) (v := .int (nI n)) (C := R_By) (T := F_By) (N := 2) hx hb hts i_By hown hZ.1 hP 0 rfl rfl 1 (by decide) (hts _ fl_By_15) (fun _ h9 => h9) rfl d_By_shorten_24 ?_
    refine lv_isub hx hb d_By_shorten_27 ?_
    exact t_iret hx hb hr hlk d_By_shorten_28 hP hD hS ⟨_, rfl, rfl, rfl, n, by have := (nI_leI (by omega) hj).mp c_14; omega, by rw [pk_sub (Nat.le_refl n)], rfl⟩
  · refine lv_aload_n hx hb d_By_shorten_17 rfl (lv_at hl 1 rfl) ?_
    refine lv_iload_n hx hb d_By_shorten_18 rfl (lv_at hl 2 rfl) ?_
    refine va_put (D := D) (ci := 0) (v := .int (nI j)) (ty := .int) (C := R_By) (T := F_By) (N := 2) hx hb hts i_By t_By t_By_ok n_By hown hZ.1 hP hD hS 0 rfl rfl 1 (by decide) (hts _ fl_By_15) (fun _ h9 => h9) rfl (by decide +kernel) rfl rfl (Nat.le_of_ble_eq_true rfl) d_By_shorten_19 (fun H locs hP hD hS => ?_)
    have hP : va_P D classes [(h, .inr (0, [.ref a, .int (nI j)])), (a, .inl (cB, cap, .inl f))] H := hP
    have hD : va_D A_ [(h, .inr (0, [.ref a, .int (nI j)])), (a, .inl (cB, cap, .inl f))] := hD
    refine lv_iload_n hx hb d_By_shorten_22 rfl (lv_at hl 0 rfl) ?_
    refine lv_aload_n hx hb d_By_shorten_23 rfl (lv_at hl 1 rfl) ?_
    refine va_get (D := D) (ci := 0) (v := .int (nI j)) (C := R_By) (T := F_By) (N := 2) hx hb hts i_By hown hZ.1 hP 0 rfl rfl 1 (by decide) (hts _ fl_By_15) (fun _ h9 => h9) rfl d_By_shorten_24 ?_
    refine lv_isub hx hb d_By_shorten_27 ?_
    exact t_iret hx hb hr hlk d_By_shorten_28 hP hD hS ⟨_, rfl, rfl, rfl, j, lt_min (fun q => c_14 (nI_le q hj)), pk_sub (lt_le (fun q => c_14 (nI_le q hj))), rfl⟩
set_option maxHeartbeats 1000000 in
set_option maxRecDepth 100000 in
theorem c_CO_feed_fit (l : Launch) (D : va_G) (cB cI cJ : ClassId) (o h mm a n cap : Nat) (f : Nat → Int32) (x1 x2 x3 x4 x5 : Int32) (hn : n + 20 ≤ cap) (hc : cap ≤ 16384) : Tr l D classes (TY cB cI cJ) gd_tbl nx_tbl y_CO_feed b_CO_feed 6 (some .int) ({ frames := 2, cells := 0, slots := 0, locals := 43 }) [.ref o, .int x1, .int x2, .int x3, .int x4, .int x5] [(o, .inr (7, [.ref h, .ref mm])), (h, .inr (0, [.ref a, .int (nI n)])), (a, .inl (cB, cap, .inl f))] (pI0 (fun r w => r = nI (n + 20) ∧ w = [(o, .inr (7, [.ref h, .ref mm])), (h, .inr (0, [.ref a, .int (nI (n + 20))])), (a, .inl (cB, cap, .inl (app4 (app4 (app4 (app4 (app4 f n x1) (n + 4) x2) (n + 8) x3) (n + 12) x4) (n + 16) x5)))])) := by
  refine Tr.intro (by decide +kernel) nx_ok (Nat.le_of_ble_eq_true rfl) ?_
  intro p_ e_ s_ m_ args_ below_ meth_ c_ A_ ls hx hb hml hown hts hr hlk hnm hZ hP hD hS hl
  have hl : lv_has ls 6 [(0, .ref o), (1, .int x1), (2, .int x2), (3, .int x3), (4, .int x4), (5, .int x5)] := hl
  refine lv_aload_n hx hb d_CO_feed_0 rfl (lv_at hl 0 rfl) ?_
  refine va_get (D := D) (ci := 7) (v := .ref h) (C := R_CO) (T := F_CO) (N := 2) hx hb hts i_CO hown hZ.1 hP 0 rfl rfl 0 (by decide) (hts _ fl_CO_10) (fun _ h9 => h9) rfl d_CO_feed_1 ?_
  refine roV (As := []) (rest := []) ⟨hx, hb, hml, hown, hts⟩ gd_good (c_By_length l D cB cI cJ h a n cap f) cal_By_length ml_CO_23 ⟨Nat.le_of_ble_eq_true rfl, Nat.le_of_ble_eq_true rfl⟩ hZ hP hD (isC := [1, 2]) ⟨rfl, rfl⟩ 1 (ci := 0) rfl rfl rfl rfl hl.1 rfl (Nat.le_of_ble_eq_true rfl) d_CO_feed_4 ⟨Nat.le_of_ble_eq_true rfl, Nat.le_of_ble_eq_true rfl⟩ (fun v hv => ?_)
  subst hv
  refine lv_sipush (v := 16364) hx hb d_CO_feed_7 (by decide) ?_
  refine lv_icmp_le (tgt := 15) hx hb d_CO_feed_10 (by decide) (fun c_10 => ?_) (fun c_10 => absurd (nI_le (b := 16364) (by omega) (by omega)) c_10)
  refine lv_aload_n hx hb d_CO_feed_15 rfl (lv_at hl 0 rfl) ?_
  refine va_get (D := D) (ci := 7) (v := .ref h) (C := R_CO) (T := F_CO) (N := 2) hx hb hts i_CO hown hZ.1 hP 0 rfl rfl 0 (by decide) (hts _ fl_CO_10) (fun _ h9 => h9) rfl d_CO_feed_16 ?_
  refine lv_iload_n hx hb d_CO_feed_19 rfl (lv_at hl 1 rfl) ?_
  have hC : Cut [(o, .inr (7, [.ref h, .ref mm])), (h, .inr (0, [.ref a, .int (nI n)])), (a, .inl (cB, cap, .inl f))] [(h, .inr (0, [.ref a, .int (nI n)])), (a, .inl (cB, cap, .inl f))] [(o, .inr (7, [.ref h, .ref mm]))] [1, 2] [0] := ⟨rfl, rfl, rfl, rfl, by decide⟩
  refine goV0 (trV (As := [.int x1]) (rest := []) ⟨hx, hb, hml, hown, hts⟩ gd_good (c_By_append_fit l D cB cI cJ h a n cap f x1 (by omega) (by omega)) cal_By_append ml_CO_27 ⟨Nat.le_of_ble_eq_true rfl, Nat.le_of_ble_eq_true rfl⟩ hZ hP hD hC 1 (ci := 0) rfl rfl rfl rfl hl.1 rfl (Nat.le_of_ble_eq_true rfl) d_CO_feed_20 ⟨Nat.le_of_ble_eq_true rfl, Nat.le_of_ble_eq_true rfl⟩) hZ hP hD hS hC (fun w1 H locs hq hP hD hS => ?_)
  subst hq
  have hP : va_P D classes [(o, .inr (7, [.ref h, .ref mm])), (h, .inr (0, [.ref a, .int (nI (n + 4))])), (a, .inl (cB, cap, .inl (app4 f n x1)))] H := hP
  have hD : va_D A_ [(o, .inr (7, [.ref h, .ref mm])), (h, .inr (0, [.ref a, .int (nI (n + 4))])), (a, .inl (cB, cap, .inl (app4 f n x1)))] := hD
  refine lv_aload_n hx hb d_CO_feed_23 rfl (lv_at hl 0 rfl) ?_
  refine va_get (D := D) (ci := 7) (v := .ref h) (C := R_CO) (T := F_CO) (N := 2) hx hb hts i_CO hown hZ.1 hP 0 rfl rfl 0 (by decide) (hts _ fl_CO_10) (fun _ h9 => h9) rfl d_CO_feed_24 ?_
  refine lv_iload_n hx hb d_CO_feed_27 rfl (lv_at hl 2 rfl) ?_
  have hC : Cut [(o, .inr (7, [.ref h, .ref mm])), (h, .inr (0, [.ref a, .int (nI (n + 4))])), (a, .inl (cB, cap, .inl (app4 f n x1)))] [(h, .inr (0, [.ref a, .int (nI (n + 4))])), (a, .inl (cB, cap, .inl (app4 f n x1)))] [(o, .inr (7, [.ref h, .ref mm]))] [1, 2] [0] := ⟨rfl, rfl, rfl, rfl, by decide⟩
  refine goV0 (trV (As := [.int x2]) (rest := []) ⟨hx, hb, hml, hown, hts⟩ gd_good (c_By_append_fit l D cB cI cJ h a (n + 4) cap (app4 f n x1) x2 (by omega) (by omega)) cal_By_append ml_CO_27 ⟨Nat.le_of_ble_eq_true rfl, Nat.le_of_ble_eq_true rfl⟩ hZ hP hD hC 1 (ci := 0) rfl rfl rfl rfl hl.1 rfl (Nat.le_of_ble_eq_true rfl) d_CO_feed_28 ⟨Nat.le_of_ble_eq_true rfl, Nat.le_of_ble_eq_true rfl⟩) hZ hP hD hS hC (fun w1 H locs hq hP hD hS => ?_)
  subst hq
  have hP : va_P D classes [(o, .inr (7, [.ref h, .ref mm])), (h, .inr (0, [.ref a, .int (nI (n + 4 + 4))])), (a, .inl (cB, cap, .inl (app4 (app4 f n x1) (n + 4) x2)))] H := hP
  have hD : va_D A_ [(o, .inr (7, [.ref h, .ref mm])), (h, .inr (0, [.ref a, .int (nI (n + 4 + 4))])), (a, .inl (cB, cap, .inl (app4 (app4 f n x1) (n + 4) x2)))] := hD
  refine lv_aload_n hx hb d_CO_feed_31 rfl (lv_at hl 0 rfl) ?_
  refine va_get (D := D) (ci := 7) (v := .ref h) (C := R_CO) (T := F_CO) (N := 2) hx hb hts i_CO hown hZ.1 hP 0 rfl rfl 0 (by decide) (hts _ fl_CO_10) (fun _ h9 => h9) rfl d_CO_feed_32 ?_
  refine lv_iload_n hx hb d_CO_feed_35 rfl (lv_at hl 3 rfl) ?_
  have hC : Cut [(o, .inr (7, [.ref h, .ref mm])), (h, .inr (0, [.ref a, .int (nI (n + 4 + 4))])), (a, .inl (cB, cap, .inl (app4 (app4 f n x1) (n + 4) x2)))] [(h, .inr (0, [.ref a, .int (nI (n + 4 + 4))])), (a, .inl (cB, cap, .inl (app4 (app4 f n x1) (n + 4) x2)))] [(o, .inr (7, [.ref h, .ref mm]))] [1, 2] [0] := ⟨rfl, rfl, rfl, rfl, by decide⟩
  refine goV0 (trV (As := [.int x3]) (rest := []) ⟨hx, hb, hml, hown, hts⟩ gd_good (c_By_append_fit l D cB cI cJ h a (n + 4 + 4) cap (app4 (app4 f n x1) (n + 4) x2) x3 (by omega) (by omega)) cal_By_append ml_CO_27 ⟨Nat.le_of_ble_eq_true rfl, Nat.le_of_ble_eq_true rfl⟩ hZ hP hD hC 1 (ci := 0) rfl rfl rfl rfl hl.1 rfl (Nat.le_of_ble_eq_true rfl) d_CO_feed_36 ⟨Nat.le_of_ble_eq_true rfl, Nat.le_of_ble_eq_true rfl⟩) hZ hP hD hS hC (fun w1 H locs hq hP hD hS => ?_)
  subst hq
  have hP : va_P D classes [(o, .inr (7, [.ref h, .ref mm])), (h, .inr (0, [.ref a, .int (nI (n + 4 + 4 + 4))])), (a, .inl (cB, cap, .inl (app4 (app4 (app4 f n x1) (n + 4) x2) (n + 4 + 4) x3)))] H := hP
  have hD : va_D A_ [(o, .inr (7, [.ref h, .ref mm])), (h, .inr (0, [.ref a, .int (nI (n + 4 + 4 + 4))])), (a, .inl (cB, cap, .inl (app4 (app4 (app4 f n x1) (n + 4) x2) (n + 4 + 4) x3)))] := hD
  refine lv_aload_n hx hb d_CO_feed_39 rfl (lv_at hl 0 rfl) ?_
  refine va_get (D := D) (ci := 7) (v := .ref h) (C := R_CO) (T := F_CO) (N := 2) hx hb hts i_CO hown hZ.1 hP 0 rfl rfl 0 (by decide) (hts _ fl_CO_10) (fun _ h9 => h9) rfl d_CO_feed_40 ?_
  refine lv_iload hx hb d_CO_feed_43 (lv_at hl 4 rfl) ?_
  have hC : Cut [(o, .inr (7, [.ref h, .ref mm])), (h, .inr (0, [.ref a, .int (nI (n + 4 + 4 + 4))])), (a, .inl (cB, cap, .inl (app4 (app4 (app4 f n x1) (n + 4) x2) (n + 4 + 4) x3)))] [(h, .inr (0, [.ref a, .int (nI (n + 4 + 4 + 4))])), (a, .inl (cB, cap, .inl (app4 (app4 (app4 f n x1) (n + 4) x2) (n + 4 + 4) x3)))] [(o, .inr (7, [.ref h, .ref mm]))] [1, 2] [0] := ⟨rfl, rfl, rfl, rfl, by decide⟩
  refine goV0 (trV (As := [.int x4]) (rest := []) ⟨hx, hb, hml, hown, hts⟩ gd_good (c_By_append_fit l D cB cI cJ h a (n + 4 + 4 + 4) cap (app4 (app4 (app4 f n x1) (n + 4) x2) (n + 4 + 4) x3) x4 (by omega) (by omega)) cal_By_append ml_CO_27 ⟨Nat.le_of_ble_eq_true rfl, Nat.le_of_ble_eq_true rfl⟩ hZ hP hD hC 1 (ci := 0) rfl rfl rfl rfl hl.1 rfl (Nat.le_of_ble_eq_true rfl) d_CO_feed_45 ⟨Nat.le_of_ble_eq_true rfl, Nat.le_of_ble_eq_true rfl⟩) hZ hP hD hS hC (fun w1 H locs hq hP hD hS => ?_)
  subst hq
  have hP : va_P D classes [(o, .inr (7, [.ref h, .ref mm])), (h, .inr (0, [.ref a, .int (nI (n + 4 + 4 + 4 + 4))])), (a, .inl (cB, cap, .inl (app4 (app4 (app4 (app4 f n x1) (n + 4) x2) (n + 4 + 4) x3) (n + 4 + 4 + 4) x4)))] H := hP
  have hD : va_D A_ [(o, .inr (7, [.ref h, .ref mm])), (h, .inr (0, [.ref a, .int (nI (n + 4 + 4 + 4 + 4))])), (a, .inl (cB, cap, .inl (app4 (app4 (app4 (app4 f n x1) (n + 4) x2) (n + 4 + 4) x3) (n + 4 + 4 + 4) x4)))] := hD
  refine lv_aload_n hx hb d_CO_feed_48 rfl (lv_at hl 0 rfl) ?_
  refine va_get (D := D) (ci := 7) (v := .ref h) (C := R_CO) (T := F_CO) (N := 2) hx hb hts i_CO hown hZ.1 hP 0 rfl rfl 0 (by decide) (hts _ fl_CO_10) (fun _ h9 => h9) rfl d_CO_feed_49 ?_
  refine lv_iload hx hb d_CO_feed_52 (lv_at hl 5 rfl) ?_
  have hC : Cut [(o, .inr (7, [.ref h, .ref mm])), (h, .inr (0, [.ref a, .int (nI (n + 4 + 4 + 4 + 4))])), (a, .inl (cB, cap, .inl (app4 (app4 (app4 (app4 f n x1) (n + 4) x2) (n + 4 + 4) x3) (n + 4 + 4 + 4) x4)))] [(h, .inr (0, [.ref a, .int (nI (n + 4 + 4 + 4 + 4))])), (a, .inl (cB, cap, .inl (app4 (app4 (app4 (app4 f n x1) (n + 4) x2) (n + 4 + 4) x3) (n + 4 + 4 + 4) x4)))] [(o, .inr (7, [.ref h, .ref mm]))] [1, 2] [0] := ⟨rfl, rfl, rfl, rfl, by decide⟩
  refine goV0 (trV (As := [.int x5]) (rest := []) ⟨hx, hb, hml, hown, hts⟩ gd_good (c_By_append_fit l D cB cI cJ h a (n + 4 + 4 + 4 + 4) cap (app4 (app4 (app4 (app4 f n x1) (n + 4) x2) (n + 4 + 4) x3) (n + 4 + 4 + 4) x4) x5 (by omega) (by omega)) cal_By_append ml_CO_27 ⟨Nat.le_of_ble_eq_true rfl, Nat.le_of_ble_eq_true rfl⟩ hZ hP hD hC 1 (ci := 0) rfl rfl rfl rfl hl.1 rfl (Nat.le_of_ble_eq_true rfl) d_CO_feed_54 ⟨Nat.le_of_ble_eq_true rfl, Nat.le_of_ble_eq_true rfl⟩) hZ hP hD hS hC (fun w1 H locs hq hP hD hS => ?_)
  subst hq
  have hP : va_P D classes [(o, .inr (7, [.ref h, .ref mm])), (h, .inr (0, [.ref a, .int (nI (n + 4 + 4 + 4 + 4 + 4))])), (a, .inl (cB, cap, .inl (app4 (app4 (app4 (app4 (app4 f n x1) (n + 4) x2) (n + 4 + 4) x3) (n + 4 + 4 + 4) x4) (n + 4 + 4 + 4 + 4) x5)))] H := hP
  have hD : va_D A_ [(o, .inr (7, [.ref h, .ref mm])), (h, .inr (0, [.ref a, .int (nI (n + 4 + 4 + 4 + 4 + 4))])), (a, .inl (cB, cap, .inl (app4 (app4 (app4 (app4 (app4 f n x1) (n + 4) x2) (n + 4 + 4) x3) (n + 4 + 4 + 4) x4) (n + 4 + 4 + 4 + 4) x5)))] := hD
  refine lv_aload_n hx hb d_CO_feed_57 rfl (lv_at hl 0 rfl) ?_
  refine va_get (D := D) (ci := 7) (v := .ref h) (C := R_CO) (T := F_CO) (N := 2) hx hb hts i_CO hown hZ.1 hP 0 rfl rfl 0 (by decide) (hts _ fl_CO_10) (fun _ h9 => h9) rfl d_CO_feed_58 ?_
  refine roV (As := []) (rest := []) ⟨hx, hb, hml, hown, hts⟩ gd_good (c_By_length l D cB cI cJ h a (n + 4 + 4 + 4 + 4 + 4) cap (app4 (app4 (app4 (app4 (app4 f n x1) (n + 4) x2) (n + 4 + 4) x3) (n + 4 + 4 + 4) x4) (n + 4 + 4 + 4 + 4) x5)) cal_By_length ml_CO_23 ⟨Nat.le_of_ble_eq_true rfl, Nat.le_of_ble_eq_true rfl⟩ hZ hP hD (isC := [1, 2]) ⟨rfl, rfl⟩ 1 (ci := 0) rfl rfl rfl rfl hl.1 rfl (Nat.le_of_ble_eq_true rfl) d_CO_feed_61 ⟨Nat.le_of_ble_eq_true rfl, Nat.le_of_ble_eq_true rfl⟩ (fun v hv => ?_)
  subst hv
  exact t_iret hx hb hr hlk d_CO_feed_64 (hP.subm (ws' := [(o, .inr (7, [.ref h, .ref mm])), (h, .inr (0, [.ref a, .int (nI (n + 4 + 4 + 4 + 4 + 4))])), (a, .inl (cB, cap, .inl (app4 (app4 (app4 (app4 (app4 f n x1) (n + 4) x2) (n + 4 + 4) x3) (n + 4 + 4 + 4) x4) (n + 4 + 4 + 4 + 4) x5)))]) [0, 1, 2] rfl) (hD.sub (ws' := [(o, .inr (7, [.ref h, .ref mm])), (h, .inr (0, [.ref a, .int (nI (n + 4 + 4 + 4 + 4 + 4))])), (a, .inl (cB, cap, .inl (app4 (app4 (app4 (app4 (app4 f n x1) (n + 4) x2) (n + 4 + 4) x3) (n + 4 + 4 + 4) x4) (n + 4 + 4 + 4 + 4) x5)))]) [0, 1, 2] rfl rfl) hS ⟨_, rfl, rfl, rfl, rfl, rfl⟩
set_option maxHeartbeats 1000000 in
set_option maxRecDepth 100000 in
theorem c_CO_put (l : Launch) (D : va_G) (cB cI cJ : ClassId) (hfl : l.flags = pinnedFlags ++ [noTraceFlag]) (ad : Nat → Nat) (o h mm a n cap : Nat) (f : Nat → Int32) (i b : Int32) (hn : n ≤ cap ∧ cap ≤ 16384) : TrX l D classes (TY cB cI cJ) gd_tbl nx_tbl str_tbl ad y_CO_put b_CO_put 3 (some .int) ({ frames := 6, cells := 1, slots := 6, locals := 82 }) [.ref o, .int i, .int b] [(o, .inr (7, [.ref h, .ref mm])), (h, .inr (0, [.ref a, .int (nI n)])), (a, .inl (cB, cap, .inl f))] (pI0 (fun r w => ∃ j : Nat, i = nI j ∧ j < n ∧ okI n i ∧ okB b ∧ r = atB n f i ∧ w = [(o, .inr (7, [.ref h, .ref mm])), (h, .inr (0, [.ref a, .int (nI n)])), (a, .inl (cB, cap, .inl (upd f j (vp_nar .byte b.toInt8.toInt32))))])) (fun X => (X = "java/lang/IndexOutOfBoundsException" ∧ ¬ okI n i) ∨ (X = "java/lang/IllegalArgumentException" ∧ okI n i ∧ ¬ okB b)) := by
  refine TrX.intro (by decide +kernel) nx_ok (Nat.le_of_ble_eq_true rfl) ?_
  intro p_ e_ s_ m_ args_ below_ meth_ c_ A_ ls hx hb hml hown hts hr hlk hnm hZ hP hD hS hl hXU hno
  have hl : lv_has ls 3 [(0, .ref o), (1, .int i), (2, .int b)] := hl
  refine lv_iload_n hx hb d_CO_put_0 rfl (lv_at hl 1 rfl) ?_
  refine lv_if_lt (tgt := 15) hx hb d_CO_put_1 (by decide) (fun c_1 => ?_) (fun c_1 => ?_)
  · exact x_throw hfl hx hb (by rw [hml]; exact hl.1.symm) hlk hown (by decide +kernel) (by decide +kernel) (xat_IO hts hZ.2.1 hXU ml_CO_35) (hts _ cl_CO_31) (hts _ xin_IO) (hXU.2.2.1 _ (List.mem_of_getElem? (i := 0) rfl)) hno (Nat.le_of_ble_eq_true rfl) (Nat.le_of_ble_eq_true rfl) (Nat.le_of_ble_eq_true rfl) (Nat.le_of_ble_eq_true rfl) (Or.inl ⟨rfl, fun z => by exact z.1 c_1⟩) d_CO_put_15 d_CO_put_18 d_CO_put_19 d_CO_put_21 d_CO_put_24
  · refine lv_iload_n hx hb d_CO_put_4 rfl (lv_at hl 1 rfl) ?_
    refine lv_aload_n hx hb d_CO_put_5 rfl (lv_at hl 0 rfl) ?_
    refine va_get (D := D) (ci := 7) (v := .ref h) (C := R_CO) (T := F_CO) (N := 2) hx hb hts i_CO hown hZ.1 hP 0 rfl rfl 0 (by decide) (hts _ fl_CO_10) (fun _ h9 => h9) rfl d_CO_put_6 ?_
    refine roV (As := []) (rest := [.int i]) ⟨hx, hb, hml, hown, hts⟩ gd_good (c_By_length l D cB cI cJ h a n cap f) cal_By_length ml_CO_23 ⟨Nat.le_of_ble_eq_true rfl, Nat.le_of_ble_eq_true rfl⟩ hZ hP hD (isC := [1, 2]) ⟨rfl, rfl⟩ 1 (ci := 0) rfl rfl rfl rfl hl.1 rfl (Nat.le_of_ble_eq_true rfl) d_CO_put_9 ⟨Nat.le_of_ble_eq_true rfl, Nat.le_of_ble_eq_true rfl⟩ (fun v hv => ?_)
    subst hv
    refine lv_icmp_lt (tgt := 25) hx hb d_CO_put_12 (by decide) (fun c_12 => ?_) (fun c_12 => ?_)
    · refine lv_iload_n hx hb d_CO_put_25 rfl (lv_at hl 2 rfl) ?_
      refine lv_if_lt (tgt := 36) hx hb d_CO_put_26 (by decide) (fun c_26 => ?_) (fun c_26 => ?_)
      · exact x_throw hfl hx hb (by rw [hml]; exact hl.1.symm) hlk hown (by decide +kernel) (by decide +kernel) (xat_IA hts hZ.2.1 hXU ml_CO_42) (hts _ cl_CO_38) (hts _ xin_IA) (hXU.2.2.1 _ (List.mem_of_getElem? (i := 1) rfl)) hno (Nat.le_of_ble_eq_true rfl) (Nat.le_of_ble_eq_true rfl) (Nat.le_of_ble_eq_true rfl) (Nat.le_of_ble_eq_true rfl) (Or.inr ⟨rfl, ⟨c_1, c_12⟩, fun z => by exact z.1 c_26⟩) d_CO_put_36 d_CO_put_39 d_CO_put_40 d_CO_put_42 d_CO_put_45
      · refine lv_iload_n hx hb d_CO_put_29 rfl (lv_at hl 2 rfl) ?_
        refine lv_sipush (v := 255) hx hb d_CO_put_30 (by decide) ?_
        refine lv_icmp_le (tgt := 46) hx hb d_CO_put_33 (by decide) (fun c_33 => ?_) (fun c_33 => ?_)
        · obtain ⟨j, hj, ej⟩ := in_ok c_1 c_12 (by omega)
          subst ej
          refine lv_aload_n hx hb d_CO_put_46 rfl (lv_at hl 0 rfl) ?_
          refine va_get (D := D) (ci := 7) (v := .ref h) (C := R_CO) (T := F_CO) (N := 2) hx hb hts i_CO hown hZ.1 hP 0 rfl rfl 0 (by decide) (hts _ fl_CO_10) (fun _ h9 => h9) rfl d_CO_put_47 ?_
          refine lv_iload_n hx hb d_CO_put_50 rfl (lv_at hl 1 rfl) ?_
          refine lv_iload_n hx hb d_CO_put_51 rfl (lv_at hl 2 rfl) ?_
          have hC : Cut [(o, .inr (7, [.ref h, .ref mm])), (h, .inr (0, [.ref a, .int (nI n)])), (a, .inl (cB, cap, .inl f))] [(h, .inr (0, [.ref a, .int (nI n)])), (a, .inl (cB, cap, .inl f))] [(o, .inr (7, [.ref h, .ref mm]))] [1, 2] [0] := ⟨rfl, rfl, rfl, rfl, by decide⟩
          refine goI0 (trV (As := [.int (nI j), .int b]) (rest := []) ⟨hx, hb, hml, hown, hts⟩ gd_good (c_By_replace l D cB cI cJ h a n cap f j b hj hn) cal_By_replace ml_CO_43 ⟨Nat.le_of_ble_eq_true rfl, Nat.le_of_ble_eq_true rfl⟩ hZ hP hD hC 1 (ci := 0) rfl rfl rfl rfl hl.1 rfl (Nat.le_of_ble_eq_true rfl) d_CO_put_52 ⟨Nat.le_of_ble_eq_true rfl, Nat.le_of_ble_eq_true rfl⟩) hZ hP hD hS hC (fun r_52 w1 H locs hq hP hD hS => ?_)
          obtain ⟨rfl, rfl⟩ := hq
          have hP : va_P D classes [(o, .inr (7, [.ref h, .ref mm])), (h, .inr (0, [.ref a, .int (nI n)])), (a, .inl (cB, cap, .inl (upd f j (vp_nar .byte b.toInt8.toInt32))))] H := hP
          have hD : va_D A_ [(o, .inr (7, [.ref h, .ref mm])), (h, .inr (0, [.ref a, .int (nI n)])), (a, .inl (cB, cap, .inl (upd f j (vp_nar .byte b.toInt8.toInt32))))] := hD
          exact x_ret (t_iret hx hb hr hlk d_CO_put_55 (hP.subm (ws' := [(o, .inr (7, [.ref h, .ref mm])), (h, .inr (0, [.ref a, .int (nI n)])), (a, .inl (cB, cap, .inl (upd f j (vp_nar .byte b.toInt8.toInt32))))]) [0, 1, 2] rfl) (hD.sub (ws' := [(o, .inr (7, [.ref h, .ref mm])), (h, .inr (0, [.ref a, .int (nI n)])), (a, .inl (cB, cap, .inl (upd f j (vp_nar .byte b.toInt8.toInt32))))]) [0, 1, 2] rfl rfl) hS ⟨_, rfl, rfl, rfl, j, rfl, hj, ⟨c_1, c_12⟩, ⟨c_26, c_33⟩, rfl, rfl⟩)
        · exact x_throw hfl hx hb (by rw [hml]; exact hl.1.symm) hlk hown (by decide +kernel) (by decide +kernel) (xat_IA hts hZ.2.1 hXU ml_CO_42) (hts _ cl_CO_38) (hts _ xin_IA) (hXU.2.2.1 _ (List.mem_of_getElem? (i := 1) rfl)) hno (Nat.le_of_ble_eq_true rfl) (Nat.le_of_ble_eq_true rfl) (Nat.le_of_ble_eq_true rfl) (Nat.le_of_ble_eq_true rfl) (Or.inr ⟨rfl, ⟨c_1, c_12⟩, fun z => by exact c_33 z.2⟩) d_CO_put_36 d_CO_put_39 d_CO_put_40 d_CO_put_42 d_CO_put_45
    · exact x_throw hfl hx hb (by rw [hml]; exact hl.1.symm) hlk hown (by decide +kernel) (by decide +kernel) (xat_IO hts hZ.2.1 hXU ml_CO_35) (hts _ cl_CO_31) (hts _ xin_IO) (hXU.2.2.1 _ (List.mem_of_getElem? (i := 0) rfl)) hno (Nat.le_of_ble_eq_true rfl) (Nat.le_of_ble_eq_true rfl) (Nat.le_of_ble_eq_true rfl) (Nat.le_of_ble_eq_true rfl) (Or.inl ⟨rfl, fun z => by exact c_12 z.2⟩) d_CO_put_15 d_CO_put_18 d_CO_put_19 d_CO_put_21 d_CO_put_24
set_option maxHeartbeats 1000000 in
set_option maxRecDepth 100000 in
theorem c_CO_cut (l : Launch) (D : va_G) (cB cI cJ : ClassId) (hfl : l.flags = pinnedFlags ++ [noTraceFlag]) (ad : Nat → Nat) (o h mm a n cap : Nat) (f : Nat → Int32) (y : Int32) (hn : n ≤ cap ∧ cap ≤ 16384) : TrX l D classes (TY cB cI cJ) gd_tbl nx_tbl str_tbl ad y_CO_cut b_CO_cut 2 (some .int) ({ frames := 6, cells := 1, slots := 6, locals := 82 }) [.ref o, .int y] [(o, .inr (7, [.ref h, .ref mm])), (h, .inr (0, [.ref a, .int (nI n)])), (a, .inl (cB, cap, .inl f))] (pI0 (fun r w => ∃ j n' : Nat, y = nI j ∧ j < 2 ^ 31 ∧ n' = min j n ∧ r = nI (n - n') ∧ w = [(o, .inr (7, [.ref h, .ref mm])), (h, .inr (0, [.ref a, .int (nI n')])), (a, .inl (cB, cap, .inl f))])) (fun X => X = "java/lang/IllegalArgumentException" ∧ y < 0) := by
  refine TrX.intro (by decide +kernel) nx_ok (Nat.le_of_ble_eq_true rfl) ?_
  intro p_ e_ s_ m_ args_ below_ meth_ c_ A_ ls hx hb hml hown hts hr hlk hnm hZ hP hD hS hl hXU hno
  have hl : lv_has ls 2 [(0, .ref o), (1, .int y)] := hl
  refine lv_iload_n hx hb d_CO_cut_0 rfl (lv_at hl 1 rfl) ?_
  refine lv_if_ge (tgt := 14) hx hb d_CO_cut_1 (by decide) (fun c_1 => ?_) (fun c_1 => ?_)
  · obtain ⟨j, hj, ej⟩ := nI_of (Int32.not_lt.mpr c_1)
    subst ej
    refine lv_aload_n hx hb d_CO_cut_14 rfl (lv_at hl 0 rfl) ?_
    refine va_get (D := D) (ci := 7) (v := .ref h) (C := R_CO) (T := F_CO) (N := 2) hx hb hts i_CO hown hZ.1 hP 0 rfl rfl 0 (by decide) (hts _ fl_CO_10) (fun _ h9 => h9) rfl d_CO_cut_15 ?_
    refine lv_iload_n hx hb d_CO_cut_18 rfl (lv_at hl 1 rfl) ?_
    have hC : Cut [(o, .inr (7, [.ref h, .ref mm])), (h, .inr (0, [.ref a, .int (nI n)])), (a, .inl (cB, cap, .inl f))] [(h, .inr (0, [.ref a, .int (nI n)])), (a, .inl (cB, cap, .inl f))] [(o, .inr (7, [.ref h, .ref mm]))] [1, 2] [0] := ⟨rfl, rfl, rfl, rfl, by decide⟩
    refine goI0 (trV (As := [.int (nI j)]) (rest := []) ⟨hx, hb, hml, hown, hts⟩ gd_good (c_By_shorten l D cB cI cJ h a n cap f j hj hn) cal_By_shorten ml_CO_49 ⟨Nat.le_of_ble_eq_true rfl, Nat.le_of_ble_eq_true rfl⟩ hZ hP hD hC 1 (ci := 0) rfl rfl rfl rfl hl.1 rfl (Nat.le_of_ble_eq_true rfl) d_CO_cut_19 ⟨Nat.le_of_ble_eq_true rfl, Nat.le_of_ble_eq_true rfl⟩) hZ hP hD hS hC (fun r_19 w1 H locs hq hP hD hS => ?_)
    obtain ⟨n_19, hn_19, rfl, rfl⟩ := hq
    have hP : va_P D classes [(o, .inr (7, [.ref h, .ref mm])), (h, .inr (0, [.ref a, .int (nI n_19)])), (a, .inl (cB, cap, .inl f))] H := hP
    have hD : va_D A_ [(o, .inr (7, [.ref h, .ref mm])), (h, .inr (0, [.ref a, .int (nI n_19)])), (a, .inl (cB, cap, .inl f))] := hD
    exact x_ret (t_iret hx hb hr hlk d_CO_cut_22 (hP.subm (ws' := [(o, .inr (7, [.ref h, .ref mm])), (h, .inr (0, [.ref a, .int (nI n_19)])), (a, .inl (cB, cap, .inl f))]) [0, 1, 2] rfl) (hD.sub (ws' := [(o, .inr (7, [.ref h, .ref mm])), (h, .inr (0, [.ref a, .int (nI n_19)])), (a, .inl (cB, cap, .inl f))]) [0, 1, 2] rfl rfl) hS ⟨_, rfl, rfl, rfl, j, _, rfl, hj, hn_19, rfl, rfl⟩)
  · exact x_throw hfl hx hb (by rw [hml]; exact hl.1.symm) hlk hown (by decide +kernel) (by decide +kernel) (xat_IA hts hZ.2.1 hXU ml_CO_42) (hts _ cl_CO_38) (hts _ xin_IA) (hXU.2.2.1 _ (List.mem_of_getElem? (i := 2) rfl)) hno (Nat.le_of_ble_eq_true rfl) (Nat.le_of_ble_eq_true rfl) (Nat.le_of_ble_eq_true rfl) (Nat.le_of_ble_eq_true rfl) ⟨rfl, Int32.not_le.mp c_1⟩ d_CO_cut_4 d_CO_cut_7 d_CO_cut_8 d_CO_cut_10 d_CO_cut_13
set_option maxHeartbeats 1000000 in
set_option maxRecDepth 100000 in
theorem c_St_shelf (l : Launch) (D : va_G) (cB cI cJ : ClassId) (h p g q ki pl en : Nat) (d1 d2 k : Int32) : Ro l D classes (TY cB cI cJ) gd_tbl nx_tbl y_St_shelf b_St_shelf 2 (some (.object "CharOutlines$Shelf")) ({ frames := 0, cells := 0, slots := 0, locals := 0 }) [.ref h, .int k] [(h, .inr (2, [.ref p, .ref g, .ref q, .ref ki, .ref pl, .ref en, .int d1, .int d2]))] (fun v => v = .ref (selK k p g q)) := by
  refine Ro.intro (by decide +kernel) nx_ok (Nat.le_of_ble_eq_true rfl) ?_
  intro p_ e_ s_ m_ args_ below_ meth_ c_ A_ ls hx hb hml hown hts hr hlk hnm hZ hP hD hl
  have hl : lv_has ls 2 [(0, .ref h), (1, .int k)] := hl
  refine lv_iload_n hx hb d_St_shelf_0 rfl (lv_at hl 1 rfl) ?_
  by_cases h_1_1 : k = 1
  · refine lv_lookup (tgt := 28) (off := 27) hx hb d_St_shelf_1 (by decide) (by first | (rw [h_1_1]; done) | (rw [h_1_1]; rfl)) (by decide) ?_
    refine lv_aload_n hx hb d_St_shelf_28 rfl (lv_at hl 0 rfl) ?_
    refine va_get (D := D) (ci := 2) (v := .ref g) (C := R_St) (T := F_St) (N := 8) hx hb hts i_St hown hZ.1 hP 0 rfl rfl 1 (by decide) (hts _ fl_St_18) (fun _ h9 => h9) rfl d_St_shelf_29 ?_
    exact r_aret hx hb hr (Or.inl ⟨_, rfl⟩) hlk d_St_shelf_32 (by simp [selK, h_1_1])
  by_cases h_1_2 : k = 2
  · refine lv_lookup (tgt := 33) (off := 32) hx hb d_St_shelf_1 (by decide) (by first | (rw [h_1_2]; done) | (rw [h_1_2]; rfl)) (by decide) ?_
    refine lv_aload_n hx hb d_St_shelf_33 rfl (lv_at hl 0 rfl) ?_
    refine va_get (D := D) (ci := 2) (v := .ref q) (C := R_St) (T := F_St) (N := 8) hx hb hts i_St hown hZ.1 hP 0 rfl rfl 2 (by decide) (hts _ fl_St_21) (fun _ h9 => h9) rfl d_St_shelf_34 ?_
    exact r_aret hx hb hr (Or.inl ⟨_, rfl⟩) hlk d_St_shelf_37 (by simp [selK, h_1_2])
  refine lv_lookup (tgt := 38) (off := 37) hx hb d_St_shelf_1 (by decide) (by show Op.lookupswitch.offset _ _ _ = _; first | (rw [lv_osw h_1_1 (by decide), lv_osw h_1_2 (by decide)]; done) | (rw [lv_osw h_1_1 (by decide), lv_osw h_1_2 (by decide)]; rfl)) (by decide) ?_
  refine lv_aload_n hx hb d_St_shelf_38 rfl (lv_at hl 0 rfl) ?_
  refine va_get (D := D) (ci := 2) (v := .ref p) (C := R_St) (T := F_St) (N := 8) hx hb hts i_St hown hZ.1 hP 0 rfl rfl 0 (by decide) (hts _ fl_St_12) (fun _ h9 => h9) rfl d_St_shelf_39 ?_
  exact r_aret hx hb hr (Or.inl ⟨_, rfl⟩) hlk d_St_shelf_42 (by simp [selK, h_1_1, h_1_2])
set_option maxHeartbeats 1000000 in
set_option maxRecDepth 100000 in
theorem c_Ma_shelf (l : Launch) (D : va_G) (cB cI cJ : ClassId) (m mstr mval mrec mout : Nat) (z_run z_steps z_hints z_pas z_told z_wid z_mov : Int32) (p g q ki pl en : Nat) (d1 d2 k : Int32) : Ro l D classes (TY cB cI cJ) gd_tbl nx_tbl y_Ma_shelf b_Ma_shelf 2 (some (.object "CharOutlines$Shelf")) ({ frames := 1, cells := 0, slots := 0, locals := 21 }) [.ref m, .int k] [(m, .inr (6, [.ref mstr, .ref mval, .ref mrec, .ref mout, .int z_run, .int z_steps, .int z_hints, .int z_pas, .int z_told, .int z_wid, .int z_mov])), (mstr, .inr (2, [.ref p, .ref g, .ref q, .ref ki, .ref pl, .ref en, .int d1, .int d2]))] (fun v => v = .ref (selK k p g q)) := by
  refine Ro.intro (by decide +kernel) nx_ok (Nat.le_of_ble_eq_true rfl) ?_
  intro p_ e_ s_ m_ args_ below_ meth_ c_ A_ ls hx hb hml hown hts hr hlk hnm hZ hP hD hl
  have hl : lv_has ls 2 [(0, .ref m), (1, .int k)] := hl
  refine lv_aload_n hx hb d_Ma_shelf_0 rfl (lv_at hl 0 rfl) ?_
  refine va_get (D := D) (ci := 6) (v := .ref mstr) (C := R_Ma) (T := F_Ma) (N := 11) hx hb hts i_Ma hown hZ.1 hP 0 rfl rfl 0 (by decide) (hts _ fl_Ma_12) (fun _ h9 => h9) rfl d_Ma_shelf_1 ?_
  refine lv_iload_n hx hb d_Ma_shelf_4 rfl (lv_at hl 1 rfl) ?_
  refine roV (As := [.int k]) (rest := []) ⟨hx, hb, hml, hown, hts⟩ gd_good (c_St_shelf l D cB cI cJ mstr p g q ki pl en d1 d2 k) cal_St_shelf ml_Ma_39 ⟨Nat.le_of_ble_eq_true rfl, Nat.le_of_ble_eq_true rfl⟩ hZ hP hD (isC := [1]) ⟨rfl, rfl⟩ 1 (ci := 2) rfl rfl rfl rfl hl.1 rfl (Nat.le_of_ble_eq_true rfl) d_Ma_shelf_5 ⟨Nat.le_of_ble_eq_true rfl, Nat.le_of_ble_eq_true rfl⟩ (fun v hv => ?_)
  subst hv
  exact r_aret hx hb hr (Or.inl ⟨_, rfl⟩) hlk d_Ma_shelf_8 rfl
set_option maxHeartbeats 1000000 in
set_option maxRecDepth 100000 in
theorem c_Ma_outline (l : Launch) (D : va_G) (cB cI cJ : ClassId) (m mstr mval mrec mout : Nat) (z_run z_steps z_hints z_pas z_told z_wid z_mov : Int32) : Ro l D classes (TY cB cI cJ) gd_tbl nx_tbl y_Ma_outline b_Ma_outline 1 (some (.object "CharOutlines$Outline")) ({ frames := 0, cells := 0, slots := 0, locals := 0 }) [.ref m] [(m, .inr (6, [.ref mstr, .ref mval, .ref mrec, .ref mout, .int z_run, .int z_steps, .int z_hints, .int z_pas, .int z_told, .int z_wid, .int z_mov]))] (fun v => v = .ref mout) := by
  refine Ro.intro (by decide +kernel) nx_ok (Nat.le_of_ble_eq_true rfl) ?_
  intro p_ e_ s_ m_ args_ below_ meth_ c_ A_ ls hx hb hml hown hts hr hlk hnm hZ hP hD hl
  have hl : lv_has ls 1 [(0, .ref m)] := hl
  refine lv_aload_n hx hb d_Ma_outline_0 rfl (lv_at hl 0 rfl) ?_
  refine va_get (D := D) (ci := 6) (v := .ref mout) (C := R_Ma) (T := F_Ma) (N := 11) hx hb hts i_Ma hown hZ.1 hP 0 rfl rfl 3 (by decide) (hts _ fl_Ma_35) (fun _ h9 => h9) rfl d_Ma_outline_1 ?_
  exact r_aret hx hb hr (Or.inl ⟨_, rfl⟩) hlk d_Ma_outline_4 rfl
set_option maxHeartbeats 1000000 in
set_option maxRecDepth 100000 in
theorem c_Sh_strings (l : Launch) (D : va_G) (cB cI cJ : ClassId) (h hb n : Nat) : Ro l D classes (TY cB cI cJ) gd_tbl nx_tbl y_Sh_strings b_Sh_strings 1 (some .int) ({ frames := 0, cells := 0, slots := 0, locals := 0 }) [.ref h] [(h, .inr (1, [.ref hb, .int (nI n)]))] (fun v => v = .int (nI n)) := by
  refine Ro.intro (by decide +kernel) nx_ok (Nat.le_of_ble_eq_true rfl) ?_
  intro p_ e_ s_ m_ args_ below_ meth_ c_ A_ ls hx hb hml hown hts hr hlk hnm hZ hP hD hl
  have hl : lv_has ls 1 [(0, .ref h)] := hl
  refine lv_aload_n hx hb d_Sh_strings_0 rfl (lv_at hl 0 rfl) ?_
  refine va_get (D := D) (ci := 1) (v := .int (nI n)) (C := R_Sh) (T := F_Sh) (N := 2) hx hb hts i_Sh hown hZ.1 hP 0 rfl rfl 1 (by decide) (hts _ fl_Sh_18) (fun _ h9 => h9) rfl d_Sh_strings_1 ?_
  exact r_iret hx hb hr hlk d_Sh_strings_4 rfl
set_option maxHeartbeats 1000000 in
set_option maxRecDepth 100000 in
theorem c_Sh_has (l : Launch) (D : va_G) (cB cI cJ : ClassId) (h hb n : Nat) (k : Int32) : Ro l D classes (TY cB cI cJ) gd_tbl nx_tbl y_Sh_has b_Sh_has 2 (some .boolean) ({ frames := 0, cells := 0, slots := 0, locals := 0 }) [.ref h, .int k] [(h, .inr (1, [.ref hb, .int (nI n)]))] (fun v => v = .int (hasS n k)) := by
  refine Ro.intro (by decide +kernel) nx_ok (Nat.le_of_ble_eq_true rfl) ?_
  intro p_ e_ s_ m_ args_ below_ meth_ c_ A_ ls hx hb hml hown hts hr hlk hnm hZ hP hD hl
  have hl : lv_has ls 2 [(0, .ref h), (1, .int k)] := hl
  refine lv_iload_n hx hb d_Sh_has_0 rfl (lv_at hl 1 rfl) ?_
  refine lv_if_lt (tgt := 16) hx hb d_Sh_has_1 (by decide) (fun c_1 => ?_) (fun c_1 => ?_)
  · refine lv_iconst (v := 0) hx hb d_Sh_has_16 (by decide) ?_
    exact r_zret hx hb hr hlk (by decide) d_Sh_has_17 (by simp [hasS, c_1])
  · refine lv_iload_n hx hb d_Sh_has_4 rfl (lv_at hl 1 rfl) ?_
    refine lv_aload_n hx hb d_Sh_has_5 rfl (lv_at hl 0 rfl) ?_
    refine va_get (D := D) (ci := 1) (v := .int (nI n)) (C := R_Sh) (T := F_Sh) (N := 2) hx hb hts i_Sh hown hZ.1 hP 0 rfl rfl 1 (by decide) (hts _ fl_Sh_18) (fun _ h9 => h9) rfl d_Sh_has_6 ?_
    refine lv_icmp_ge (tgt := 16) hx hb d_Sh_has_9 (by decide) (fun c_9 => ?_) (fun c_9 => ?_)
    · refine lv_iconst (v := 0) hx hb d_Sh_has_16 (by decide) ?_
      exact r_zret hx hb hr hlk (by decide) d_Sh_has_17 (by simp [hasS, c_1, c_9])
    · refine lv_iconst (v := 1) hx hb d_Sh_has_12 (by decide) ?_
      refine lv_goto (tgt := 17) hx hb d_Sh_has_13 (by decide) ?_
      exact r_zret hx hb hr hlk (by decide) d_Sh_has_17 (by simp [hasS, c_1, c_9])
set_option maxHeartbeats 1000000 in
set_option maxRecDepth 100000 in
theorem c_Sh_stringsIn_short (l : Launch) (D : va_G) (cB cI cJ : ClassId) (h a n cap : Nat) (f : Nat → Int32) (hn : n < 2) : Ro l D classes (TY cB cI cJ) gd_tbl nx_tbl y_Sh_stringsIn b_Sh_stringsIn 2 (some .int) ({ frames := 1, cells := 0, slots := 0, locals := 20 }) [.ref h] [(h, .inr (0, [.ref a, .int (nI n)])), (a, .inl (cB, cap, .inl f))] (fun v => v = .int (-2)) := by
  refine Ro.intro (by decide +kernel) nx_ok (Nat.le_of_ble_eq_true rfl) ?_
  intro p_ e_ s_ m_ args_ below_ meth_ c_ A_ ls hx hb hml hown hts hr hlk hnm hZ hP hD hl
  have hl : lv_has ls 2 [(0, .ref h)] := hl
  refine lv_aload_n hx hb d_Sh_stringsIn_0 rfl (lv_at hl 0 rfl) ?_
  refine roV (As := []) (rest := []) ⟨hx, hb, hml, hown, hts⟩ gd_good (c_By_length l D cB cI cJ h a n cap f) cal_By_length ml_Sh_38 ⟨Nat.le_of_ble_eq_true rfl, Nat.le_of_ble_eq_true rfl⟩ hZ hP hD (isC := [0, 1]) ⟨rfl, rfl⟩ 0 (ci := 0) rfl rfl rfl rfl hl.1 rfl (Nat.le_of_ble_eq_true rfl) d_Sh_stringsIn_1 ⟨Nat.le_of_ble_eq_true rfl, Nat.le_of_ble_eq_true rfl⟩ (fun v hv => ?_)
  subst hv
  refine lv_iconst (v := 2) hx hb d_Sh_stringsIn_4 (by decide) ?_
  refine lv_icmp_ge (tgt := 11) hx hb d_Sh_stringsIn_5 (by decide) (fun c_5 => absurd c_5 (nI_ge (b := 2) hn (by omega))) (fun c_5 => ?_)
  refine lv_bipush (v := (-2)) hx hb d_Sh_stringsIn_8 (by decide) ?_
  exact r_iret hx hb hr hlk d_Sh_stringsIn_10 rfl
set_option maxHeartbeats 1000000 in
set_option maxRecDepth 100000 in
theorem c_Sh_fill_short (l : Launch) (D : va_G) (cB cI cJ : ClassId) (e0 eb : Nat) (en : Int32) (h a n cap : Nat) (f : Nat → Int32) (hn : n < 2) : Ro l D classes (TY cB cI cJ) gd_tbl nx_tbl y_Sh_fill b_Sh_fill 3 (some .int) ({ frames := 2, cells := 0, slots := 0, locals := 41 }) [.ref e0, .ref h] [(e0, .inr (1, [.ref eb, .int en])), (h, .inr (0, [.ref a, .int (nI n)])), (a, .inl (cB, cap, .inl f))] (fun v => v = .int (-2)) := by
  refine Ro.intro (by decide +kernel) nx_ok (Nat.le_of_ble_eq_true rfl) ?_
  intro p_ e_ s_ m_ args_ below_ meth_ c_ A_ ls hx hb hml hown hts hr hlk hnm hZ hP hD hl
  have hl : lv_has ls 3 [(0, .ref e0), (1, .ref h)] := hl
  refine lv_aload_n hx hb d_Sh_fill_0 rfl (lv_at hl 1 rfl) ?_
  refine roS (As := [.ref h]) (rest := []) ⟨hx, hb, hml, hown, hts⟩ gd_good (c_Sh_stringsIn_short l D cB cI cJ h a n cap f (by omega)) cal_Sh_stringsIn ml_Sh_26 ⟨Nat.le_of_ble_eq_true rfl, Nat.le_of_ble_eq_true rfl⟩ hZ hP hD (isC := [1, 2]) ⟨rfl, rfl⟩ rfl hl.1 rfl (Nat.le_of_ble_eq_true rfl) d_Sh_fill_1 ⟨Nat.le_of_ble_eq_true rfl, Nat.le_of_ble_eq_true rfl⟩ (fun v hv => ?_)
  subst hv
  refine lv_istore_n (lv' := [(2, .int (-2)), (0, .ref e0), (1, .ref h)]) hx hb d_Sh_fill_4 rfl hl (by decide) rfl (fun ls hl => ?_)
  refine lv_iload_n hx hb d_Sh_fill_5 rfl (lv_at hl 0 rfl) ?_
  refine lv_bipush (v := (-2)) hx hb d_Sh_fill_6 (by decide) ?_
  refine lv_icmp_eq (tgt := 24) hx hb d_Sh_fill_8 (by decide) (fun c_8 => ?_) (fun c_8 => absurd (by decide) c_8)
  clear c_8
  refine lv_iload_n hx hb d_Sh_fill_24 rfl (lv_at hl 0 rfl) ?_
  exact r_iret hx hb hr hlk d_Sh_fill_25 rfl
set_option maxHeartbeats 1000000 in
set_option maxRecDepth 100000 in
theorem c_CO_take_short (l : Launch) (D : va_G) (cB cI cJ : ClassId) (hfl : l.flags = pinnedFlags ++ [noTraceFlag]) (ad : Nat → Nat) (o h a n cap : Nat) (f : Nat → Int32) (m mstr mval mrec mout : Nat) (z_run z_steps z_hints z_pas z_told z_wid z_mov : Int32) (p g q ki pl en pb gb qb n0 n1 n2 : Nat) (d1 d2 k : Int32) (hn : n < 2) : TrX l D classes (TY cB cI cJ) gd_tbl nx_tbl str_tbl ad y_CO_take b_CO_take 2 (some .int) ({ frames := 6, cells := 1, slots := 6, locals := 82 }) [.ref o, .int k] [(o, .inr (7, [.ref h, .ref m])), (h, .inr (0, [.ref a, .int (nI n)])), (a, .inl (cB, cap, .inl f)), (m, .inr (6, [.ref mstr, .ref mval, .ref mrec, .ref mout, .int z_run, .int z_steps, .int z_hints, .int z_pas, .int z_told, .int z_wid, .int z_mov])), (mstr, .inr (2, [.ref p, .ref g, .ref q, .ref ki, .ref pl, .ref en, .int d1, .int d2])), (p, .inr (1, [.ref pb, .int (nI n0)])), (g, .inr (1, [.ref gb, .int (nI n1)])), (q, .inr (1, [.ref qb, .int (nI n2)]))] (pI0 (fun r w => ¬ isK k = 0 ∧ r = -2 ∧ w = [(o, .inr (7, [.ref h, .ref m])), (h, .inr (0, [.ref a, .int (nI n)])), (a, .inl (cB, cap, .inl f)), (m, .inr (6, [.ref mstr, .ref mval, .ref mrec, .ref mout, .int z_run, .int z_steps, .int z_hints, .int z_pas, .int z_told, .int z_wid, .int z_mov])), (mstr, .inr (2, [.ref p, .ref g, .ref q, .ref ki, .ref pl, .ref en, .int d1, .int d2])), (p, .inr (1, [.ref pb, .int (nI n0)])), (g, .inr (1, [.ref gb, .int (nI n1)])), (q, .inr (1, [.ref qb, .int (nI n2)]))])) (fun X => X = "java/lang/IllegalArgumentException" ∧ isK k = 0) := by
  refine TrX.intro (by decide +kernel) nx_ok (Nat.le_of_ble_eq_true rfl) ?_
  intro p_ e_ s_ m_ args_ below_ meth_ c_ A_ ls hx hb hml hown hts hr hlk hnm hZ hP hD hS hl hXU hno
  have hl : lv_has ls 2 [(0, .ref o), (1, .int k)] := hl
  refine lv_iload_n hx hb d_CO_take_0 rfl (lv_at hl 1 rfl) ?_
  refine roS (As := [.int k]) (rest := []) ⟨hx, hb, hml, hown, hts⟩ gd_good (c_CO_isKind l D cB cI cJ k) cal_CO_isKind ml_CO_53 ⟨Nat.le_of_ble_eq_true rfl, Nat.le_of_ble_eq_true rfl⟩ hZ hP hD (isC := []) ⟨rfl, rfl⟩ rfl hl.1 rfl (Nat.le_of_ble_eq_true rfl) d_CO_take_1 ⟨Nat.le_of_ble_eq_true rfl, Nat.le_of_ble_eq_true rfl⟩ (fun v hv => ?_)
  subst hv
  refine lv_if_ne (tgt := 17) hx hb d_CO_take_4 (by decide) (fun c_4 => ?_) (fun c_4 => ?_)
  · by_cases hk1 : k = 1
    · subst hk1
      refine lv_aload_n hx hb d_CO_take_17 rfl (lv_at hl 0 rfl) ?_
      refine va_get (D := D) (ci := 7) (v := .ref m) (C := R_CO) (T := F_CO) (N := 2) hx hb hts i_CO hown hZ.1 hP 0 rfl rfl 1 (by decide) (hts _ fl_CO_19) (fun _ h9 => h9) rfl d_CO_take_18 ?_
      refine lv_iload_n hx hb d_CO_take_21 rfl (lv_at hl 1 rfl) ?_
      refine roV (As := [.int 1]) (rest := []) ⟨hx, hb, hml, hown, hts⟩ gd_good (c_Ma_shelf l D cB cI cJ m mstr mval mrec mout z_run z_steps z_hints z_pas z_told z_wid z_mov p g q ki pl en d1 d2 1) cal_Ma_shelf ml_CO_59 ⟨Nat.le_of_ble_eq_true rfl, Nat.le_of_ble_eq_true rfl⟩ hZ hP hD (isC := [3, 4]) ⟨rfl, rfl⟩ 3 (ci := 6) rfl rfl rfl rfl hl.1 rfl (Nat.le_of_ble_eq_true rfl) d_CO_take_22 ⟨Nat.le_of_ble_eq_true rfl, Nat.le_of_ble_eq_true rfl⟩ (fun v hv => ?_)
      have hv : v = .ref g := hv
      subst hv
      refine lv_aload_n hx hb d_CO_take_25 rfl (lv_at hl 0 rfl) ?_
      refine va_get (D := D) (ci := 7) (v := .ref h) (C := R_CO) (T := F_CO) (N := 2) hx hb hts i_CO hown hZ.1 hP 0 rfl rfl 0 (by decide) (hts _ fl_CO_10) (fun _ h9 => h9) rfl d_CO_take_26 ?_
      refine roV (As := [.ref h]) (rest := []) ⟨hx, hb, hml, hown, hts⟩ gd_good (c_Sh_fill_short l D cB cI cJ g gb (nI n1) h a n cap f (by omega)) cal_Sh_fill ml_CO_63 ⟨Nat.le_of_ble_eq_true rfl, Nat.le_of_ble_eq_true rfl⟩ hZ hP hD (isC := [6, 1, 2]) ⟨rfl, rfl⟩ 6 (ci := 1) rfl rfl rfl rfl hl.1 rfl (Nat.le_of_ble_eq_true rfl) d_CO_take_29 ⟨Nat.le_of_ble_eq_true rfl, Nat.le_of_ble_eq_true rfl⟩ (fun v hv => ?_)
      subst hv
      exact x_ret (t_iret hx hb hr hlk d_CO_take_32 hP hD hS ⟨_, rfl, rfl, rfl, c_4, rfl, rfl⟩)
    by_cases hk2 : k = 2
    · subst hk2
      refine lv_aload_n hx hb d_CO_take_17 rfl (lv_at hl 0 rfl) ?_
      refine va_get (D := D) (ci := 7) (v := .ref m) (C := R_CO) (T := F_CO) (N := 2) hx hb hts i_CO hown hZ.1 hP 0 rfl rfl 1 (by decide) (hts _ fl_CO_19) (fun _ h9 => h9) rfl d_CO_take_18 ?_
      refine lv_iload_n hx hb d_CO_take_21 rfl (lv_at hl 1 rfl) ?_
      refine roV (As := [.int 2]) (rest := []) ⟨hx, hb, hml, hown, hts⟩ gd_good (c_Ma_shelf l D cB cI cJ m mstr mval mrec mout z_run z_steps z_hints z_pas z_told z_wid z_mov p g q ki pl en d1 d2 2) cal_Ma_shelf ml_CO_59 ⟨Nat.le_of_ble_eq_true rfl, Nat.le_of_ble_eq_true rfl⟩ hZ hP hD (isC := [3, 4]) ⟨rfl, rfl⟩ 3 (ci := 6) rfl rfl rfl rfl hl.1 rfl (Nat.le_of_ble_eq_true rfl) d_CO_take_22 ⟨Nat.le_of_ble_eq_true rfl, Nat.le_of_ble_eq_true rfl⟩ (fun v hv => ?_)
      have hv : v = .ref q := hv
      subst hv
      refine lv_aload_n hx hb d_CO_take_25 rfl (lv_at hl 0 rfl) ?_
      refine va_get (D := D) (ci := 7) (v := .ref h) (C := R_CO) (T := F_CO) (N := 2) hx hb hts i_CO hown hZ.1 hP 0 rfl rfl 0 (by decide) (hts _ fl_CO_10) (fun _ h9 => h9) rfl d_CO_take_26 ?_
      refine roV (As := [.ref h]) (rest := []) ⟨hx, hb, hml, hown, hts⟩ gd_good (c_Sh_fill_short l D cB cI cJ q qb (nI n2) h a n cap f (by omega)) cal_Sh_fill ml_CO_63 ⟨Nat.le_of_ble_eq_true rfl, Nat.le_of_ble_eq_true rfl⟩ hZ hP hD (isC := [7, 1, 2]) ⟨rfl, rfl⟩ 7 (ci := 1) rfl rfl rfl rfl hl.1 rfl (Nat.le_of_ble_eq_true rfl) d_CO_take_29 ⟨Nat.le_of_ble_eq_true rfl, Nat.le_of_ble_eq_true rfl⟩ (fun v hv => ?_)
      subst hv
      exact x_ret (t_iret hx hb hr hlk d_CO_take_32 hP hD hS ⟨_, rfl, rfl, rfl, c_4, rfl, rfl⟩)
    obtain rfl := kind0 c_4 hk1 hk2
    refine lv_aload_n hx hb d_CO_take_17 rfl (lv_at hl 0 rfl) ?_
    refine va_get (D := D) (ci := 7) (v := .ref m) (C := R_CO) (T := F_CO) (N := 2) hx hb hts i_CO hown hZ.1 hP 0 rfl rfl 1 (by decide) (hts _ fl_CO_19) (fun _ h9 => h9) rfl d_CO_take_18 ?_
    refine lv_iload_n hx hb d_CO_take_21 rfl (lv_at hl 1 rfl) ?_
    refine roV (As := [.int 0]) (rest := []) ⟨hx, hb, hml, hown, hts⟩ gd_good (c_Ma_shelf l D cB cI cJ m mstr mval mrec mout z_run z_steps z_hints z_pas z_told z_wid z_mov p g q ki pl en d1 d2 0) cal_Ma_shelf ml_CO_59 ⟨Nat.le_of_ble_eq_true rfl, Nat.le_of_ble_eq_true rfl⟩ hZ hP hD (isC := [3, 4]) ⟨rfl, rfl⟩ 3 (ci := 6) rfl rfl rfl rfl hl.1 rfl (Nat.le_of_ble_eq_true rfl) d_CO_take_22 ⟨Nat.le_of_ble_eq_true rfl, Nat.le_of_ble_eq_true rfl⟩ (fun v hv => ?_)
    have hv : v = .ref p := hv
    subst hv
    refine lv_aload_n hx hb d_CO_take_25 rfl (lv_at hl 0 rfl) ?_
    refine va_get (D := D) (ci := 7) (v := .ref h) (C := R_CO) (T := F_CO) (N := 2) hx hb hts i_CO hown hZ.1 hP 0 rfl rfl 0 (by decide) (hts _ fl_CO_10) (fun _ h9 => h9) rfl d_CO_take_26 ?_
    refine roV (As := [.ref h]) (rest := []) ⟨hx, hb, hml, hown, hts⟩ gd_good (c_Sh_fill_short l D cB cI cJ p pb (nI n0) h a n cap f (by omega)) cal_Sh_fill ml_CO_63 ⟨Nat.le_of_ble_eq_true rfl, Nat.le_of_ble_eq_true rfl⟩ hZ hP hD (isC := [5, 1, 2]) ⟨rfl, rfl⟩ 5 (ci := 1) rfl rfl rfl rfl hl.1 rfl (Nat.le_of_ble_eq_true rfl) d_CO_take_29 ⟨Nat.le_of_ble_eq_true rfl, Nat.le_of_ble_eq_true rfl⟩ (fun v hv => ?_)
    subst hv
    exact x_ret (t_iret hx hb hr hlk d_CO_take_32 hP hD hS ⟨_, rfl, rfl, rfl, c_4, rfl, rfl⟩)
  · exact x_throw hfl hx hb (by rw [hml]; exact hl.1.symm) hlk hown (by decide +kernel) (by decide +kernel) (xat_IA hts hZ.2.1 hXU ml_CO_42) (hts _ cl_CO_38) (hts _ xin_IA) (hXU.2.2.1 _ (List.mem_of_getElem? (i := 3) rfl)) hno (Nat.le_of_ble_eq_true rfl) (Nat.le_of_ble_eq_true rfl) (Nat.le_of_ble_eq_true rfl) (Nat.le_of_ble_eq_true rfl) ⟨rfl, c_4⟩ d_CO_take_7 d_CO_take_10 d_CO_take_11 d_CO_take_13 d_CO_take_16
set_option maxHeartbeats 1000000 in
set_option maxRecDepth 100000 in
theorem c_CO_count (l : Launch) (D : va_G) (cB cI cJ : ClassId) (hfl : l.flags = pinnedFlags ++ [noTraceFlag]) (ad : Nat → Nat) (o h a n cap : Nat) (f : Nat → Int32) (m mstr mval mrec mout : Nat) (z_run z_steps z_hints z_pas z_told z_wid z_mov : Int32) (p g q ki pl en pb gb qb n0 n1 n2 : Nat) (d1 d2 k : Int32) : TrX l D classes (TY cB cI cJ) gd_tbl nx_tbl str_tbl ad y_CO_count b_CO_count 2 (some .int) ({ frames := 6, cells := 1, slots := 6, locals := 82 }) [.ref o, .int k] [(o, .inr (7, [.ref h, .ref m])), (h, .inr (0, [.ref a, .int (nI n)])), (a, .inl (cB, cap, .inl f)), (m, .inr (6, [.ref mstr, .ref mval, .ref mrec, .ref mout, .int z_run, .int z_steps, .int z_hints, .int z_pas, .int z_told, .int z_wid, .int z_mov])), (mstr, .inr (2, [.ref p, .ref g, .ref q, .ref ki, .ref pl, .ref en, .int d1, .int d2])), (p, .inr (1, [.ref pb, .int (nI n0)])), (g, .inr (1, [.ref gb, .int (nI n1)])), (q, .inr (1, [.ref qb, .int (nI n2)]))] (pI0 (fun r w => ¬ isK k = 0 ∧ r = nI (selK k n0 n1 n2) ∧ w = [(o, .inr (7, [.ref h, .ref m])), (h, .inr (0, [.ref a, .int (nI n)])), (a, .inl (cB, cap, .inl f)), (m, .inr (6, [.ref mstr, .ref mval, .ref mrec, .ref mout, .int z_run, .int z_steps, .int z_hints, .int z_pas, .int z_told, .int z_wid, .int z_mov])), (mstr, .inr (2, [.ref p, .ref g, .ref q, .ref ki, .ref pl, .ref en, .int d1, .int d2])), (p, .inr (1, [.ref pb, .int (nI n0)])), (g, .inr (1, [.ref gb, .int (nI n1)])), (q, .inr (1, [.ref qb, .int (nI n2)]))])) (fun X => X = "java/lang/IllegalArgumentException" ∧ isK k = 0) := by
  refine TrX.intro (by decide +kernel) nx_ok (Nat.le_of_ble_eq_true rfl) ?_
  intro p_ e_ s_ m_ args_ below_ meth_ c_ A_ ls hx hb hml hown hts hr hlk hnm hZ hP hD hS hl hXU hno
  have hl : lv_has ls 2 [(0, .ref o), (1, .int k)] := hl
  refine lv_iload_n hx hb d_CO_count_0 rfl (lv_at hl 1 rfl) ?_
  refine roS (As := [.int k]) (rest := []) ⟨hx, hb, hml, hown, hts⟩ gd_good (c_CO_isKind l D cB cI cJ k) cal_CO_isKind ml_CO_53 ⟨Nat.le_of_ble_eq_true rfl, Nat.le_of_ble_eq_true rfl⟩ hZ hP hD (isC := []) ⟨rfl, rfl⟩ rfl hl.1 rfl (Nat.le_of_ble_eq_true rfl) d_CO_count_1 ⟨Nat.le_of_ble_eq_true rfl, Nat.le_of_ble_eq_true rfl⟩ (fun v hv => ?_)
  subst hv
  refine lv_if_ne (tgt := 17) hx hb d_CO_count_4 (by decide) (fun c_4 => ?_) (fun c_4 => ?_)
  · by_cases hk1 : k = 1
    · subst hk1
      refine lv_aload_n hx hb d_CO_count_17 rfl (lv_at hl 0 rfl) ?_
      refine va_get (D := D) (ci := 7) (v := .ref m) (C := R_CO) (T := F_CO) (N := 2) hx hb hts i_CO hown hZ.1 hP 0 rfl rfl 1 (by decide) (hts _ fl_CO_19) (fun _ h9 => h9) rfl d_CO_count_18 ?_
      refine lv_iload_n hx hb d_CO_count_21 rfl (lv_at hl 1 rfl) ?_
      refine roV (As := [.int 1]) (rest := []) ⟨hx, hb, hml, hown, hts⟩ gd_good (c_Ma_shelf l D cB cI cJ m mstr mval mrec mout z_run z_steps z_hints z_pas z_told z_wid z_mov p g q ki pl en d1 d2 1) cal_Ma_shelf ml_CO_59 ⟨Nat.le_of_ble_eq_true rfl, Nat.le_of_ble_eq_true rfl⟩ hZ hP hD (isC := [3, 4]) ⟨rfl, rfl⟩ 3 (ci := 6) rfl rfl rfl rfl hl.1 rfl (Nat.le_of_ble_eq_true rfl) d_CO_count_22 ⟨Nat.le_of_ble_eq_true rfl, Nat.le_of_ble_eq_true rfl⟩ (fun v hv => ?_)
      have hv : v = .ref g := hv
      subst hv
      refine roV (As := []) (rest := []) ⟨hx, hb, hml, hown, hts⟩ gd_good (c_Sh_strings l D cB cI cJ g gb n1) cal_Sh_strings ml_CO_94 ⟨Nat.le_of_ble_eq_true rfl, Nat.le_of_ble_eq_true rfl⟩ hZ hP hD (isC := [6]) ⟨rfl, rfl⟩ 6 (ci := 1) rfl rfl rfl rfl hl.1 rfl (Nat.le_of_ble_eq_true rfl) d_CO_count_25 ⟨Nat.le_of_ble_eq_true rfl, Nat.le_of_ble_eq_true rfl⟩ (fun v hv => ?_)
      subst hv
      exact x_ret (t_iret hx hb hr hlk d_CO_count_28 hP hD hS ⟨_, rfl, rfl, rfl, c_4, rfl, rfl⟩)
    by_cases hk2 : k = 2
    · subst hk2
      refine lv_aload_n hx hb d_CO_count_17 rfl (lv_at hl 0 rfl) ?_
      refine va_get (D := D) (ci := 7) (v := .ref m) (C := R_CO) (T := F_CO) (N := 2) hx hb hts i_CO hown hZ.1 hP 0 rfl rfl 1 (by decide) (hts _ fl_CO_19) (fun _ h9 => h9) rfl d_CO_count_18 ?_
      refine lv_iload_n hx hb d_CO_count_21 rfl (lv_at hl 1 rfl) ?_
      refine roV (As := [.int 2]) (rest := []) ⟨hx, hb, hml, hown, hts⟩ gd_good (c_Ma_shelf l D cB cI cJ m mstr mval mrec mout z_run z_steps z_hints z_pas z_told z_wid z_mov p g q ki pl en d1 d2 2) cal_Ma_shelf ml_CO_59 ⟨Nat.le_of_ble_eq_true rfl, Nat.le_of_ble_eq_true rfl⟩ hZ hP hD (isC := [3, 4]) ⟨rfl, rfl⟩ 3 (ci := 6) rfl rfl rfl rfl hl.1 rfl (Nat.le_of_ble_eq_true rfl) d_CO_count_22 ⟨Nat.le_of_ble_eq_true rfl, Nat.le_of_ble_eq_true rfl⟩ (fun v hv => ?_)
      have hv : v = .ref q := hv
      subst hv
      refine roV (As := []) (rest := []) ⟨hx, hb, hml, hown, hts⟩ gd_good (c_Sh_strings l D cB cI cJ q qb n2) cal_Sh_strings ml_CO_94 ⟨Nat.le_of_ble_eq_true rfl, Nat.le_of_ble_eq_true rfl⟩ hZ hP hD (isC := [7]) ⟨rfl, rfl⟩ 7 (ci := 1) rfl rfl rfl rfl hl.1 rfl (Nat.le_of_ble_eq_true rfl) d_CO_count_25 ⟨Nat.le_of_ble_eq_true rfl, Nat.le_of_ble_eq_true rfl⟩ (fun v hv => ?_)
      subst hv
      exact x_ret (t_iret hx hb hr hlk d_CO_count_28 hP hD hS ⟨_, rfl, rfl, rfl, c_4, rfl, rfl⟩)
    obtain rfl := kind0 c_4 hk1 hk2
    refine lv_aload_n hx hb d_CO_count_17 rfl (lv_at hl 0 rfl) ?_
    refine va_get (D := D) (ci := 7) (v := .ref m) (C := R_CO) (T := F_CO) (N := 2) hx hb hts i_CO hown hZ.1 hP 0 rfl rfl 1 (by decide) (hts _ fl_CO_19) (fun _ h9 => h9) rfl d_CO_count_18 ?_
    refine lv_iload_n hx hb d_CO_count_21 rfl (lv_at hl 1 rfl) ?_
    refine roV (As := [.int 0]) (rest := []) ⟨hx, hb, hml, hown, hts⟩ gd_good (c_Ma_shelf l D cB cI cJ m mstr mval mrec mout z_run z_steps z_hints z_pas z_told z_wid z_mov p g q ki pl en d1 d2 0) cal_Ma_shelf ml_CO_59 ⟨Nat.le_of_ble_eq_true rfl, Nat.le_of_ble_eq_true rfl⟩ hZ hP hD (isC := [3, 4]) ⟨rfl, rfl⟩ 3 (ci := 6) rfl rfl rfl rfl hl.1 rfl (Nat.le_of_ble_eq_true rfl) d_CO_count_22 ⟨Nat.le_of_ble_eq_true rfl, Nat.le_of_ble_eq_true rfl⟩ (fun v hv => ?_)
    have hv : v = .ref p := hv
    subst hv
    refine roV (As := []) (rest := []) ⟨hx, hb, hml, hown, hts⟩ gd_good (c_Sh_strings l D cB cI cJ p pb n0) cal_Sh_strings ml_CO_94 ⟨Nat.le_of_ble_eq_true rfl, Nat.le_of_ble_eq_true rfl⟩ hZ hP hD (isC := [5]) ⟨rfl, rfl⟩ 5 (ci := 1) rfl rfl rfl rfl hl.1 rfl (Nat.le_of_ble_eq_true rfl) d_CO_count_25 ⟨Nat.le_of_ble_eq_true rfl, Nat.le_of_ble_eq_true rfl⟩ (fun v hv => ?_)
    subst hv
    exact x_ret (t_iret hx hb hr hlk d_CO_count_28 hP hD hS ⟨_, rfl, rfl, rfl, c_4, rfl, rfl⟩)
  · exact x_throw hfl hx hb (by rw [hml]; exact hl.1.symm) hlk hown (by decide +kernel) (by decide +kernel) (xat_IA hts hZ.2.1 hXU ml_CO_42) (hts _ cl_CO_38) (hts _ xin_IA) (hXU.2.2.1 _ (List.mem_of_getElem? (i := 3) rfl)) hno (Nat.le_of_ble_eq_true rfl) (Nat.le_of_ble_eq_true rfl) (Nat.le_of_ble_eq_true rfl) (Nat.le_of_ble_eq_true rfl) ⟨rfl, c_4⟩ d_CO_count_7 d_CO_count_10 d_CO_count_11 d_CO_count_13 d_CO_count_16
set_option maxHeartbeats 1000000 in
set_option maxRecDepth 100000 in
theorem c_CO_run_none (l : Launch) (D : va_G) (cB cI cJ : ClassId) (hfl : l.flags = pinnedFlags ++ [noTraceFlag]) (ad : Nat → Nat) (o h a n cap : Nat) (f : Nat → Int32) (m mstr mval mrec mout : Nat) (z_run z_steps z_hints z_pas z_told z_wid z_mov : Int32) (p g q ki pl en pb gb qb n0 n1 n2 : Nat) (d1 d2 k : Int32) (h0 : n0 = 0) : TrX l D classes (TY cB cI cJ) gd_tbl nx_tbl str_tbl ad y_CO_run b_CO_run 2 (some .int) ({ frames := 6, cells := 1, slots := 6, locals := 82 }) [.ref o, .int k] [(o, .inr (7, [.ref h, .ref m])), (h, .inr (0, [.ref a, .int (nI n)])), (a, .inl (cB, cap, .inl f)), (m, .inr (6, [.ref mstr, .ref mval, .ref mrec, .ref mout, .int z_run, .int z_steps, .int z_hints, .int z_pas, .int z_told, .int z_wid, .int z_mov])), (mstr, .inr (2, [.ref p, .ref g, .ref q, .ref ki, .ref pl, .ref en, .int d1, .int d2])), (p, .inr (1, [.ref pb, .int (nI n0)])), (g, .inr (1, [.ref gb, .int (nI n1)])), (q, .inr (1, [.ref qb, .int (nI n2)]))] (pI0 (fun r w => False)) (fun X => X = "java/lang/IndexOutOfBoundsException") := by
  refine TrX.intro (by decide +kernel) nx_ok (Nat.le_of_ble_eq_true rfl) ?_
  intro p_ e_ s_ m_ args_ below_ meth_ c_ A_ ls hx hb hml hown hts hr hlk hnm hZ hP hD hS hl hXU hno
  have hl : lv_has ls 2 [(0, .ref o), (1, .int k)] := hl
  refine lv_aload_n hx hb d_CO_run_0 rfl (lv_at hl 0 rfl) ?_
  refine va_get (D := D) (ci := 7) (v := .ref m) (C := R_CO) (T := F_CO) (N := 2) hx hb hts i_CO hown hZ.1 hP 0 rfl rfl 1 (by decide) (hts _ fl_CO_19) (fun _ h9 => h9) rfl d_CO_run_1 ?_
  refine lv_iconst (v := 0) hx hb d_CO_run_4 (by decide) ?_
  refine roV (As := [.int 0]) (rest := []) ⟨hx, hb, hml, hown, hts⟩ gd_good (c_Ma_shelf l D cB cI cJ m mstr mval mrec mout z_run z_steps z_hints z_pas z_told z_wid z_mov p g q ki pl en d1 d2 0) cal_Ma_shelf ml_CO_59 ⟨Nat.le_of_ble_eq_true rfl, Nat.le_of_ble_eq_true rfl⟩ hZ hP hD (isC := [3, 4]) ⟨rfl, rfl⟩ 3 (ci := 6) rfl rfl rfl rfl hl.1 rfl (Nat.le_of_ble_eq_true rfl) d_CO_run_5 ⟨Nat.le_of_ble_eq_true rfl, Nat.le_of_ble_eq_true rfl⟩ (fun v hv => ?_)
  have hv : v = .ref p := hv
  subst hv
  refine lv_iload_n hx hb d_CO_run_8 rfl (lv_at hl 1 rfl) ?_
  refine roV (As := [.int k]) (rest := []) ⟨hx, hb, hml, hown, hts⟩ gd_good (c_Sh_has l D cB cI cJ p pb n0 k) cal_Sh_has ml_CO_69 ⟨Nat.le_of_ble_eq_true rfl, Nat.le_of_ble_eq_true rfl⟩ hZ hP hD (isC := [5]) ⟨rfl, rfl⟩ 5 (ci := 1) rfl rfl rfl rfl hl.1 rfl (Nat.le_of_ble_eq_true rfl) d_CO_run_9 ⟨Nat.le_of_ble_eq_true rfl, Nat.le_of_ble_eq_true rfl⟩ (fun v hv => ?_)
  subst hv
  refine lv_if_ne (tgt := 25) hx hb d_CO_run_12 (by decide) (fun c_12 => absurd c_12 (fun z => z (hasS0 h0))) (fun c_12 => ?_)
  exact x_throw hfl hx hb (by rw [hml]; exact hl.1.symm) hlk hown (by decide +kernel) (by decide +kernel) (xat_IO hts hZ.2.1 hXU ml_CO_35) (hts _ cl_CO_31) (hts _ xin_IO) (hXU.2.2.1 _ (List.mem_of_getElem? (i := 4) rfl)) hno (Nat.le_of_ble_eq_true rfl) (Nat.le_of_ble_eq_true rfl) (Nat.le_of_ble_eq_true rfl) (Nat.le_of_ble_eq_true rfl) rfl d_CO_run_15 d_CO_run_18 d_CO_run_19 d_CO_run_21 d_CO_run_24
set_option maxHeartbeats 1000000 in
set_option maxRecDepth 100000 in
theorem c_Ou_has (l : Launch) (D : va_G) (cB cI cJ : ClassId) (h ra n : Nat) (x y : Int32) (i w : Int32) : Ro l D classes (TY cB cI cJ) gd_tbl nx_tbl y_Ou_has b_Ou_has 3 (some .boolean) ({ frames := 0, cells := 0, slots := 0, locals := 0 }) [.ref h, .int i, .int w] [(h, .inr (4, [.ref ra, .int (nI n), .int x, .int y]))] (fun v => v = .int (hasO n i w)) := by
  refine Ro.intro (by decide +kernel) nx_ok (Nat.le_of_ble_eq_true rfl) ?_
  intro p_ e_ s_ m_ args_ below_ meth_ c_ A_ ls hx hb hml hown hts hr hlk hnm hZ hP hD hl
  have hl : lv_has ls 3 [(0, .ref h), (1, .int i), (2, .int w)] := hl
  refine lv_iload_n hx hb d_Ou_has_0 rfl (lv_at hl 1 rfl) ?_
  refine lv_if_lt (tgt := 26) hx hb d_Ou_has_1 (by decide) (fun c_1 => ?_) (fun c_1 => ?_)
  · refine lv_iconst (v := 0) hx hb d_Ou_has_26 (by decide) ?_
    exact r_zret hx hb hr hlk (by decide) d_Ou_has_27 (by simp [hasO, c_1])
  · refine lv_iload_n hx hb d_Ou_has_4 rfl (lv_at hl 1 rfl) ?_
    refine lv_aload_n hx hb d_Ou_has_5 rfl (lv_at hl 0 rfl) ?_
    refine va_get (D := D) (ci := 4) (v := .int (nI n)) (C := R_Ou) (T := F_Ou) (N := 4) hx hb hts i_Ou hown hZ.1 hP 0 rfl rfl 1 (by decide) (hts _ fl_Ou_15) (fun _ h9 => h9) rfl d_Ou_has_6 ?_
    refine lv_icmp_ge (tgt := 26) hx hb d_Ou_has_9 (by decide) (fun c_9 => ?_) (fun c_9 => ?_)
    · refine lv_iconst (v := 0) hx hb d_Ou_has_26 (by decide) ?_
      exact r_zret hx hb hr hlk (by decide) d_Ou_has_27 (by simp [hasO, c_1, c_9])
    · refine lv_iload_n hx hb d_Ou_has_12 rfl (lv_at hl 2 rfl) ?_
      refine lv_if_lt (tgt := 26) hx hb d_Ou_has_13 (by decide) (fun c_13 => ?_) (fun c_13 => ?_)
      · refine lv_iconst (v := 0) hx hb d_Ou_has_26 (by decide) ?_
        exact r_zret hx hb hr hlk (by decide) d_Ou_has_27 (by simp [hasO, c_1, c_9, c_13])
      · refine lv_iload_n hx hb d_Ou_has_16 rfl (lv_at hl 2 rfl) ?_
        refine lv_bipush (v := 7) hx hb d_Ou_has_17 (by decide) ?_
        refine lv_icmp_ge (tgt := 26) hx hb d_Ou_has_19 (by decide) (fun c_19 => ?_) (fun c_19 => ?_)
        · refine lv_iconst (v := 0) hx hb d_Ou_has_26 (by decide) ?_
          exact r_zret hx hb hr hlk (by decide) d_Ou_has_27 (by simp [hasO, c_1, c_9, c_13, c_19])
        · refine lv_iconst (v := 1) hx hb d_Ou_has_22 (by decide) ?_
          refine lv_goto (tgt := 27) hx hb d_Ou_has_23 (by decide) ?_
          exact r_zret hx hb hr hlk (by decide) d_Ou_has_27 (by simp [hasO, c_1, c_9, c_13, c_19])
set_option maxHeartbeats 1000000 in
set_option maxRecDepth 100000 in
theorem c_CO_mark_none (l : Launch) (D : va_G) (cB cI cJ : ClassId) (hfl : l.flags = pinnedFlags ++ [noTraceFlag]) (ad : Nat → Nat) (o h : Nat) (m mstr mval mrec mout : Nat) (z_run z_steps z_hints z_pas z_told z_wid z_mov : Int32) (ra n : Nat) (x y i w : Int32) (h0 : n = 0) : TrX l D classes (TY cB cI cJ) gd_tbl nx_tbl str_tbl ad y_CO_mark b_CO_mark 3 (some .int) ({ frames := 6, cells := 1, slots := 6, locals := 82 }) [.ref o, .int i, .int w] [(o, .inr (7, [.ref h, .ref m])), (m, .inr (6, [.ref mstr, .ref mval, .ref mrec, .ref mout, .int z_run, .int z_steps, .int z_hints, .int z_pas, .int z_told, .int z_wid, .int z_mov])), (mout, .inr (4, [.ref ra, .int (nI n), .int x, .int y]))] (pI0 (fun r w => False)) (fun X => X = "java/lang/IndexOutOfBoundsException") := by
  refine TrX.intro (by decide +kernel) nx_ok (Nat.le_of_ble_eq_true rfl) ?_
  intro p_ e_ s_ m_ args_ below_ meth_ c_ A_ ls hx hb hml hown hts hr hlk hnm hZ hP hD hS hl hXU hno
  have hl : lv_has ls 3 [(0, .ref o), (1, .int i), (2, .int w)] := hl
  refine lv_aload_n hx hb d_CO_mark_0 rfl (lv_at hl 0 rfl) ?_
  refine va_get (D := D) (ci := 7) (v := .ref m) (C := R_CO) (T := F_CO) (N := 2) hx hb hts i_CO hown hZ.1 hP 0 rfl rfl 1 (by decide) (hts _ fl_CO_19) (fun _ h9 => h9) rfl d_CO_mark_1 ?_
  refine roV (As := []) (rest := []) ⟨hx, hb, hml, hown, hts⟩ gd_good (c_Ma_outline l D cB cI cJ m mstr mval mrec mout z_run z_steps z_hints z_pas z_told z_wid z_mov) cal_Ma_outline ml_CO_77 ⟨Nat.le_of_ble_eq_true rfl, Nat.le_of_ble_eq_true rfl⟩ hZ hP hD (isC := [1]) ⟨rfl, rfl⟩ 1 (ci := 6) rfl rfl rfl rfl hl.1 rfl (Nat.le_of_ble_eq_true rfl) d_CO_mark_4 ⟨Nat.le_of_ble_eq_true rfl, Nat.le_of_ble_eq_true rfl⟩ (fun v hv => ?_)
  subst hv
  refine lv_iload_n hx hb d_CO_mark_7 rfl (lv_at hl 1 rfl) ?_
  refine lv_iload_n hx hb d_CO_mark_8 rfl (lv_at hl 2 rfl) ?_
  refine roV (As := [.int i, .int w]) (rest := []) ⟨hx, hb, hml, hown, hts⟩ gd_good (c_Ou_has l D cB cI cJ mout ra n x y i w) cal_Ou_has ml_CO_81 ⟨Nat.le_of_ble_eq_true rfl, Nat.le_of_ble_eq_true rfl⟩ hZ hP hD (isC := [2]) ⟨rfl, rfl⟩ 2 (ci := 4) rfl rfl rfl rfl hl.1 rfl (Nat.le_of_ble_eq_true rfl) d_CO_mark_9 ⟨Nat.le_of_ble_eq_true rfl, Nat.le_of_ble_eq_true rfl⟩ (fun v hv => ?_)
  subst hv
  refine lv_if_ne (tgt := 25) hx hb d_CO_mark_12 (by decide) (fun c_12 => absurd c_12 (fun z => z (hasO0 h0))) (fun c_12 => ?_)
  exact x_throw hfl hx hb (by rw [hml]; exact hl.1.symm) hlk hown (by decide +kernel) (by decide +kernel) (xat_IO hts hZ.2.1 hXU ml_CO_35) (hts _ cl_CO_31) (hts _ xin_IO) (hXU.2.2.1 _ (List.mem_of_getElem? (i := 5) rfl)) hno (Nat.le_of_ble_eq_true rfl) (Nat.le_of_ble_eq_true rfl) (Nat.le_of_ble_eq_true rfl) (Nat.le_of_ble_eq_true rfl) rfl d_CO_mark_15 d_CO_mark_18 d_CO_mark_19 d_CO_mark_21 d_CO_mark_24
set_option maxHeartbeats 1000000 in
set_option maxRecDepth 100000 in
theorem c_Ma_told_none (l : Launch) (D : va_G) (cB cI cJ : ClassId) (m mstr mval mrec mout : Nat) (z_steps z_hints z_pas z_told z_wid z_mov : Int32) (w : Int32) : Ro l D classes (TY cB cI cJ) gd_tbl nx_tbl y_Ma_told b_Ma_told 2 (some .int) ({ frames := 0, cells := 0, slots := 0, locals := 0 }) [.ref m, .int w] [(m, .inr (6, [.ref mstr, .ref mval, .ref mrec, .ref mout, .int 0, .int z_steps, .int z_hints, .int z_pas, .int z_told, .int z_wid, .int z_mov]))] (fun v => v = .int (-1)) := by
  refine Ro.intro (by decide +kernel) nx_ok (Nat.le_of_ble_eq_true rfl) ?_
  intro p_ e_ s_ m_ args_ below_ meth_ c_ A_ ls hx hb hml hown hts hr hlk hnm hZ hP hD hl
  have hl : lv_has ls 2 [(0, .ref m), (1, .int w)] := hl
  refine lv_aload_n hx hb d_Ma_told_0 rfl (lv_at hl 0 rfl) ?_
  refine va_get (D := D) (ci := 6) (v := .int 0) (C := R_Ma) (T := F_Ma) (N := 11) hx hb hts i_Ma hown hZ.1 hP 0 rfl rfl 4 (by decide) (hts _ fl_Ma_43) (fun _ h9 => h9) rfl d_Ma_told_1 ?_
  refine lv_if_ne (tgt := 9) hx hb d_Ma_told_4 (by decide) (fun c_4 => absurd c_4 (by decide)) (fun c_4 => ?_)
  clear c_4
  refine lv_iconst (v := (-1)) hx hb d_Ma_told_7 (by decide) ?_
  exact r_iret hx hb hr hlk d_Ma_told_8 rfl
set_option maxHeartbeats 1000000 in
set_option maxRecDepth 100000 in
theorem c_CO_last_none (l : Launch) (D : va_G) (cB cI cJ : ClassId) (o h : Nat) (m mstr mval mrec mout : Nat) (z_steps z_hints z_pas z_told z_wid z_mov : Int32) (w : Int32) : Ro l D classes (TY cB cI cJ) gd_tbl nx_tbl y_CO_last b_CO_last 2 (some .int) ({ frames := 1, cells := 0, slots := 0, locals := 21 }) [.ref o, .int w] [(o, .inr (7, [.ref h, .ref m])), (m, .inr (6, [.ref mstr, .ref mval, .ref mrec, .ref mout, .int 0, .int z_steps, .int z_hints, .int z_pas, .int z_told, .int z_wid, .int z_mov]))] (fun v => v = .int (-1)) := by
  refine Ro.intro (by decide +kernel) nx_ok (Nat.le_of_ble_eq_true rfl) ?_
  intro p_ e_ s_ m_ args_ below_ meth_ c_ A_ ls hx hb hml hown hts hr hlk hnm hZ hP hD hl
  have hl : lv_has ls 2 [(0, .ref o), (1, .int w)] := hl
  refine lv_aload_n hx hb d_CO_last_0 rfl (lv_at hl 0 rfl) ?_
  refine va_get (D := D) (ci := 7) (v := .ref m) (C := R_CO) (T := F_CO) (N := 2) hx hb hts i_CO hown hZ.1 hP 0 rfl rfl 1 (by decide) (hts _ fl_CO_19) (fun _ h9 => h9) rfl d_CO_last_1 ?_
  refine lv_iload_n hx hb d_CO_last_4 rfl (lv_at hl 1 rfl) ?_
  refine roV (As := [.int w]) (rest := []) ⟨hx, hb, hml, hown, hts⟩ gd_good (c_Ma_told_none l D cB cI cJ m mstr mval mrec mout z_steps z_hints z_pas z_told z_wid z_mov w) cal_Ma_told ml_CO_91 ⟨Nat.le_of_ble_eq_true rfl, Nat.le_of_ble_eq_true rfl⟩ hZ hP hD (isC := [1]) ⟨rfl, rfl⟩ 1 (ci := 6) rfl rfl rfl rfl hl.1 rfl (Nat.le_of_ble_eq_true rfl) d_CO_last_5 ⟨Nat.le_of_ble_eq_true rfl, Nat.le_of_ble_eq_true rfl⟩ (fun v hv => ?_)
  subst hv
  exact r_iret hx hb hr hlk d_CO_last_8 rfl
