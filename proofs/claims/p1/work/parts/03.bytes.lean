def atB (n : Nat) (f : Nat → Int32) (i : Int32) : Int32 := if i < 0 then 0 else if nI n ≤ i then 0 else f i.toNatClampNeg &&& 255
theorem in_c {i : Int32} {n cap : Nat} (h1 : ¬ i < 0) (h2 : ¬ nI n ≤ i) (h3 : n ≤ cap) (h4 : n < 2 ^ 31) : vp_in i cap := by
  obtain ⟨j, hj, rfl⟩ := nI_of h1
  have : j < n := by
    rcases Nat.lt_or_ge j n with q | q
    · exact q
    · exact absurd (nI_le q hj) h2
  exact fun h => by
    rcases h with h | h
    · exact h1 h
    · rw [nI_clamp hj] at h; omega
theorem in_d {i : Int32} {n cap : Nat} (h1 : ¬ i < 0) (h2 : i < nI n) (h3 : n ≤ cap) (h4 : n < 2 ^ 31) : vp_in i cap := in_c h1 (Int32.not_le.mpr h2) h3 h4
abbrev b_By_length : ByteArray := prog_2_method_2_code
abbrev y_By_length : MethodName := ⟨"CharOutlines$Bytes", "length", "()I"⟩
set_option maxRecDepth 100000 in
theorem cal_By_length : CalV gd_tbl "CharOutlines$Bytes" y_By_length b_By_length 1 (some .int) 0 := ⟨⟨List.mem_filter.mpr ⟨List.mem_of_getElem? (i := 246) rfl, rfl⟩, List.mem_filter.mpr ⟨List.mem_of_getElem? (i := 61) rfl, rfl⟩, ⟨by decide, by decide⟩, by decide +kernel⟩, List.mem_filter.mpr ⟨List.mem_of_getElem? (i := 244) rfl, rfl⟩, List.mem_filter.mpr ⟨List.mem_of_getElem? (i := 245) rfl, rfl⟩⟩
theorem d_By_length_0 : decode b_By_length 0 = .ok (.aload_n 0, 1) := by decide +kernel
theorem d_By_length_1 : decode b_By_length 1 = .ok (.getfield 15, 3) := by decide +kernel
theorem d_By_length_4 : decode b_By_length 4 = .ok (.ireturn, 1) := by decide +kernel
abbrev b_By_at : ByteArray := prog_2_method_3_code
abbrev y_By_at : MethodName := ⟨"CharOutlines$Bytes", "at", "(I)I"⟩
set_option maxRecDepth 100000 in
theorem cal_By_at : CalV gd_tbl "CharOutlines$Bytes" y_By_at b_By_at 2 (some .int) 1 := ⟨⟨List.mem_filter.mpr ⟨List.mem_of_getElem? (i := 389) rfl, rfl⟩, List.mem_filter.mpr ⟨List.mem_of_getElem? (i := 61) rfl, rfl⟩, ⟨by decide, by decide⟩, by decide +kernel⟩, List.mem_filter.mpr ⟨List.mem_of_getElem? (i := 387) rfl, rfl⟩, List.mem_filter.mpr ⟨List.mem_of_getElem? (i := 388) rfl, rfl⟩⟩
theorem d_By_at_0 : decode b_By_at 0 = .ok (.iload_n 1, 1) := by decide +kernel
theorem d_By_at_1 : decode b_By_at 1 = .ok (.ifCond .lt 24, 3) := by decide +kernel
theorem d_By_at_4 : decode b_By_at 4 = .ok (.iload_n 1, 1) := by decide +kernel
theorem d_By_at_5 : decode b_By_at 5 = .ok (.aload_n 0, 1) := by decide +kernel
theorem d_By_at_6 : decode b_By_at 6 = .ok (.getfield 15, 3) := by decide +kernel
theorem d_By_at_9 : decode b_By_at 9 = .ok (.if_icmp .ge 16, 3) := by decide +kernel
theorem d_By_at_12 : decode b_By_at 12 = .ok (.aload_n 0, 1) := by decide +kernel
theorem d_By_at_13 : decode b_By_at 13 = .ok (.getfield 11, 3) := by decide +kernel
theorem d_By_at_16 : decode b_By_at 16 = .ok (.iload_n 1, 1) := by decide +kernel
theorem d_By_at_17 : decode b_By_at 17 = .ok (.baload, 1) := by decide +kernel
theorem d_By_at_18 : decode b_By_at 18 = .ok (.sipush 255, 3) := by decide +kernel
theorem d_By_at_21 : decode b_By_at 21 = .ok (.iand, 1) := by decide +kernel
theorem d_By_at_22 : decode b_By_at 22 = .ok (.goto 4, 3) := by decide +kernel
theorem d_By_at_25 : decode b_By_at 25 = .ok (.iconst 0, 1) := by decide +kernel
theorem d_By_at_26 : decode b_By_at 26 = .ok (.ireturn, 1) := by decide +kernel
set_option maxRecDepth 100000 in
theorem fl_By_11 : (Jvm.Cond.fieldLink "CharOutlines$Bytes" (11 : Nat) "CharOutlines$Bytes" "room" "[B") ∈ gd_tbl := List.mem_filter.mpr ⟨List.mem_of_getElem? (i := 92) rfl, rfl⟩
set_option maxRecDepth 100000 in
theorem fl_By_15 : (Jvm.Cond.fieldLink "CharOutlines$Bytes" (15 : Nat) "CharOutlines$Bytes" "length" "I") ∈ gd_tbl := List.mem_filter.mpr ⟨List.mem_of_getElem? (i := 93) rfl, rfl⟩
set_option maxHeartbeats 1000000 in
set_option maxRecDepth 100000 in
theorem c_By_length (l : Launch) (D : va_G) (cB cI cJ : ClassId) (h a n cap : Nat) (f : Nat → Int32) : Ro l D classes (TY cB cI cJ) gd_tbl nx_tbl y_By_length b_By_length 1 (some .int) ({ frames := 0, cells := 0, slots := 0, locals := 0 }) [.ref h] [(h, .inr (0, [.ref a, .int (nI n)])), (a, .inl (cB, cap, .inl f))] (fun v => v = .int (nI n)) := by
  refine Ro.intro (by decide +kernel) nx_ok (Nat.le_of_ble_eq_true rfl) ?_
  intro p_ e_ s_ m_ args_ below_ meth_ c_ A_ ls hx hb hml hown hts hr hlk hnm hZ hP hD hl
  have hl : lv_has ls 1 [(0, .ref h)] := hl
  refine lv_aload_n hx hb d_By_length_0 rfl (lv_at hl 0 rfl) ?_
  refine va_get (D := D) (ci := 0) (v := .int (nI n)) (C := R_By) (T := F_By) (N := 2) hx hb hts i_By hown hZ.1 hP 0 rfl rfl 1 (by decide) (hts _ fl_By_15) (fun _ h9 => h9) rfl d_By_length_1 ?_
  exact r_iret hx hb hr hlk d_By_length_4 rfl
set_option maxHeartbeats 1000000 in
set_option maxRecDepth 100000 in
theorem c_By_at (l : Launch) (D : va_G) (cB cI cJ : ClassId) (h a n cap : Nat) (f : Nat → Int32) (i : Int32) (hn : n ≤ cap ∧ cap ≤ 16384) : Ro l D classes (TY cB cI cJ) gd_tbl nx_tbl y_By_at b_By_at 2 (some .int) ({ frames := 0, cells := 0, slots := 0, locals := 0 }) [.ref h, .int i] [(h, .inr (0, [.ref a, .int (nI n)])), (a, .inl (cB, cap, .inl f))] (fun v => v = .int (atB n f i)) := by
  refine Ro.intro (by decide +kernel) nx_ok (Nat.le_of_ble_eq_true rfl) ?_
  intro p_ e_ s_ m_ args_ below_ meth_ c_ A_ ls hx hb hml hown hts hr hlk hnm hZ hP hD hl
  have hl : lv_has ls 2 [(0, .ref h), (1, .int i)] := hl
  refine lv_iload_n hx hb d_By_at_0 rfl (lv_at hl 1 rfl) ?_
  refine lv_if_lt (tgt := 25) hx hb d_By_at_1 (by decide) (fun c_1 => ?_) (fun c_1 => ?_)
  · refine lv_iconst (v := 0) hx hb d_By_at_25 (by decide) ?_
    exact r_iret hx hb hr hlk d_By_at_26 (by simp [atB, c_1])
  · refine lv_iload_n hx hb d_By_at_4 rfl (lv_at hl 1 rfl) ?_
    refine lv_aload_n hx hb d_By_at_5 rfl (lv_at hl 0 rfl) ?_
    refine va_get (D := D) (ci := 0) (v := .int (nI n)) (C := R_By) (T := F_By) (N := 2) hx hb hts i_By hown hZ.1 hP 0 rfl rfl 1 (by decide) (hts _ fl_By_15) (fun _ h9 => h9) rfl d_By_at_6 ?_
    refine lv_icmp_ge (tgt := 25) hx hb d_By_at_9 (by decide) (fun c_9 => ?_) (fun c_9 => ?_)
    · refine lv_iconst (v := 0) hx hb d_By_at_25 (by decide) ?_
      exact r_iret hx hb hr hlk d_By_at_26 (by simp [atB, c_1, c_9])
    · refine lv_aload_n hx hb d_By_at_12 rfl (lv_at hl 0 rfl) ?_
      refine va_get (D := D) (ci := 0) (v := .ref a) (C := R_By) (T := F_By) (N := 2) hx hb hts i_By hown hZ.1 hP 0 rfl rfl 0 (by decide) (hts _ fl_By_11) (fun _ h9 => h9) rfl d_By_at_13 ?_
      refine lv_iload_n hx hb d_By_at_16 rfl (lv_at hl 1 rfl) ?_
      refine va_bald hx hb hZ.1 hP 1 0 rfl rfl (in_c c_1 c_9 (by omega) (by omega)) d_By_at_17 ?_
      refine lv_sipush (v := 255) hx hb d_By_at_18 (by decide) ?_
      refine lv_iand hx hb d_By_at_21 ?_
      refine lv_goto (tgt := 26) hx hb d_By_at_22 (by decide) ?_
      exact r_iret hx hb hr hlk d_By_at_26 (by simp [atB, c_1, c_9])
