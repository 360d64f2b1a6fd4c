theorem hnd1 {l : Launch} {e : Env} {s : State} {m : MethodId} {c : Code} {args : Array Value} {own X : String} {a b h ct pc : Nat} {tl : List ExceptionTableEntry} (had : l.admits e) (hown : s.vm.findClass own = some m.cls) (htab : c.exceptionTable.toList = ⟨a, b, h, ct⟩ :: tl)
    (hcl : (Cond.classLink own ct X).before args s = true) (hca : va_Nw (.castable X X) s) (hcov : covers ⟨a, b, h, ct⟩ pc = true) (h0 : ct ≠ 0) : Hnd e.platform s m.cls c pc X h := by
  have hpl : e.platform.magicAccessors = ({} : Platform).magicAccessors := by rw [had.platform]
  obtain ⟨cx, hcx, hl⟩ := Cond.classLink_spec hown hcl e.platform hpl
  obtain ⟨c3, c4, h3, h4, hasg⟩ := Cond.castable_spec (args := #[]) (s := s) hca
  cases h3.symm.trans h4
  cases h3.symm.trans hcx
  exact ⟨[], _, tl, _, _, htab, hcov, rfl, h3, ⟨h0, hl⟩, hasg, fun y hy => by cases hy⟩
theorem hnd2 {l : Launch} {e : Env} {s : State} {m : MethodId} {c : Code} {args : Array Value} {own X Y : String} {a b h ct a2 b2 h2 ct2 pc : Nat} (had : l.admits e) (hown : s.vm.findClass own = some m.cls) (htab : c.exceptionTable.toList = [⟨a, b, h, ct⟩, ⟨a2, b2, h2, ct2⟩])
    (hcl : (Cond.classLink own ct Y).before args s = true) (hcl2 : (Cond.classLink own ct2 X).before args s = true) (hca : va_Nw (.castable X X) s) (hno : va_Nc X Y s) (hcov : covers ⟨a, b, h, ct⟩ pc = true) (hcov2 : covers ⟨a2, b2, h2, ct2⟩ pc = true) (h0 : ct ≠ 0) (h02 : ct2 ≠ 0) : Hnd e.platform s m.cls c pc X h2 := by
  have hpl : e.platform.magicAccessors = ({} : Platform).magicAccessors := by rw [had.platform]
  obtain ⟨cy, hcy, hly⟩ := Cond.classLink_spec hown hcl e.platform hpl
  obtain ⟨cx, hcx, hl⟩ := Cond.classLink_spec hown hcl2 e.platform hpl
  obtain ⟨c3, c4, h3, h4, hasg⟩ := Cond.castable_spec (args := #[]) (s := s) hca
  cases h3.symm.trans h4
  cases h3.symm.trans hcx
  obtain ⟨d1, d2, g1, g2, g3⟩ := hno
  cases h3.symm.trans g1
  cases hcy.symm.trans g2
  exact ⟨[_], _, [], _, _, htab, hcov2, rfl, h3, ⟨h02, hl⟩, hasg, fun y hy => by
    rw [List.mem_singleton.mp hy]
    exact ⟨hcov, _, ⟨h0, hly⟩, g3⟩⟩
theorem rg_map {α : Type} : ∀ (mid pre post : List α), (List.range' pre.length mid.length).map (fun i => (pre ++ (mid ++ post))[i]?) = mid.map some
  | [], _, _ => rfl
  | a :: mid, pre, post => by
    have h := rg_map mid (pre ++ [a]) post
    rw [List.length_append, List.length_singleton, List.append_assoc] at h
    rw [List.length_cons, List.range'_succ, List.map_cons, List.map_cons]
    refine congr (congrArg _ ?_) h
    simp
theorem rg_nd : ∀ (n s : Nat), va_nd (List.range' s n) = true
  | 0, _ => rfl
  | n + 1, s => by
    rw [List.range'_succ]
    simp only [va_nd, Bool.and_eq_true, decide_eq_true_eq]
    exact ⟨fun h => by rw [List.mem_range'_1] at h; omega, rg_nd n (s + 1)⟩
/-- a world in two parts, one behind the other -/
theorem cut_app (wr wc : va_W) : Cut (wr ++ wc) wc wr (List.range' wr.length wc.length) (List.range' 0 wr.length) := by
  refine ⟨?_, ?_, rg_nd _ _, rg_nd _ _, fun i h1 h2 => ?_⟩
  · have h := rg_map wc wr []
    rw [List.append_nil] at h
    exact h
  · exact rg_map wr [] wc
  · rw [List.mem_range'_1] at h1 h2
    omega
abbrev cO (out : Nat) (cJ : ClassId) (go : Nat → Int64) : Nat × va_E := (out, .inl (cJ, 1, .inr (.inl go)))
abbrev b_La_put : ByteArray := method_3_code
abbrev y_La_put : MethodName := ⟨"CharOutlinesLaw", "put", "(LCharOutlines;II[J)I"⟩
set_option maxRecDepth 100000 in
theorem cal_La_put : CalSW gd_tbl y_La_put b_La_put 5 (some .int) [(0, 10, 13, 13), (0, 10, 17, 15)] 4 := ⟨List.mem_filter.mpr ⟨List.mem_of_getElem? (i := 293) rfl, rfl⟩, List.mem_filter.mpr ⟨List.mem_of_getElem? (i := 59) rfl, rfl⟩, ⟨by decide, by decide⟩, by decide +kernel, List.mem_filter.mpr ⟨List.mem_of_getElem? (i := 292) rfl, rfl⟩⟩
theorem d_La_put_0 : decode b_La_put 0 = .ok (.aload_n 3, 1) := by decide +kernel
theorem d_La_put_1 : decode b_La_put 1 = .ok (.iconst 0, 1) := by decide +kernel
theorem d_La_put_2 : decode b_La_put 2 = .ok (.aload_n 0, 1) := by decide +kernel
theorem d_La_put_3 : decode b_La_put 3 = .ok (.iload_n 1, 1) := by decide +kernel
theorem d_La_put_4 : decode b_La_put 4 = .ok (.iload_n 2, 1) := by decide +kernel
theorem d_La_put_5 : decode b_La_put 5 = .ok (.invokevirtual 7, 3) := by decide +kernel
theorem d_La_put_8 : decode b_La_put 8 = .ok (.i2l, 1) := by decide +kernel
theorem d_La_put_9 : decode b_La_put 9 = .ok (.lastore, 1) := by decide +kernel
theorem d_La_put_10 : decode b_La_put 10 = .ok (.goto 11, 3) := by decide +kernel
theorem d_La_put_13 : decode b_La_put 13 = .ok (.astore 4, 2) := by decide +kernel
theorem d_La_put_15 : decode b_La_put 15 = .ok (.iconst 1, 1) := by decide +kernel
theorem d_La_put_16 : decode b_La_put 16 = .ok (.ireturn, 1) := by decide +kernel
theorem d_La_put_17 : decode b_La_put 17 = .ok (.astore 4, 2) := by decide +kernel
theorem d_La_put_19 : decode b_La_put 19 = .ok (.iconst 2, 1) := by decide +kernel
theorem d_La_put_20 : decode b_La_put 20 = .ok (.ireturn, 1) := by decide +kernel
theorem d_La_put_21 : decode b_La_put 21 = .ok (.iconst 0, 1) := by decide +kernel
theorem d_La_put_22 : decode b_La_put 22 = .ok (.ireturn, 1) := by decide +kernel
abbrev b_La_cut : ByteArray := method_4_code
abbrev y_La_cut : MethodName := ⟨"CharOutlinesLaw", "cut", "(LCharOutlines;I[J)I"⟩
set_option maxRecDepth 100000 in
theorem cal_La_cut : CalSW gd_tbl y_La_cut b_La_cut 4 (some .int) [(0, 9, 12, 15)] 3 := ⟨List.mem_filter.mpr ⟨List.mem_of_getElem? (i := 392) rfl, rfl⟩, List.mem_filter.mpr ⟨List.mem_of_getElem? (i := 59) rfl, rfl⟩, ⟨by decide, by decide⟩, by decide +kernel, List.mem_filter.mpr ⟨List.mem_of_getElem? (i := 391) rfl, rfl⟩⟩
theorem d_La_cut_0 : decode b_La_cut 0 = .ok (.aload_n 2, 1) := by decide +kernel
theorem d_La_cut_1 : decode b_La_cut 1 = .ok (.iconst 0, 1) := by decide +kernel
theorem d_La_cut_2 : decode b_La_cut 2 = .ok (.aload_n 0, 1) := by decide +kernel
theorem d_La_cut_3 : decode b_La_cut 3 = .ok (.iload_n 1, 1) := by decide +kernel
theorem d_La_cut_4 : decode b_La_cut 4 = .ok (.invokevirtual 17, 3) := by decide +kernel
theorem d_La_cut_7 : decode b_La_cut 7 = .ok (.i2l, 1) := by decide +kernel
theorem d_La_cut_8 : decode b_La_cut 8 = .ok (.lastore, 1) := by decide +kernel
theorem d_La_cut_9 : decode b_La_cut 9 = .ok (.goto 6, 3) := by decide +kernel
theorem d_La_cut_12 : decode b_La_cut 12 = .ok (.astore_n 3, 1) := by decide +kernel
theorem d_La_cut_13 : decode b_La_cut 13 = .ok (.iconst 1, 1) := by decide +kernel
theorem d_La_cut_14 : decode b_La_cut 14 = .ok (.ireturn, 1) := by decide +kernel
theorem d_La_cut_15 : decode b_La_cut 15 = .ok (.iconst 0, 1) := by decide +kernel
theorem d_La_cut_16 : decode b_La_cut 16 = .ok (.ireturn, 1) := by decide +kernel
abbrev b_La_take : ByteArray := method_5_code
abbrev y_La_take : MethodName := ⟨"CharOutlinesLaw", "take", "(LCharOutlines;I[J)I"⟩
set_option maxRecDepth 100000 in
theorem cal_La_take : CalSW gd_tbl y_La_take b_La_take 4 (some .int) [(0, 9, 12, 15)] 3 := ⟨List.mem_filter.mpr ⟨List.mem_of_getElem? (i := 404) rfl, rfl⟩, List.mem_filter.mpr ⟨List.mem_of_getElem? (i := 59) rfl, rfl⟩, ⟨by decide, by decide⟩, by decide +kernel, List.mem_filter.mpr ⟨List.mem_of_getElem? (i := 403) rfl, rfl⟩⟩
theorem d_La_take_0 : decode b_La_take 0 = .ok (.aload_n 2, 1) := by decide +kernel
theorem d_La_take_1 : decode b_La_take 1 = .ok (.iconst 0, 1) := by decide +kernel
theorem d_La_take_2 : decode b_La_take 2 = .ok (.aload_n 0, 1) := by decide +kernel
theorem d_La_take_3 : decode b_La_take 3 = .ok (.iload_n 1, 1) := by decide +kernel
theorem d_La_take_4 : decode b_La_take 4 = .ok (.invokevirtual 21, 3) := by decide +kernel
theorem d_La_take_7 : decode b_La_take 7 = .ok (.i2l, 1) := by decide +kernel
theorem d_La_take_8 : decode b_La_take 8 = .ok (.lastore, 1) := by decide +kernel
theorem d_La_take_9 : decode b_La_take 9 = .ok (.goto 6, 3) := by decide +kernel
theorem d_La_take_12 : decode b_La_take 12 = .ok (.astore_n 3, 1) := by decide +kernel
theorem d_La_take_13 : decode b_La_take 13 = .ok (.iconst 1, 1) := by decide +kernel
theorem d_La_take_14 : decode b_La_take 14 = .ok (.ireturn, 1) := by decide +kernel
theorem d_La_take_15 : decode b_La_take 15 = .ok (.iconst 0, 1) := by decide +kernel
theorem d_La_take_16 : decode b_La_take 16 = .ok (.ireturn, 1) := by decide +kernel
abbrev b_La_run : ByteArray := method_6_code
abbrev y_La_run : MethodName := ⟨"CharOutlinesLaw", "run", "(LCharOutlines;I[J)I"⟩
set_option maxRecDepth 100000 in
theorem cal_La_run : CalSW gd_tbl y_La_run b_La_run 4 (some .int) [(0, 9, 12, 13)] 3 := ⟨List.mem_filter.mpr ⟨List.mem_of_getElem? (i := 445) rfl, rfl⟩, List.mem_filter.mpr ⟨List.mem_of_getElem? (i := 59) rfl, rfl⟩, ⟨by decide, by decide⟩, by decide +kernel, List.mem_filter.mpr ⟨List.mem_of_getElem? (i := 444) rfl, rfl⟩⟩
theorem d_La_run_0 : decode b_La_run 0 = .ok (.aload_n 2, 1) := by decide +kernel
theorem d_La_run_1 : decode b_La_run 1 = .ok (.iconst 0, 1) := by decide +kernel
theorem d_La_run_2 : decode b_La_run 2 = .ok (.aload_n 0, 1) := by decide +kernel
theorem d_La_run_3 : decode b_La_run 3 = .ok (.iload_n 1, 1) := by decide +kernel
theorem d_La_run_4 : decode b_La_run 4 = .ok (.invokevirtual 24, 3) := by decide +kernel
theorem d_La_run_7 : decode b_La_run 7 = .ok (.i2l, 1) := by decide +kernel
theorem d_La_run_8 : decode b_La_run 8 = .ok (.lastore, 1) := by decide +kernel
theorem d_La_run_9 : decode b_La_run 9 = .ok (.goto 6, 3) := by decide +kernel
theorem d_La_run_12 : decode b_La_run 12 = .ok (.astore_n 3, 1) := by decide +kernel
theorem d_La_run_13 : decode b_La_run 13 = .ok (.iconst 1, 1) := by decide +kernel
theorem d_La_run_14 : decode b_La_run 14 = .ok (.ireturn, 1) := by decide +kernel
theorem d_La_run_15 : decode b_La_run 15 = .ok (.iconst 0, 1) := by decide +kernel
theorem d_La_run_16 : decode b_La_run 16 = .ok (.ireturn, 1) := by decide +kernel
abbrev b_La_mark : ByteArray := method_7_code
abbrev y_La_mark : MethodName := ⟨"CharOutlinesLaw", "mark", "(LCharOutlines;II[J)I"⟩
set_option maxRecDepth 100000 in
theorem cal_La_mark : CalSW gd_tbl y_La_mark b_La_mark 5 (some .int) [(0, 10, 13, 13)] 4 := ⟨List.mem_filter.mpr ⟨List.mem_of_getElem? (i := 717) rfl, rfl⟩, List.mem_filter.mpr ⟨List.mem_of_getElem? (i := 59) rfl, rfl⟩, ⟨by decide, by decide⟩, by decide +kernel, List.mem_filter.mpr ⟨List.mem_of_getElem? (i := 716) rfl, rfl⟩⟩
theorem d_La_mark_0 : decode b_La_mark 0 = .ok (.aload_n 3, 1) := by decide +kernel
theorem d_La_mark_1 : decode b_La_mark 1 = .ok (.iconst 0, 1) := by decide +kernel
theorem d_La_mark_2 : decode b_La_mark 2 = .ok (.aload_n 0, 1) := by decide +kernel
theorem d_La_mark_3 : decode b_La_mark 3 = .ok (.iload_n 1, 1) := by decide +kernel
theorem d_La_mark_4 : decode b_La_mark 4 = .ok (.iload_n 2, 1) := by decide +kernel
theorem d_La_mark_5 : decode b_La_mark 5 = .ok (.invokevirtual 27, 3) := by decide +kernel
theorem d_La_mark_8 : decode b_La_mark 8 = .ok (.i2l, 1) := by decide +kernel
theorem d_La_mark_9 : decode b_La_mark 9 = .ok (.lastore, 1) := by decide +kernel
theorem d_La_mark_10 : decode b_La_mark 10 = .ok (.goto 7, 3) := by decide +kernel
theorem d_La_mark_13 : decode b_La_mark 13 = .ok (.astore 4, 2) := by decide +kernel
theorem d_La_mark_15 : decode b_La_mark 15 = .ok (.iconst 1, 1) := by decide +kernel
theorem d_La_mark_16 : decode b_La_mark 16 = .ok (.ireturn, 1) := by decide +kernel
theorem d_La_mark_17 : decode b_La_mark 17 = .ok (.iconst 0, 1) := by decide +kernel
theorem d_La_mark_18 : decode b_La_mark 18 = .ok (.ireturn, 1) := by decide +kernel
abbrev b_La_count : ByteArray := method_8_code
abbrev y_La_count : MethodName := ⟨"CharOutlinesLaw", "count", "(LCharOutlines;I[J)I"⟩
set_option maxRecDepth 100000 in
theorem cal_La_count : CalSW gd_tbl y_La_count b_La_count 4 (some .int) [(0, 9, 12, 15)] 3 := ⟨List.mem_filter.mpr ⟨List.mem_of_getElem? (i := 738) rfl, rfl⟩, List.mem_filter.mpr ⟨List.mem_of_getElem? (i := 59) rfl, rfl⟩, ⟨by decide, by decide⟩, by decide +kernel, List.mem_filter.mpr ⟨List.mem_of_getElem? (i := 737) rfl, rfl⟩⟩
theorem d_La_count_0 : decode b_La_count 0 = .ok (.aload_n 2, 1) := by decide +kernel
theorem d_La_count_1 : decode b_La_count 1 = .ok (.iconst 0, 1) := by decide +kernel
theorem d_La_count_2 : decode b_La_count 2 = .ok (.aload_n 0, 1) := by decide +kernel
theorem d_La_count_3 : decode b_La_count 3 = .ok (.iload_n 1, 1) := by decide +kernel
theorem d_La_count_4 : decode b_La_count 4 = .ok (.invokevirtual 30, 3) := by decide +kernel
theorem d_La_count_7 : decode b_La_count 7 = .ok (.i2l, 1) := by decide +kernel
theorem d_La_count_8 : decode b_La_count 8 = .ok (.lastore, 1) := by decide +kernel
theorem d_La_count_9 : decode b_La_count 9 = .ok (.goto 6, 3) := by decide +kernel
theorem d_La_count_12 : decode b_La_count 12 = .ok (.astore_n 3, 1) := by decide +kernel
theorem d_La_count_13 : decode b_La_count 13 = .ok (.iconst 1, 1) := by decide +kernel
theorem d_La_count_14 : decode b_La_count 14 = .ok (.ireturn, 1) := by decide +kernel
theorem d_La_count_15 : decode b_La_count 15 = .ok (.iconst 0, 1) := by decide +kernel
theorem d_La_count_16 : decode b_La_count 16 = .ok (.ireturn, 1) := by decide +kernel
set_option maxRecDepth 100000 in
theorem cl_La_13 : (Jvm.Cond.classLink "CharOutlinesLaw" (13 : Nat) "java/lang/IndexOutOfBoundsException") ∈ gd_tbl := List.mem_filter.mpr ⟨List.mem_of_getElem? (i := 294) rfl, rfl⟩
set_option maxRecDepth 100000 in
theorem cl_La_15 : (Jvm.Cond.classLink "CharOutlinesLaw" (15 : Nat) "java/lang/IllegalArgumentException") ∈ gd_tbl := List.mem_filter.mpr ⟨List.mem_of_getElem? (i := 295) rfl, rfl⟩
set_option maxRecDepth 100000 in
theorem ml_La_17 : (Jvm.Cond.methodLink "CharOutlinesLaw" (17 : Nat) ({ cls := "CharOutlines", name := "cut", desc := "(I)I" } : Jvm.MethodName)) ∈ gd_tbl := List.mem_filter.mpr ⟨List.mem_of_getElem? (i := 393) rfl, rfl⟩
set_option maxRecDepth 100000 in
theorem ml_La_21 : (Jvm.Cond.methodLink "CharOutlinesLaw" (21 : Nat) ({ cls := "CharOutlines", name := "take", desc := "(I)I" } : Jvm.MethodName)) ∈ gd_tbl := List.mem_filter.mpr ⟨List.mem_of_getElem? (i := 405) rfl, rfl⟩
set_option maxRecDepth 100000 in
theorem ml_La_24 : (Jvm.Cond.methodLink "CharOutlinesLaw" (24 : Nat) ({ cls := "CharOutlines", name := "run", desc := "(I)I" } : Jvm.MethodName)) ∈ gd_tbl := List.mem_filter.mpr ⟨List.mem_of_getElem? (i := 446) rfl, rfl⟩
set_option maxRecDepth 100000 in
theorem ml_La_27 : (Jvm.Cond.methodLink "CharOutlinesLaw" (27 : Nat) ({ cls := "CharOutlines", name := "mark", desc := "(II)I" } : Jvm.MethodName)) ∈ gd_tbl := List.mem_filter.mpr ⟨List.mem_of_getElem? (i := 718) rfl, rfl⟩
set_option maxRecDepth 100000 in
theorem ml_La_30 : (Jvm.Cond.methodLink "CharOutlinesLaw" (30 : Nat) ({ cls := "CharOutlines", name := "count", desc := "(I)I" } : Jvm.MethodName)) ∈ gd_tbl := List.mem_filter.mpr ⟨List.mem_of_getElem? (i := 739) rfl, rfl⟩
set_option maxRecDepth 100000 in
theorem ml_La_7 : (Jvm.Cond.methodLink "CharOutlinesLaw" (7 : Nat) ({ cls := "CharOutlines", name := "put", desc := "(II)I" } : Jvm.MethodName)) ∈ gd_tbl := List.mem_filter.mpr ⟨List.mem_of_getElem? (i := 296) rfl, rfl⟩
set_option maxHeartbeats 1000000 in
set_option maxRecDepth 100000 in
theorem h_put (l : Launch) (D : va_G) (cB cI cJ : ClassId) (ad : Nat → Nat) (o : Nat) (fs : List Value) (wt : va_W) (x1 x2 : Int32) (rm : Room) (post : Int32 → va_W → Nat → Nat → Prop) (px : String → Prop) (hM : TrX l D classes (TY cB cI cJ) gd_tbl nx_tbl str_tbl ad y_CO_put b_CO_put 3 (some .int) rm [.ref o, .int x1, .int x2] ((o, .inr (7, fs)) :: wt) (pI post) px) (hpx : (∀ X, px X → X = "java/lang/IndexOutOfBoundsException" ∨ X = "java/lang/IllegalArgumentException")) (out : Nat) (go : Nat → Int64) :
    TrW l D classes (TY cB cI cJ) gd_tbl nx_tbl str_tbl ad y_La_put b_La_put 5 (some .int) [(0, 10, 13, 13), (0, 10, 17, 15)] ({ frames := rm.frames + 1, cells := rm.cells, slots := rm.slots, locals := 8 + (3 + 11) + rm.locals }) [.ref o, .int x1, .int x2, .ref out] (cO out cJ go :: ((o, .inr (7, fs)) :: wt))
      (pI (fun r w k n => (∃ q w1, post q w1 k n ∧ r = 0 ∧ w = cO out cJ (vp_updL go 0 q.toInt64) :: w1) ∨ (∃ X, px X ∧ r = (if X = "java/lang/IndexOutOfBoundsException" then 1 else 2) ∧ w = cO out cJ go :: ((o, .inr (7, fs)) :: wt) ∧ k = 1 ∧ n = 6))) := by
  refine TrW.intro (by decide +kernel) nx_ok (Nat.le_of_ble_eq_true rfl) ?_
  intro p_ e_ s_ m_ args_ below_ meth_ c_ A_ ls had hx hb hml hown hts hr hlk hnm hZ hP hD hS hl hXU htab
  have hl : lv_has ls 5 [(0, .ref o), (1, .int x1), (2, .int x2), (3, .ref out)] := hl
  refine lv_aload_n hx hb d_La_put_0 rfl (lv_at hl 3 rfl) ?_
  refine lv_iconst (v := 0) hx hb d_La_put_1 (by decide) ?_
  refine lv_aload_n hx hb d_La_put_2 rfl (lv_at hl 0 rfl) ?_
  refine lv_iload_n hx hb d_La_put_3 rfl (lv_at hl 1 rfl) ?_
  refine lv_iload_n hx hb d_La_put_4 rfl (lv_at hl 2 rfl) ?_
  refine x_callV (wr := [cO out cJ go]) (As := [.int x1, .int x2]) (rest := [.int 0, .ref out]) ⟨hx, hb, hml, hown, hts⟩ gd_good hM cal_CO_put ml_La_7 ⟨Nat.le_refl _, Nat.le_refl _⟩ hZ hXU hP hD hS (cut_app [cO out cJ go] ((o, .inr (7, fs)) :: wt)) 1 (ci := 7) rfl rfl rfl rfl hl.1 rfl (Nat.le_of_ble_eq_true rfl) d_La_put_5 ⟨by simp, by simp⟩ (fun X => if X = "java/lang/IndexOutOfBoundsException" then 13 else 17) (fun X hX => by
    rcases hpx X hX with rfl | rfl
    · rw [if_pos rfl]; exact hnd1 had hown htab (hts _ cl_La_13) (hZ.2.1 _ (List.mem_of_getElem? (i := 8) rfl)) (by decide) (by decide)
    · rw [if_neg (by decide)]; exact hnd2 had hown htab (hts _ cl_La_13) (hts _ cl_La_15) (hZ.2.1 _ (List.mem_of_getElem? (i := 15) rfl)) hXU.2.2.2 (by decide) (by decide) (by decide) (by decide)) (fun v w1 k n H locs hq hP hD hS => ?_) (fun X x_ H hX hP hS => ?_)
  · obtain ⟨q, rfl, hq⟩ := hq
    refine W.eq (g2 := F0 m_ 8 ls [.int q, .int 0, .ref out]) rfl ?_
    refine lv_i2l hx hb d_La_put_8 rfl ?_
    refine va_last hx hb hZ.1 hP hD hS 0 2 rfl rfl (show vp_in (nI 0) 1 from vp_in_nI (by decide) (by decide)) d_La_put_9 (fun H locs hP hD hS => ?_)
    refine lv_goto (tgt := 21) hx hb d_La_put_10 (by decide) ?_
    refine lv_iconst (v := 0) hx hb d_La_put_21 (by decide) ?_
    refine W.widen (k := 0 + k) (n := 0 + n) (Nat.le_refl _) (Nat.le_refl _) ?_
    exact t_iret hx hb hr hlk d_La_put_22 (w1 := cO out cJ (vp_updL go 0 q.toInt64) :: w1) hP hD hS ⟨_, rfl, Or.inl ⟨q, w1, by rw [Nat.zero_add, Nat.zero_add]; exact hq, rfl, rfl⟩⟩
  · rcases hpx X hX with rfl | rfl
    · refine W.eq (g2 := F0 m_ 13 ls [.ref x_]) rfl ?_
      refine lv_astore (lv' := [(4, .ref x_), (0, .ref o), (1, .int x1), (2, .int x2), (3, .ref out)]) hx hb d_La_put_13 hl (by decide) rfl (fun ls hl => ?_)
      refine lv_iconst (v := 1) hx hb d_La_put_15 (by decide) ?_
      exact t_iret hx hb hr hlk d_La_put_16 hP hD hS ⟨_, rfl, Or.inr ⟨_, hX, rfl, rfl, rfl, rfl⟩⟩
    · refine W.eq (g2 := F0 m_ 17 ls [.ref x_]) (by rw [if_neg (by decide)]) ?_
      refine lv_astore (lv' := [(4, .ref x_), (0, .ref o), (1, .int x1), (2, .int x2), (3, .ref out)]) hx hb d_La_put_17 hl (by decide) rfl (fun ls hl => ?_)
      refine lv_iconst (v := 2) hx hb d_La_put_19 (by decide) ?_
      exact t_iret hx hb hr hlk d_La_put_20 hP hD hS ⟨_, rfl, Or.inr ⟨_, hX, (by rw [if_neg (by decide)]), rfl, rfl, rfl⟩⟩
set_option maxHeartbeats 1000000 in
set_option maxRecDepth 100000 in
theorem h_cut (l : Launch) (D : va_G) (cB cI cJ : ClassId) (ad : Nat → Nat) (o : Nat) (fs : List Value) (wt : va_W) (x1 : Int32) (rm : Room) (post : Int32 → va_W → Nat → Nat → Prop) (px : String → Prop) (hM : TrX l D classes (TY cB cI cJ) gd_tbl nx_tbl str_tbl ad y_CO_cut b_CO_cut 2 (some .int) rm [.ref o, .int x1] ((o, .inr (7, fs)) :: wt) (pI post) px) (hpx : (∀ X, px X → X = "java/lang/IllegalArgumentException")) (out : Nat) (go : Nat → Int64) :
    TrW l D classes (TY cB cI cJ) gd_tbl nx_tbl str_tbl ad y_La_cut b_La_cut 4 (some .int) [(0, 9, 12, 15)] ({ frames := rm.frames + 1, cells := rm.cells, slots := rm.slots, locals := 8 + (2 + 11) + rm.locals }) [.ref o, .int x1, .ref out] (cO out cJ go :: ((o, .inr (7, fs)) :: wt))
      (pI (fun r w k n => (∃ q w1, post q w1 k n ∧ r = 0 ∧ w = cO out cJ (vp_updL go 0 q.toInt64) :: w1) ∨ (∃ X, px X ∧ r = 1 ∧ w = cO out cJ go :: ((o, .inr (7, fs)) :: wt) ∧ k = 1 ∧ n = 6))) := by
  refine TrW.intro (by decide +kernel) nx_ok (Nat.le_of_ble_eq_true rfl) ?_
  intro p_ e_ s_ m_ args_ below_ meth_ c_ A_ ls had hx hb hml hown hts hr hlk hnm hZ hP hD hS hl hXU htab
  have hl : lv_has ls 4 [(0, .ref o), (1, .int x1), (2, .ref out)] := hl
  refine lv_aload_n hx hb d_La_cut_0 rfl (lv_at hl 2 rfl) ?_
  refine lv_iconst (v := 0) hx hb d_La_cut_1 (by decide) ?_
  refine lv_aload_n hx hb d_La_cut_2 rfl (lv_at hl 0 rfl) ?_
  refine lv_iload_n hx hb d_La_cut_3 rfl (lv_at hl 1 rfl) ?_
  refine x_callV (wr := [cO out cJ go]) (As := [.int x1]) (rest := [.int 0, .ref out]) ⟨hx, hb, hml, hown, hts⟩ gd_good hM cal_CO_cut ml_La_17 ⟨Nat.le_refl _, Nat.le_refl _⟩ hZ hXU hP hD hS (cut_app [cO out cJ go] ((o, .inr (7, fs)) :: wt)) 1 (ci := 7) rfl rfl rfl rfl hl.1 rfl (Nat.le_of_ble_eq_true rfl) d_La_cut_4 ⟨by simp, by simp⟩ (fun _ => 12) (fun X hX => by obtain rfl := hpx X hX; exact hnd1 had hown htab (hts _ cl_La_15) (hZ.2.1 _ (List.mem_of_getElem? (i := 15) rfl)) (by decide) (by decide)) (fun v w1 k n H locs hq hP hD hS => ?_) (fun X x_ H hX hP hS => ?_)
  · obtain ⟨q, rfl, hq⟩ := hq
    refine W.eq (g2 := F0 m_ 7 ls [.int q, .int 0, .ref out]) rfl ?_
    refine lv_i2l hx hb d_La_cut_7 rfl ?_
    refine va_last hx hb hZ.1 hP hD hS 0 2 rfl rfl (show vp_in (nI 0) 1 from vp_in_nI (by decide) (by decide)) d_La_cut_8 (fun H locs hP hD hS => ?_)
    refine lv_goto (tgt := 15) hx hb d_La_cut_9 (by decide) ?_
    refine lv_iconst (v := 0) hx hb d_La_cut_15 (by decide) ?_
    refine W.widen (k := 0 + k) (n := 0 + n) (Nat.le_refl _) (Nat.le_refl _) ?_
    exact t_iret hx hb hr hlk d_La_cut_16 (w1 := cO out cJ (vp_updL go 0 q.toInt64) :: w1) hP hD hS ⟨_, rfl, Or.inl ⟨q, w1, by rw [Nat.zero_add, Nat.zero_add]; exact hq, rfl, rfl⟩⟩
  · refine W.eq (g2 := F0 m_ 12 ls [.ref x_]) rfl ?_
    refine lv_astore_n (lv' := [(3, .ref x_), (0, .ref o), (1, .int x1), (2, .ref out)]) hx hb d_La_cut_12 rfl hl (by decide) rfl (fun ls hl => ?_)
    refine lv_iconst (v := 1) hx hb d_La_cut_13 (by decide) ?_
    exact t_iret hx hb hr hlk d_La_cut_14 hP hD hS ⟨_, rfl, Or.inr ⟨_, hX, rfl, rfl, rfl, rfl⟩⟩
set_option maxHeartbeats 1000000 in
set_option maxRecDepth 100000 in
theorem h_take (l : Launch) (D : va_G) (cB cI cJ : ClassId) (ad : Nat → Nat) (o : Nat) (fs : List Value) (wt : va_W) (x1 : Int32) (rm : Room) (post : Int32 → va_W → Nat → Nat → Prop) (px : String → Prop) (hM : TrX l D classes (TY cB cI cJ) gd_tbl nx_tbl str_tbl ad y_CO_take b_CO_take 2 (some .int) rm [.ref o, .int x1] ((o, .inr (7, fs)) :: wt) (pI post) px) (hpx : (∀ X, px X → X = "java/lang/IllegalArgumentException")) (out : Nat) (go : Nat → Int64) :
    TrW l D classes (TY cB cI cJ) gd_tbl nx_tbl str_tbl ad y_La_take b_La_take 4 (some .int) [(0, 9, 12, 15)] ({ frames := rm.frames + 1, cells := rm.cells, slots := rm.slots, locals := 8 + (2 + 11) + rm.locals }) [.ref o, .int x1, .ref out] (cO out cJ go :: ((o, .inr (7, fs)) :: wt))
      (pI (fun r w k n => (∃ q w1, post q w1 k n ∧ r = 0 ∧ w = cO out cJ (vp_updL go 0 q.toInt64) :: w1) ∨ (∃ X, px X ∧ r = 1 ∧ w = cO out cJ go :: ((o, .inr (7, fs)) :: wt) ∧ k = 1 ∧ n = 6))) := by
  refine TrW.intro (by decide +kernel) nx_ok (Nat.le_of_ble_eq_true rfl) ?_
  intro p_ e_ s_ m_ args_ below_ meth_ c_ A_ ls had hx hb hml hown hts hr hlk hnm hZ hP hD hS hl hXU htab
  have hl : lv_has ls 4 [(0, .ref o), (1, .int x1), (2, .ref out)] := hl
  refine lv_aload_n hx hb d_La_take_0 rfl (lv_at hl 2 rfl) ?_
  refine lv_iconst (v := 0) hx hb d_La_take_1 (by decide) ?_
  refine lv_aload_n hx hb d_La_take_2 rfl (lv_at hl 0 rfl) ?_
  refine lv_iload_n hx hb d_La_take_3 rfl (lv_at hl 1 rfl) ?_
  refine x_callV (wr := [cO out cJ go]) (As := [.int x1]) (rest := [.int 0, .ref out]) ⟨hx, hb, hml, hown, hts⟩ gd_good hM cal_CO_take ml_La_21 ⟨Nat.le_refl _, Nat.le_refl _⟩ hZ hXU hP hD hS (cut_app [cO out cJ go] ((o, .inr (7, fs)) :: wt)) 1 (ci := 7) rfl rfl rfl rfl hl.1 rfl (Nat.le_of_ble_eq_true rfl) d_La_take_4 ⟨by simp, by simp⟩ (fun _ => 12) (fun X hX => by obtain rfl := hpx X hX; exact hnd1 had hown htab (hts _ cl_La_15) (hZ.2.1 _ (List.mem_of_getElem? (i := 15) rfl)) (by decide) (by decide)) (fun v w1 k n H locs hq hP hD hS => ?_) (fun X x_ H hX hP hS => ?_)
  · obtain ⟨q, rfl, hq⟩ := hq
    refine W.eq (g2 := F0 m_ 7 ls [.int q, .int 0, .ref out]) rfl ?_
    refine lv_i2l hx hb d_La_take_7 rfl ?_
    refine va_last hx hb hZ.1 hP hD hS 0 2 rfl rfl (show vp_in (nI 0) 1 from vp_in_nI (by decide) (by decide)) d_La_take_8 (fun H locs hP hD hS => ?_)
    refine lv_goto (tgt := 15) hx hb d_La_take_9 (by decide) ?_
    refine lv_iconst (v := 0) hx hb d_La_take_15 (by decide) ?_
    refine W.widen (k := 0 + k) (n := 0 + n) (Nat.le_refl _) (Nat.le_refl _) ?_
    exact t_iret hx hb hr hlk d_La_take_16 (w1 := cO out cJ (vp_updL go 0 q.toInt64) :: w1) hP hD hS ⟨_, rfl, Or.inl ⟨q, w1, by rw [Nat.zero_add, Nat.zero_add]; exact hq, rfl, rfl⟩⟩
  · refine W.eq (g2 := F0 m_ 12 ls [.ref x_]) rfl ?_
    refine lv_astore_n (lv' := [(3, .ref x_), (0, .ref o), (1, .int x1), (2, .ref out)]) hx hb d_La_take_12 rfl hl (by decide) rfl (fun ls hl => ?_)
    refine lv_iconst (v := 1) hx hb d_La_take_13 (by decide) ?_
    exact t_iret hx hb hr hlk d_La_take_14 hP hD hS ⟨_, rfl, Or.inr ⟨_, hX, rfl, rfl, rfl, rfl⟩⟩
set_option maxHeartbeats 1000000 in
set_option maxRecDepth 100000 in
theorem h_run (l : Launch) (D : va_G) (cB cI cJ : ClassId) (ad : Nat → Nat) (o : Nat) (fs : List Value) (wt : va_W) (x1 : Int32) (rm : Room) (post : Int32 → va_W → Nat → Nat → Prop) (px : String → Prop) (hM : TrX l D classes (TY cB cI cJ) gd_tbl nx_tbl str_tbl ad y_CO_run b_CO_run 2 (some .int) rm [.ref o, .int x1] ((o, .inr (7, fs)) :: wt) (pI post) px) (hpx : (∀ X, px X → X = "java/lang/IndexOutOfBoundsException")) (out : Nat) (go : Nat → Int64) :
    TrW l D classes (TY cB cI cJ) gd_tbl nx_tbl str_tbl ad y_La_run b_La_run 4 (some .int) [(0, 9, 12, 13)] ({ frames := rm.frames + 1, cells := rm.cells, slots := rm.slots, locals := 8 + (2 + 11) + rm.locals }) [.ref o, .int x1, .ref out] (cO out cJ go :: ((o, .inr (7, fs)) :: wt))
      (pI (fun r w k n => (∃ q w1, post q w1 k n ∧ r = 0 ∧ w = cO out cJ (vp_updL go 0 q.toInt64) :: w1) ∨ (∃ X, px X ∧ r = 1 ∧ w = cO out cJ go :: ((o, .inr (7, fs)) :: wt) ∧ k = 1 ∧ n = 6))) := by
  refine TrW.intro (by decide +kernel) nx_ok (Nat.le_of_ble_eq_true rfl) ?_
  intro p_ e_ s_ m_ args_ below_ meth_ c_ A_ ls had hx hb hml hown hts hr hlk hnm hZ hP hD hS hl hXU htab
  have hl : lv_has ls 4 [(0, .ref o), (1, .int x1), (2, .ref out)] := hl
  refine lv_aload_n hx hb d_La_run_0 rfl (lv_at hl 2 rfl) ?_
  refine lv_iconst (v := 0) hx hb d_La_run_1 (by decide) ?_
  refine lv_aload_n hx hb d_La_run_2 rfl (lv_at hl 0 rfl) ?_
  refine lv_iload_n hx hb d_La_run_3 rfl (lv_at hl 1 rfl) ?_
  refine x_callV (wr := [cO out cJ go]) (As := [.int x1]) (rest := [.int 0, .ref out]) ⟨hx, hb, hml, hown, hts⟩ gd_good hM cal_CO_run ml_La_24 ⟨Nat.le_refl _, Nat.le_refl _⟩ hZ hXU hP hD hS (cut_app [cO out cJ go] ((o, .inr (7, fs)) :: wt)) 1 (ci := 7) rfl rfl rfl rfl hl.1 rfl (Nat.le_of_ble_eq_true rfl) d_La_run_4 ⟨by simp, by simp⟩ (fun _ => 12) (fun X hX => by obtain rfl := hpx X hX; exact hnd1 had hown htab (hts _ cl_La_13) (hZ.2.1 _ (List.mem_of_getElem? (i := 8) rfl)) (by decide) (by decide)) (fun v w1 k n H locs hq hP hD hS => ?_) (fun X x_ H hX hP hS => ?_)
  · obtain ⟨q, rfl, hq⟩ := hq
    refine W.eq (g2 := F0 m_ 7 ls [.int q, .int 0, .ref out]) rfl ?_
    refine lv_i2l hx hb d_La_run_7 rfl ?_
    refine va_last hx hb hZ.1 hP hD hS 0 2 rfl rfl (show vp_in (nI 0) 1 from vp_in_nI (by decide) (by decide)) d_La_run_8 (fun H locs hP hD hS => ?_)
    refine lv_goto (tgt := 15) hx hb d_La_run_9 (by decide) ?_
    refine lv_iconst (v := 0) hx hb d_La_run_15 (by decide) ?_
    refine W.widen (k := 0 + k) (n := 0 + n) (Nat.le_refl _) (Nat.le_refl _) ?_
    exact t_iret hx hb hr hlk d_La_run_16 (w1 := cO out cJ (vp_updL go 0 q.toInt64) :: w1) hP hD hS ⟨_, rfl, Or.inl ⟨q, w1, by rw [Nat.zero_add, Nat.zero_add]; exact hq, rfl, rfl⟩⟩
  · refine W.eq (g2 := F0 m_ 12 ls [.ref x_]) rfl ?_
    refine lv_astore_n (lv' := [(3, .ref x_), (0, .ref o), (1, .int x1), (2, .ref out)]) hx hb d_La_run_12 rfl hl (by decide) rfl (fun ls hl => ?_)
    refine lv_iconst (v := 1) hx hb d_La_run_13 (by decide) ?_
    exact t_iret hx hb hr hlk d_La_run_14 hP hD hS ⟨_, rfl, Or.inr ⟨_, hX, rfl, rfl, rfl, rfl⟩⟩
set_option maxHeartbeats 1000000 in
set_option maxRecDepth 100000 in
theorem h_mark (l : Launch) (D : va_G) (cB cI cJ : ClassId) (ad : Nat → Nat) (o : Nat) (fs : List Value) (wt : va_W) (x1 x2 : Int32) (rm : Room) (post : Int32 → va_W → Nat → Nat → Prop) (px : String → Prop) (hM : TrX l D classes (TY cB cI cJ) gd_tbl nx_tbl str_tbl ad y_CO_mark b_CO_mark 3 (some .int) rm [.ref o, .int x1, .int x2] ((o, .inr (7, fs)) :: wt) (pI post) px) (hpx : (∀ X, px X → X = "java/lang/IndexOutOfBoundsException")) (out : Nat) (go : Nat → Int64) :
    TrW l D classes (TY cB cI cJ) gd_tbl nx_tbl str_tbl ad y_La_mark b_La_mark 5 (some .int) [(0, 10, 13, 13)] ({ frames := rm.frames + 1, cells := rm.cells, slots := rm.slots, locals := 8 + (3 + 11) + rm.locals }) [.ref o, .int x1, .int x2, .ref out] (cO out cJ go :: ((o, .inr (7, fs)) :: wt))
      (pI (fun r w k n => (∃ q w1, post q w1 k n ∧ r = 0 ∧ w = cO out cJ (vp_updL go 0 q.toInt64) :: w1) ∨ (∃ X, px X ∧ r = 1 ∧ w = cO out cJ go :: ((o, .inr (7, fs)) :: wt) ∧ k = 1 ∧ n = 6))) := by
  refine TrW.intro (by decide +kernel) nx_ok (Nat.le_of_ble_eq_true rfl) ?_
  intro p_ e_ s_ m_ args_ below_ meth_ c_ A_ ls had hx hb hml hown hts hr hlk hnm hZ hP hD hS hl hXU htab
  have hl : lv_has ls 5 [(0, .ref o), (1, .int x1), (2, .int x2), (3, .ref out)] := hl
  refine lv_aload_n hx hb d_La_mark_0 rfl (lv_at hl 3 rfl) ?_
  refine lv_iconst (v := 0) hx hb d_La_mark_1 (by decide) ?_
  refine lv_aload_n hx hb d_La_mark_2 rfl (lv_at hl 0 rfl) ?_
  refine lv_iload_n hx hb d_La_mark_3 rfl (lv_at hl 1 rfl) ?_
  refine lv_iload_n hx hb d_La_mark_4 rfl (lv_at hl 2 rfl) ?_
  refine x_callV (wr := [cO out cJ go]) (As := [.int x1, .int x2]) (rest := [.int 0, .ref out]) ⟨hx, hb, hml, hown, hts⟩ gd_good hM cal_CO_mark ml_La_27 ⟨Nat.le_refl _, Nat.le_refl _⟩ hZ hXU hP hD hS (cut_app [cO out cJ go] ((o, .inr (7, fs)) :: wt)) 1 (ci := 7) rfl rfl rfl rfl hl.1 rfl (Nat.le_of_ble_eq_true rfl) d_La_mark_5 ⟨by simp, by simp⟩ (fun _ => 13) (fun X hX => by obtain rfl := hpx X hX; exact hnd1 had hown htab (hts _ cl_La_13) (hZ.2.1 _ (List.mem_of_getElem? (i := 8) rfl)) (by decide) (by decide)) (fun v w1 k n H locs hq hP hD hS => ?_) (fun X x_ H hX hP hS => ?_)
  · obtain ⟨q, rfl, hq⟩ := hq
    refine W.eq (g2 := F0 m_ 8 ls [.int q, .int 0, .ref out]) rfl ?_
    refine lv_i2l hx hb d_La_mark_8 rfl ?_
    refine va_last hx hb hZ.1 hP hD hS 0 2 rfl rfl (show vp_in (nI 0) 1 from vp_in_nI (by decide) (by decide)) d_La_mark_9 (fun H locs hP hD hS => ?_)
    refine lv_goto (tgt := 17) hx hb d_La_mark_10 (by decide) ?_
    refine lv_iconst (v := 0) hx hb d_La_mark_17 (by decide) ?_
    refine W.widen (k := 0 + k) (n := 0 + n) (Nat.le_refl _) (Nat.le_refl _) ?_
    exact t_iret hx hb hr hlk d_La_mark_18 (w1 := cO out cJ (vp_updL go 0 q.toInt64) :: w1) hP hD hS ⟨_, rfl, Or.inl ⟨q, w1, by rw [Nat.zero_add, Nat.zero_add]; exact hq, rfl, rfl⟩⟩
  · refine W.eq (g2 := F0 m_ 13 ls [.ref x_]) rfl ?_
    refine lv_astore (lv' := [(4, .ref x_), (0, .ref o), (1, .int x1), (2, .int x2), (3, .ref out)]) hx hb d_La_mark_13 hl (by decide) rfl (fun ls hl => ?_)
    refine lv_iconst (v := 1) hx hb d_La_mark_15 (by decide) ?_
    exact t_iret hx hb hr hlk d_La_mark_16 hP hD hS ⟨_, rfl, Or.inr ⟨_, hX, rfl, rfl, rfl, rfl⟩⟩
set_option maxHeartbeats 1000000 in
set_option maxRecDepth 100000 in
theorem h_count (l : Launch) (D : va_G) (cB cI cJ : ClassId) (ad : Nat → Nat) (o : Nat) (fs : List Value) (wt : va_W) (x1 : Int32) (rm : Room) (post : Int32 → va_W → Nat → Nat → Prop) (px : String → Prop) (hM : TrX l D classes (TY cB cI cJ) gd_tbl nx_tbl str_tbl ad y_CO_count b_CO_count 2 (some .int) rm [.ref o, .int x1] ((o, .inr (7, fs)) :: wt) (pI post) px) (hpx : (∀ X, px X → X = "java/lang/IllegalArgumentException")) (out : Nat) (go : Nat → Int64) :
    TrW l D classes (TY cB cI cJ) gd_tbl nx_tbl str_tbl ad y_La_count b_La_count 4 (some .int) [(0, 9, 12, 15)] ({ frames := rm.frames + 1, cells := rm.cells, slots := rm.slots, locals := 8 + (2 + 11) + rm.locals }) [.ref o, .int x1, .ref out] (cO out cJ go :: ((o, .inr (7, fs)) :: wt))
      (pI (fun r w k n => (∃ q w1, post q w1 k n ∧ r = 0 ∧ w = cO out cJ (vp_updL go 0 q.toInt64) :: w1) ∨ (∃ X, px X ∧ r = 1 ∧ w = cO out cJ go :: ((o, .inr (7, fs)) :: wt) ∧ k = 1 ∧ n = 6))) := by
  refine TrW.intro (by decide +kernel) nx_ok (Nat.le_of_ble_eq_true rfl) ?_
  intro p_ e_ s_ m_ args_ below_ meth_ c_ A_ ls had hx hb hml hown hts hr hlk hnm hZ hP hD hS hl hXU htab
  have hl : lv_has ls 4 [(0, .ref o), (1, .int x1), (2, .ref out)] := hl
  refine lv_aload_n hx hb d_La_count_0 rfl (lv_at hl 2 rfl) ?_
  refine lv_iconst (v := 0) hx hb d_La_count_1 (by decide) ?_
  refine lv_aload_n hx hb d_La_count_2 rfl (lv_at hl 0 rfl) ?_
  refine lv_iload_n hx hb d_La_count_3 rfl (lv_at hl 1 rfl) ?_
  refine x_callV (wr := [cO out cJ go]) (As := [.int x1]) (rest := [.int 0, .ref out]) ⟨hx, hb, hml, hown, hts⟩ gd_good hM cal_CO_count ml_La_30 ⟨Nat.le_refl _, Nat.le_refl _⟩ hZ hXU hP hD hS (cut_app [cO out cJ go] ((o, .inr (7, fs)) :: wt)) 1 (ci := 7) rfl rfl rfl rfl hl.1 rfl (Nat.le_of_ble_eq_true rfl) d_La_count_4 ⟨by simp, by simp⟩ (fun _ => 12) (fun X hX => by obtain rfl := hpx X hX; exact hnd1 had hown htab (hts _ cl_La_15) (hZ.2.1 _ (List.mem_of_getElem? (i := 15) rfl)) (by decide) (by decide)) (fun v w1 k n H locs hq hP hD hS => ?_) (fun X x_ H hX hP hS => ?_)
  · obtain ⟨q, rfl, hq⟩ := hq
    refine W.eq (g2 := F0 m_ 7 ls [.int q, .int 0, .ref out]) rfl ?_
    refine lv_i2l hx hb d_La_count_7 rfl ?_
    refine va_last hx hb hZ.1 hP hD hS 0 2 rfl rfl (show vp_in (nI 0) 1 from vp_in_nI (by decide) (by decide)) d_La_count_8 (fun H locs hP hD hS => ?_)
    refine lv_goto (tgt := 15) hx hb d_La_count_9 (by decide) ?_
    refine lv_iconst (v := 0) hx hb d_La_count_15 (by decide) ?_
    refine W.widen (k := 0 + k) (n := 0 + n) (Nat.le_refl _) (Nat.le_refl _) ?_
    exact t_iret hx hb hr hlk d_La_count_16 (w1 := cO out cJ (vp_updL go 0 q.toInt64) :: w1) hP hD hS ⟨_, rfl, Or.inl ⟨q, w1, by rw [Nat.zero_add, Nat.zero_add]; exact hq, rfl, rfl⟩⟩
  · refine W.eq (g2 := F0 m_ 12 ls [.ref x_]) rfl ?_
    refine lv_astore_n (lv' := [(3, .ref x_), (0, .ref o), (1, .int x1), (2, .ref out)]) hx hb d_La_count_12 rfl hl (by decide) rfl (fun ls hl => ?_)
    refine lv_iconst (v := 1) hx hb d_La_count_13 (by decide) ?_
    exact t_iret hx hb hr hlk d_La_count_14 hP hD hS ⟨_, rfl, Or.inr ⟨_, hX, rfl, rfl, rfl, rfl⟩⟩
