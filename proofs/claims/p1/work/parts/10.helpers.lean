theorem hnd1 {l : Launch} {e : Env} {s : State} {m : MethodId} {c : Code} {args : Array Value} {own X : String} {a b h ct pc : Nat} {tl : List ExceptionTableEntry} (had : l.admits e) (hown : s.vm.findClass own = some m.cls) (htab : c.exceptionTable.toList = ⟨a, b, h, ct⟩ :: tl)
    (hcl : (Cond.classLink own ct X).before args s = true) (hca : va_Nw (.castable X X) s) (hcov : covers ⟨a, b, h, ct⟩ pc = true) (h0 : ct ≠ 0) : Hnd e.platform s m.cls c pc X h := by
  have hpl : e.platform.magicAccessors = ({} : Platform).magicAccessors := by rw [had.platform]
  obtain ⟨cx, hcx, hl⟩ := Cond.classLink_spec hown hcl e.platform hpl
  obtain ⟨c3, c4, h3, h4, hasg⟩ := Cond.castable_spec (args := #[]) (s := s) hca
  cases h3.symm.trans h4
  cases h3.symm.trans hcx
  exact ⟨[], _, tl, c3, c3, htab, hcov, rfl, h3, ⟨h0, hl⟩, hasg, fun y hy => by cases hy⟩
theorem hnd2 {l : Launch} {e : Env} {s : State} {m : MethodId} {c : Code} {args : Array Value} {own X Y : String} {a b h ct a2 b2 h2 ct2 pc : Nat} (had : l.admits e) (hown : s.vm.findClass own = some m.cls) (htab : c.exceptionTable.toList = [⟨a, b, h, ct⟩, ⟨a2, b2, h2, ct2⟩])
    (hcl : (Cond.classLink own ct Y).before args s = true) (hcl2 : (Cond.classLink own ct2 X).before args s = true) (hca : va_Nw (.castable X X) s) (hno : va_Nc X Y s) (hcov : covers ⟨a, b, h, ct⟩ pc = true) (hcov2 : covers ⟨a2, b2, h2, ct2⟩ pc = true) (h0 : ct ≠ 0) (h02 : ct2 ≠ 0) : Hnd e.platform s m.cls c pc X h2 := by
  have hpl : e.platform.magicAccessors = ({} : Platform).magicAccessors := by rw [had.platform]
  obtain ⟨cy, hcy, hly⟩ := Cond.classLink_spec hown hcl e.platform hpl
  obtain ⟨cx, hcx, hl⟩ := Cond.classLink_spec hown hcl2 e.platform hpl
  obtain ⟨c3, c4, h3, h4, hasg⟩ := Cond.castable_spec (args := #[]) (s := s) hca
  cases h3.symm.trans h4
  cases h3.symm.trans hcx
  obtain ⟨d1, d2, g1, g2, g3⟩ := hno
  cases h3.symm.trans g1
  cases hcy.symm.trans g2
  exact ⟨[_], _, [], c3, c3, htab, hcov2, rfl, h3, ⟨h02, hl⟩, hasg, fun y hy => by
    rw [List.mem_singleton.mp hy]
    exact ⟨hcov, _, ⟨h0, hly⟩, g3⟩⟩
abbrev b_La_cut : ByteArray := method_4_code
abbrev y_La_cut : MethodName := ⟨"CharOutlinesLaw", "cut", "(LCharOutlines;I[J)I"⟩
set_option maxRecDepth 100000 in
theorem cal_La_cut : CalSW gd_tbl y_La_cut b_La_cut 4 (some .int) [(0, 9, 12, 15)] 3 := ⟨List.mem_filter.mpr ⟨List.mem_of_getElem? (i := 392) rfl, rfl⟩, List.mem_filter.mpr ⟨List.mem_of_getElem? (i := 59) rfl, rfl⟩, ⟨by decide, by decide⟩, by decide +kernel, List.mem_filter.mpr ⟨List.mem_of_getElem? (i := 391) rfl, rfl⟩⟩
theorem d_La_cut_0 : decode b_La_cut 0 = .ok (.aload_n 2, 1) := by decide +kernel
theorem d_La_cut_1 : decode b_La_cut 1 = .ok (.iconst 0, 1) := by decide +kernel
theorem d_La_cut_2 : decode b_La_cut 2 = .ok (.aload_n 0, 1) := by decide +kernel
theorem d_La_cut_3 : decode b_La_cut 3 = .ok (.iload_n 1, 1) := by decide +kernel
theorem d_La_cut_4 : decode b_La_cut 4 = .ok (.invokevirtual 17, 3) := by decide +kernel
theorem d_La_cut_7 : decode b_La_cut 7 = .ok (.i2l, 1) := by decide +kernel
theorem d_La_cut_8 : decode b_La_cut 8 = .ok (.lastore, 1) := by decide +kernel
theorem d_La_cut_9 : decode b_La_cut 9 = .ok (.goto 6, 3) := by decide +kernel
theorem d_La_cut_12 : decode b_La_cut 12 = .ok (.astore_n 3, 1) := by decide +kernel
theorem d_La_cut_13 : decode b_La_cut 13 = .ok (.iconst 1, 1) := by decide +kernel
theorem d_La_cut_14 : decode b_La_cut 14 = .ok (.ireturn, 1) := by decide +kernel
theorem d_La_cut_15 : decode b_La_cut 15 = .ok (.iconst 0, 1) := by decide +kernel
theorem d_La_cut_16 : decode b_La_cut 16 = .ok (.ireturn, 1) := by decide +kernel
set_option maxRecDepth 100000 in
theorem cl_La_15 : (Jvm.Cond.classLink "CharOutlinesLaw" (15 : Nat) "java/lang/IllegalArgumentException") ∈ gd_tbl := List.mem_filter.mpr ⟨List.mem_of_getElem? (i := 295) rfl, rfl⟩
set_option maxRecDepth 100000 in
theorem ml_La_17 : (Jvm.Cond.methodLink "CharOutlinesLaw" (17 : Nat) ({ cls := "CharOutlines", name := "cut", desc := "(I)I" } : Jvm.MethodName)) ∈ gd_tbl := List.mem_filter.mpr ⟨List.mem_of_getElem? (i := 393) rfl, rfl⟩
set_option maxHeartbeats 1000000 in
set_option maxRecDepth 100000 in
theorem c_La_cut (l : Launch) (D : va_G) (cB cI cJ : ClassId) (hfl : l.flags = pinnedFlags ++ [noTraceFlag]) (ad : Nat → Nat) (o h mm a n cap : Nat) (f : Nat → Int32) (y : Int32) (hn : n ≤ cap ∧ cap ≤ 16384) (out : Nat) (go : Nat → Int64) : TrW l D classes (TY cB cI cJ) gd_tbl nx_tbl str_tbl ad y_La_cut b_La_cut 4 (some .int) [(0, 9, 12, 15)] ({ frames := 7, cells := 1, slots := 6, locals := 103 }) [.ref o, .int y, .ref out] [(o, .inr (7, [.ref h, .ref mm])), (h, .inr (0, [.ref a, .int (nI n)])), (a, .inl (cB, cap, .inl f)), (out, .inl (cJ, 1, .inr (.inl go)))] (pI (fun r w k q => (y < 0 ∧ r = 1 ∧ w = [(o, .inr (7, [.ref h, .ref mm])), (h, .inr (0, [.ref a, .int (nI n)])), (a, .inl (cB, cap, .inl f)), (out, .inl (cJ, 1, .inr (.inl go)))]) ∨ ∃ j n' : Nat, y = nI j ∧ j < 2 ^ 31 ∧ n' = min j n ∧ r = 0 ∧ w = [(o, .inr (7, [.ref h, .ref mm])), (h, .inr (0, [.ref a, .int (nI n')])), (a, .inl (cB, cap, .inl f)), (out, .inl (cJ, 1, .inr (.inl (vp_updL go 0 (nI (n - n')).toInt64))))])) := by
  refine TrW.intro (by decide +kernel) nx_ok (Nat.le_of_ble_eq_true rfl) ?_
  intro p_ e_ s_ m_ args_ below_ meth_ c_ A_ ls had hx hb hml hown hts hr hlk hnm hZ hP hD hS hl hXU htab
  have hl : lv_has ls 4 [(0, .ref o), (1, .int y), (2, .ref out)] := hl
  refine lv_aload_n hx hb d_La_cut_0 rfl (lv_at hl 2 rfl) ?_
  refine lv_iconst (v := 0) hx hb d_La_cut_1 (by decide) ?_
  refine lv_aload_n hx hb d_La_cut_2 rfl (lv_at hl 0 rfl) ?_
  refine lv_iload_n hx hb d_La_cut_3 rfl (lv_at hl 1 rfl) ?_
  have hC : Cut [(o, .inr (7, [.ref h, .ref mm])), (h, .inr (0, [.ref a, .int (nI n)])), (a, .inl (cB, cap, .inl f)), (out, .inl (cJ, 1, .inr (.inl go)))] [(o, .inr (7, [.ref h, .ref mm])), (h, .inr (0, [.ref a, .int (nI n)])), (a, .inl (cB, cap, .inl f))] [(out, .inl (cJ, 1, .inr (.inl go)))] [0, 1, 2] [3] := ⟨rfl, rfl, rfl, rfl, by decide⟩
  refine x_callV (As := [.int y]) (rest := [.int 0, .ref out]) ⟨hx, hb, hml, hown, hts⟩ gd_good (c_CO_cut l D cB cI cJ hfl ad o h mm a n cap f y hn) cal_CO_cut ml_La_17 ⟨Nat.le_of_ble_eq_true rfl, Nat.le_of_ble_eq_true rfl⟩ hZ hXU hP hD hS hC 0 (ci := 7) rfl rfl rfl rfl hl.1 rfl (Nat.le_of_ble_eq_true rfl) d_La_cut_4 ⟨Nat.le_of_ble_eq_true rfl, Nat.le_of_ble_eq_true rfl⟩ (fun _ => 12) (fun X hX => by obtain ⟨rfl, hy⟩ := hX; exact hnd1 had hown htab (hts _ cl_La_15) (hZ.2.1 _ (List.mem_of_getElem? (i := 15) rfl)) (by decide) (by decide)) (fun v w1 k n H locs hq hP hD hS => ?_) (fun X x_ H hpx hP hS => ?_)
  · obtain ⟨r_4, rfl, rfl, rfl, hq⟩ := hq
    obtain ⟨j, n1, rfl, hj, hn1, rfl, rfl⟩ := hq
    have hP : va_P D classes [(out, .inl (cJ, 1, .inr (.inl go))), (o, .inr (7, [.ref h, .ref mm])), (h, .inr (0, [.ref a, .int (nI n1)])), (a, .inl (cB, cap, .inl f))] H := hP
    have hD : va_D A_ [(out, .inl (cJ, 1, .inr (.inl go))), (o, .inr (7, [.ref h, .ref mm])), (h, .inr (0, [.ref a, .int (nI n1)])), (a, .inl (cB, cap, .inl f))] := hD
    refine W.eq (g2 := F0 m_ 7 ls [.int (nI (n - n1)), .int 0, .ref out]) rfl ?_
    refine lv_i2l hx hb d_La_cut_7 rfl ?_
    refine va_last hx hb hZ.1 hP hD hS 0 2 rfl rfl (show vp_in (nI 0) 1 from vp_in_nI (by decide) (by decide)) d_La_cut_8 (fun H locs hP hD hS => ?_)
    rw [show 0.toNatClampNeg = 0 from nI_clamp (by omega)] at hP hD
    have hP : va_P D classes [(out, .inl (cJ, 1, .inr (.inl (vp_updL go 0 ((nI (n - n1)).toInt64))))), (o, .inr (7, [.ref h, .ref mm])), (h, .inr (0, [.ref a, .int (nI n1)])), (a, .inl (cB, cap, .inl f))] H := hP
    have hD : va_D A_ [(out, .inl (cJ, 1, .inr (.inl (vp_updL go 0 ((nI (n - n1)).toInt64))))), (o, .inr (7, [.ref h, .ref mm])), (h, .inr (0, [.ref a, .int (nI n1)])), (a, .inl (cB, cap, .inl f))] := hD
    refine lv_goto (tgt := 15) hx hb d_La_cut_9 (by decide) ?_
    refine lv_iconst (v := 0) hx hb d_La_cut_15 (by decide) ?_
    exact t_iret hx hb hr hlk d_La_cut_16 (hP.subm (ws' := [(o, .inr (7, [.ref h, .ref mm])), (h, .inr (0, [.ref a, .int (nI n1)])), (a, .inl (cB, cap, .inl f)), (out, .inl (cJ, 1, .inr (.inl (vp_updL go 0 ((nI (n - n1)).toInt64)))))]) [1, 2, 3, 0] rfl) (hD.sub (ws' := [(o, .inr (7, [.ref h, .ref mm])), (h, .inr (0, [.ref a, .int (nI n1)])), (a, .inl (cB, cap, .inl f)), (out, .inl (cJ, 1, .inr (.inl (vp_updL go 0 ((nI (n - n1)).toInt64)))))]) [1, 2, 3, 0] rfl rfl) hS ⟨_, rfl, Or.inr ⟨j, n1, rfl, hj, hn1, rfl, rfl⟩⟩
  · try dsimp only at hpx
    obtain ⟨rfl, hy⟩ := hpx
    have hP : va_P D classes [(o, .inr (7, [.ref h, .ref mm])), (h, .inr (0, [.ref a, .int (nI n)])), (a, .inl (cB, cap, .inl f)), (out, .inl (cJ, 1, .inr (.inl (vp_updL go 0 ((nI (n - n1)).toInt64)))))] H := hP
    refine W.eq (g2 := F0 m_ 12 ls [.ref x_]) (by first | rfl | (simp; done)) ?_
    refine lv_astore_n (lv' := [(3, .ref x_), (0, .ref o), (1, .int y), (2, .ref out)]) hx hb d_La_cut_12 rfl hl (by decide) rfl (fun ls hl => ?_)
    refine lv_iconst (v := 1) hx hb d_La_cut_13 (by decide) ?_
    exact t_iret hx hb hr hlk d_La_cut_14 (hP.subm (ws' := [(o, .inr (7, [.ref h, .ref mm])), (h, .inr (0, [.ref a, .int (nI n)])), (a, .inl (cB, cap, .inl f)), (out, .inl (cJ, 1, .inr (.inl (vp_updL go 0 ((nI (n - n1)).toInt64)))))]) [0, 1, 2, 3] rfl) (hD.sub (ws' := [(o, .inr (7, [.ref h, .ref mm])), (h, .inr (0, [.ref a, .int (nI n)])), (a, .inl (cB, cap, .inl f)), (out, .inl (cJ, 1, .inr (.inl (vp_updL go 0 ((nI (n - n1)).toInt64)))))]) [0, 1, 2, 3] rfl rfl) hS ⟨_, rfl, Or.inl ⟨hy, rfl, rfl⟩⟩
