/-! THE CLAIM OUT OF ONE WALK OF THE LAW'S BODY. Your part is whole_start (and what it stands on); all else here is the same for every law, but numbers. -/
def R_law : String := "CharOutlinesLaw"
def lw_P (b : Addr) (xs : List Int32) (args : Array Value) (s : State) : Prop := args = #[.ref b] ∧ s.IntsAt b xs ∧ xs.length ≤ 3072 ∧ (Jvm.Cond.and given_1 narrow_1).before args s = true
def lw_Q (_ : Array Value) (s : State) (o : Outcome) (t : State) : Prop := o = .returned (some (.int 1)) ∧ Framed s o t [] 601024 7293034
def lw_Z (below : List Frame) (a : Array Value) (s : State) : State → Prop := fun t => ∃ o, t.status = .running ∧ Ended t below o ∧ lw_Q a s o t
/-- the law's own end, with 1 on the stack, nothing written that was there before, its room as the claim has it -/
theorem lw_ret {p : Program} {l : Launch} {e : Env} {s : State} {m : MethodId} {below : List Frame} {meth : Method} {c : Code} {b : Nat} (hx : p.tables.exec = Jvm.exec) (hb : c.code = code) (hr : meth.sig.returnType = ret) (hlocks : meth.locks = false) {pc : Nat} {H : Heap} {ls : Array Slot} (hdg : decode code pc = .ok (.ireturn, 1)) : W p l e room_1 s m #[Value.ref b] below meth c H [] 601024 7293034 (lw_Z below #[Value.ref b] s) (F0 m pc ls [.int 1]) := by
  intro T hT X
  obtain ⟨fs, hret, hrun, hended, hW, hframe⟩ := X.leave (v := some (.int 1)) (hlocks := hlocks) (fun h => by rw [hr] at h; cases h)
  have hmeth' : T.vm.method? m = some meth := X.method'
  refine ⟨T.setFrames fs, ?_, .returned (some (.int 1)), hrun, hended, rfl, ⟨_, rfl⟩, hW, hframe⟩
  jvm_step X.here [X.here.top, hx, hb, hdg, hmeth', hr, ret, narrow_b1]
  (try refine ⟨rfl, ?_⟩); (try refine ⟨rfl, ?_⟩)
  first | (intro acts; rw [hret _ acts rfl rfl rfl]) | rw [hret _ _ rfl rfl rfl]
  exact Steps.refl _
/-- what holds at the law's entry: the machine, the code, the tables' words (any of lw_tbl by 'hts w (by decide +kernel)'), the script of L ints xs at the cell b, what the Statement gives of the start (any of its parts by flat_of_before) -/
def lw_At (p : Program) (s : State) (m : MethodId) (meth : Method) (c : Code) (b L : Nat) (xs : Nat → Int32) : Prop :=
  p.tables.exec = Jvm.exec ∧ c.code = code ∧ meth.sig.returnType = ret ∧ c.maxLocals = 7 ∧ s.vm.findClass R_law = some m.cls ∧ (∀ w ∈ lw_tbl, w.before #[Value.ref b] s = true) ∧ va_X b L xs s s.heap ∧ b < s.heap.size ∧ meth.locks = false ∧ (Jvm.Cond.and given_1 narrow_1).before #[Value.ref b] s = true
theorem arr_known {args : Array Value} {s : State} {ty : FieldType} (h : (Cond.arrayClass ty).before args s = true) : ∃ cA : ClassId, ArrOfT s cA ty ∧ s.vm.findClass ("[" ++ ty.toString) = some cA := by
  obtain ⟨c, k, comp, h1, h2, h3⟩ := Cond.arrayClass_spec (args := args) h
  exact ⟨c, fun n z => ⟨fun k h => (by cases h), k, h2, comp, h3⟩, h1⟩
theorem str_known {args : Array Value} {s : State} {cur : ClassId} {own tx : String} {k : Nat} (hc : s.vm.findClass own = some cur) (h : (Cond.stringRef own k tx).before args s = true) : ∃ a, vk_R own k tx a s := by
  obtain ⟨_, _, _, a, _, _, _, _, _, he⟩ := Cond.stringRef_spec hc (args := args) h
  exact ⟨a, vk_R.of h he⟩
set_option maxRecDepth 100000 in
set_option maxHeartbeats 1000000 in
theorem law_sit {p : Program} {s : State} {m : MethodId} {meth : Method} {c : Code} {b L : Nat} {xs : Nat → Int32} (C0 : lw_At p s m meth c b L xs) : ∃ (D : va_G) (cB cI cJ : ClassId) (ad : Nat → Nat), Sit D classes (TY cB cI cJ) nx_tbl s (fun q => s.heap.size ≤ q) ∧ XU str_tbl ad (fun q => s.heap.size ≤ q) s s.heap ∧ ∀ w ∈ gd_tbl, w.before #[Value.ref b] s = true := by
  obtain ⟨hx, hb, hr, hml, hown, hlw, hX, hbl, hlocks, hgv⟩ := C0
  have hts : ∀ w ∈ gd_tbl, w.before #[Value.ref b] s = true := fun w h => hlw w (List.mem_filter.mp h).1
  have hfl := flat_of_before _ hgv
  obtain ⟨c0, iS0, hK0⟩ := u_known (C := R_By) (T := F_By) (N := 2) (n := 2) hts i_By (hts _ in_By)
  obtain ⟨c1, iS1, hK1⟩ := u_known (C := R_Sh) (T := F_Sh) (N := 2) (n := 2) hts i_Sh (hts _ in_Sh)
  obtain ⟨c2, iS2, hK2⟩ := u_known (C := R_St) (T := F_St) (N := 8) (n := 8) hts i_St (hts _ in_St)
  obtain ⟨c3, iS3, hK3⟩ := u_known (C := R_Va) (T := F_Va) (N := 3) (n := 3) hts i_Va (hts _ in_Va)
  obtain ⟨c4, iS4, hK4⟩ := u_known (C := R_Ou) (T := F_Ou) (N := 4) (n := 4) hts i_Ou (hts _ in_Ou)
  obtain ⟨c5, iS5, hK5⟩ := u_known (C := R_Re) (T := F_Re) (N := 1) (n := 1) hts i_Re (hts _ in_Re)
  obtain ⟨c6, iS6, hK6⟩ := u_known (C := R_Ma) (T := F_Ma) (N := 11) (n := 11) hts i_Ma (hts _ in_Ma)
  obtain ⟨c7, iS7, hK7⟩ := u_known (C := R_CO) (T := F_CO) (N := 2) (n := 2) hts i_CO (hts _ in_CO)
  obtain ⟨c8, iS8, hK8⟩ := u_known (C := R_Mo) (T := F_Mo) (N := 29) (n := 29) hts i_Mo (hts _ in_Mo)
  obtain ⟨cB, hB, hB2⟩ := arr_known (hts _ ar_B)
  obtain ⟨cI, hI, hI2⟩ := arr_known (hts _ ar_I)
  obtain ⟨cJ, hJ, hJ2⟩ := arr_known (hts _ ar_J)
  obtain ⟨a0, hs0⟩ := str_known (k := 33) (tx := "the row has no such byte") hK7.2.1 (hlw _ (List.mem_of_getElem? (i := 340) rfl))
  obtain ⟨a1, hs1⟩ := str_known (k := 40) (tx := "a byte is 0 .. 255") hK7.2.1 (hlw _ (List.mem_of_getElem? (i := 375) rfl))
  obtain ⟨a2, hs2⟩ := str_known (k := 47) (tx := "less than no bytes can't be left") hK7.2.1 (hlw _ (List.mem_of_getElem? (i := 397) rfl))
  obtain ⟨a3, hs3⟩ := str_known (k := 57) (tx := "a kind is 0 .. 2") hK7.2.1 (hlw _ (List.mem_of_getElem? (i := 412) rfl))
  obtain ⟨a4, hs4⟩ := str_known (k := 72) (tx := "there is no such program") hK7.2.1 (hlw _ (List.mem_of_getElem? (i := 454) rfl))
  obtain ⟨a5, hs5⟩ := str_known (k := 86) (tx := "there is no such mark, or it has no such number") hK7.2.1 (hlw _ (List.mem_of_getElem? (i := 730) rfl))
  refine ⟨(fun k => if k = 0 then c0 else if k = 1 then c1 else if k = 2 then c2 else if k = 3 then c3 else if k = 4 then c4 else if k = 5 then c5 else if k = 6 then c6 else if k = 7 then c7 else c8, fun k => if k = 0 then iS0 else if k = 1 then iS1 else if k = 2 then iS2 else if k = 3 then iS3 else if k = 4 then iS4 else if k = 5 then iS5 else if k = 6 then iS6 else if k = 7 then iS7 else iS8), cB, cI, cJ, fun k => if k = 33 then a0 else if k = 40 then a1 else if k = 47 then a2 else if k = 57 then a3 else if k = 72 then a4 else a5, ⟨⟨?_, ?_⟩, ?_, nx_ok, fun q h => h⟩, ⟨?_, ?_, ?_, ?_⟩, hts⟩
  · intro k q hq
    match k, hq with
    | 0, hq => cases hq; exact hK0
    | 1, hq => cases hq; exact hK1
    | 2, hq => cases hq; exact hK2
    | 3, hq => cases hq; exact hK3
    | 4, hq => cases hq; exact hK4
    | 5, hq => cases hq; exact hK5
    | 6, hq => cases hq; exact hK6
    | 7, hq => cases hq; exact hK7
    | 8, hq => cases hq; exact hK8
    | k + 9, hq => simp [classes] at hq
  · intro k q hq
    match k, hq with
    | 0, hq => cases hq; exact ⟨hB, hB2⟩
    | 1, hq => cases hq; exact ⟨hI, hI2⟩
    | 2, hq => cases hq; exact ⟨hJ, hJ2⟩
    | k + 3, hq => simp at hq
  · intro w hw
    refine va_Nw.of (A := #[Value.ref b]) ?_ (hlw w (nx_in w hw))
    rcases nx_ok w hw with ⟨_, _, _, _, rfl⟩ | ⟨_, _, _, _, _, _, rfl⟩ | ⟨_, rfl⟩ | ⟨_, _, rfl⟩ <;> rfl
  · exact XZ.of (hlw _ (List.mem_of_getElem? (i := 327) rfl)) (hfl _ (by decide +kernel)) (fun a h => Nat.not_le.mpr h)
  · exact XZ.of (hlw _ (List.mem_of_getElem? (i := 329) rfl)) (hfl _ (by decide +kernel)) (fun a h => Nat.not_le.mpr h)
  · intro q hq
    simp only [str_tbl, List.mem_cons, List.not_mem_nil, or_false] at hq
    rcases hq with rfl | rfl | rfl | rfl | rfl | rfl
    · exact hs0
    · exact hs1
    · exact hs2
    · exact hs3
    · exact hs4
    · exact hs5
  · exact va_Nc.of (args := #[Value.ref b]) (hfl _ (by decide +kernel))
