/-! CATCHING: the search of a handler whose classes may have to be linked; the call whose exception is caught; methods with a table of handlers. -/
theorem cx_row {e : Env} {S : State} {f : JFrame} {a : Addr} {x : ExceptionTableEntry} {t : List ExceptionTableEntry} {c : ClassId} {cell : Cell} (hx : covers x f.pc = true) (h0 : x.catchType ≠ 0)
    (hl : S.vm.ClassLinks e.platform f.method.cls x.catchType c) (hcell : S.heap[a]? = some cell) (hobj : ∀ k, cell.vm ≠ .statics k) (hk : ∃ k, S.vm.classes[cell.cls]? = some k) (hc : ∃ k, S.vm.classes[c]? = some k)
    {Q : Handler → Pre} {E : CtlPost} {d : Bool} {acts : List Action} :
    wp (findHandler.go f a (x :: t)) Q E e d acts S ↔ if S.vm.assignable cell.cls c = true then Q (.found x.handlerPc) d acts (S.setVm (S.vm.noted f.method.cls x.catchType (.cls c))) else wp (findHandler.go f a t) Q E e d acts (S.setVm (S.vm.noted f.method.cls x.catchType (.cls c))) := by
  simp only [covers] at hx
  obtain ⟨ha, ht⟩ := (resolveClass_links e.toSetting hl).op (op := VmOp.resolveClass f.method.cls x.catchType) rfl
  have hal : S.vm.Alike (S.vm.noted f.method.cls x.catchType (.cls c)) := (Vm.Alike.refl S.vm).noted _ _ _
  obtain ⟨k1, hk1⟩ := hk
  obtain ⟨k2, hk2⟩ := hc
  obtain ⟨k1', hk1', -⟩ := hal.2.2 _ _ hk1
  obtain ⟨k2', hk2', -⟩ := hal.2.2 _ _ hk2
  cases hfit : S.vm.assignable cell.cls c
  · have hfit' : (S.vm.noted f.method.cls x.catchType (.cls c)).assignable cell.cls c = false := by rw [hal.assignable]; exact hfit
    simp [findHandler.go, hx, h0, ha, ht, hcell, hobj, hk1', hk2', hfit', VmOp.dirties, VmOp.acts]
  · have hfit' : (S.vm.noted f.method.cls x.catchType (.cls c)).assignable cell.cls c = true := by rw [hal.assignable]; exact hfit
    simp [findHandler.go, hx, h0, ha, ht, hcell, hobj, hk1', hk2', hfit', VmOp.dirties, VmOp.acts]
/-- a row of the table that links, at the method's start, to the name tn -/
def CxL (pl : Platform) (s : State) (d : ClassId) (y : ExceptionTableEntry) (c : ClassId) : Prop := y.catchType ≠ 0 ∧ s.vm.ClassLinks pl d y.catchType c
theorem cx_through {e : Env} {s : State} {f : JFrame} {a : Addr} {cell : Cell} (hobj : ∀ k, cell.vm ≠ .statics k) (hk0 : ∃ k, s.vm.classes[cell.cls]? = some k)
    (x : ExceptionTableEntry) (rest : List ExceptionTableEntry) (hx : covers x f.pc = true) {cx : ClassId} (hend : CxL e.platform s f.method.cls x cx) (hfit : s.vm.assignable cell.cls cx = true) :
    ∀ (pre : List ExceptionTableEntry) (S : State), s.WarmedH S.vm → S.heap[a]? = some cell → (∀ y ∈ pre, covers y f.pc = true ∧ ∃ c, CxL e.platform s f.method.cls y c ∧ s.vm.assignable cell.cls c = false) →
      ∃ vm', s.WarmedH vm' ∧ ∀ (Q : Handler → Pre) (E : CtlPost) (d : Bool) (acts : List Action), wp (findHandler.go f a (pre ++ x :: rest)) Q E e d acts S ↔ Q (.found x.handlerPc) d acts (S.setVm vm') := by
  obtain ⟨k0, hk0⟩ := hk0
  intro pre
  induction pre with
  | nil =>
    intro S hW hcell _
    obtain ⟨k0', hk0', -⟩ := hW.alike.2.2 _ _ hk0
    obtain ⟨h0, hl⟩ := hend
    obtain ⟨dk, _, _, kt, hd, _, _, _, _, hkt, _, hopen⟩ := hl.here
    obtain ⟨kt', hkt', -⟩ := hW.alike.2.2 _ _ hkt
    exact ⟨_, hW.noted hd hopen (State.rightAt_cls hl), fun Q E d acts => by
      rw [List.nil_append, cx_row hx h0 (hW.classLinks hl) hcell hobj ⟨k0', hk0'⟩ ⟨kt', hkt'⟩, if_pos (by rw [hW.alike.assignable]; exact hfit)]⟩
  | cons y ys ih =>
    intro S hW hcell hpass
    obtain ⟨k0', hk0', -⟩ := hW.alike.2.2 _ _ hk0
    obtain ⟨hcov, c, ⟨h0, hl⟩, hno⟩ := hpass y List.mem_cons_self
    obtain ⟨dk, _, _, kt, hd, _, _, _, _, hkt, _, hopen⟩ := hl.here
    obtain ⟨kt', hkt', -⟩ := hW.alike.2.2 _ _ hkt
    have hW2 := hW.noted hd hopen (State.rightAt_cls hl)
    obtain ⟨vm', hW3, hgo⟩ := ih (S.setVm (S.vm.noted f.method.cls y.catchType (.cls c))) hW2 hcell (fun z hz => hpass z (List.mem_cons_of_mem _ hz))
    refine ⟨vm', hW3, fun Q E d acts => ?_⟩
    rw [List.cons_append, cx_row hcov h0 (hW.classLinks hl) hcell hobj ⟨k0', hk0'⟩ ⟨kt', hkt'⟩, if_neg (by rw [hW.alike.assignable, hno]; decide), hgo]
    rfl
theorem cx_caught {tb : Tables} {e : Env} {S target : State} {g : JFrame} {c : Code} {below : List Frame} {a : Addr} (h : At S g.method c below) {pc : Nat} {vm' : Vm}
    (hfind : ∀ (Q : Handler → Pre) (E : CtlPost) (d : Bool) (acts : List Action), wp (findHandler g a) Q E e d acts ((S.setTop g).pushFrame (.throwing a)) ↔ Q (.found pc) d acts (((S.setTop g).pushFrame (.throwing a)).setVm vm'))
    (hrest : Steps tb e below ((S.setVm vm').setTop { g with pc := pc, stack := [.ref a] }) target) :
    Steps tb e below ((S.setTop g).pushFrame (.throwing a)) target := by
  obtain ⟨hgo, hw⟩ := h.throwing a
  refine Steps.head hgo hw ?_
  have hstep : (stepThrowing e ((S.setTop g).pushFrame (.throwing a)) a (.java g :: S.frames.tail)).1 = ((((S.setTop g).pushFrame (.throwing a)).setVm vm').setFrames (.java { g with pc := pc, stack := [.ref a] } :: S.frames.tail)) := by
    simp only [stepThrowing, searchFrame, vmDo]
    generalize hr : Sem.go _ e false [] ((S.setTop g).pushFrame (.throwing a)) = res
    obtain ⟨as, rfl, ha⟩ := Sem.eq_ok_of hr (a := Handler.found pc) (s' := ((S.setTop g).pushFrame (.throwing a)).setVm vm') (acts' := []) (by simp [hfind _ _ _ _])
    rfl
  rw [stepThread_throwing (frames_entered h.top _), hstep]
  obtain ⟨g₀, hg⟩ := Option.isSome_iff_exists.mp h.top
  obtain ⟨r, hr⟩ := State.topJava?_eq_some.mp hg
  have hr' : (S.setVm vm').frames = .java g₀ :: r := hr
  have key : ∀ (u : State) (vm' : Vm) (F G : List Frame), ((u.setFrames F).setVm vm').setFrames G = (u.setVm vm').setFrames G := fun u vm' F G => by
    have h1 : (u.setFrames F).setVm vm' = (u.setVm vm').setFrames F := rfl
    rw [h1, State.setFrames_setFrames]
  rw [State.setTop_of_frames _ hr'] at hrest
  rw [hr, List.tail_cons, State.pushFrame, key, State.setTop_of_frames _ hr, key]
  exact hrest
/-- the rows of a table of handlers, for the pc of a call: an exception of the kind X is caught at hp -/
def Hnd (pl : Platform) (s : State) (d : ClassId) (c : Code) (pc : Nat) (X : String) (hp : Nat) : Prop :=
  ∃ (pre : List ExceptionTableEntry) (x : ExceptionTableEntry) (rest : List ExceptionTableEntry) (cX cx : ClassId), c.exceptionTable.toList = pre ++ x :: rest ∧ covers x pc = true ∧ x.handlerPc = hp ∧ s.vm.findClass X = some cX ∧ CxL pl s d x cx ∧ s.vm.assignable cX cx = true ∧
    ∀ y ∈ pre, covers y pc = true ∧ ∃ c, CxL pl s d y c ∧ s.vm.assignable cX c = false
/-- the way back of a call that returned -/
theorem x_back {p : Program} {l : Launch} {e : Env} {R : Room} {s : State} {m : MethodId} {args : Array Value} {below : List Frame} {meth : Method} {c : Code} {U : State} {locs : List Loc} {cells slots : Nat} (X : Stand p l e R s m args below meth c U locs cells slots) {g : JFrame} (hg : g.method = m) {ig : Instr} {len : Nat} (hdg : decode c.code g.pc = .ok (ig, len))
    {mk : MethodId} {a : Array Value} {s₂ : State} {v : Option Value} {L : List Loc} {k n : Nat} (hend : Ended s₂ (.java g :: U.frames.tail) (.returned v)) (hW₂ : (U.calling g mk a).WarmedH s₂.vm) (hsame : (U.calling g mk a).sameButNew ({ s₂ with vm := (U.calling g mk a).vm } : State) L k n) :
    ∃ T' : State, Stand p l e R s m args below meth c T' (locs ++ L) (cells + k) (slots + n) ∧ s₂ = T'.setTop { g with pc := g.pc + len, stack := v.toList ++ g.stack } ∧ T'.heap = s₂.heap ∧ T'.vm = s₂.vm := by
  have h : At U g.method c below := by rw [hg]; exact X.here
  obtain ⟨e2, q2, q3, q4, q5, q6⟩ := hsame
  have e3 : s₂ = ({ (U.calling g mk a).setFrames s₂.frames with heap := s₂.heap, slotsUsed := s₂.slotsUsed } : State).setVm s₂.vm := by
    have : s₂ = ({ s₂ with vm := (U.calling g mk a).vm } : State).setVm s₂.vm := rfl
    rw [e2] at this
    exact this
  obtain ⟨c₂, i₂, len₂, hc₂, hd₂, hf₂⟩ := hend
  have hW' : U.WarmedH s₂.vm := hW₂
  have hcc : c₂ = c := by
    have h1 : s₂.code? g.method = U.code? g.method := by
      rw [State.code?_eq, State.code?_eq, hW'.alike.method?]
    exact Option.some.inj (hc₂.symm.trans (h1.trans h.code))
  subst hcc
  have hlen : len₂ = len := by rw [hdg] at hd₂; cases hd₂; rfl
  subst hlen
  obtain ⟨g₀, hg0⟩ := Option.isSome_iff_exists.mp h.top
  obtain ⟨r, hr⟩ := State.topJava?_eq_some.mp hg0
  have hs₂ : s₂ = (({ U with heap := s₂.heap, slotsUsed := s₂.slotsUsed } : State).setVm s₂.vm).setTop { g with pc := g.pc + len₂, stack := v.toList ++ g.stack } := by
    have hr' : (({ U with heap := s₂.heap, slotsUsed := s₂.slotsUsed } : State).setVm s₂.vm).frames = .java g₀ :: r := hr
    refine e3.trans ?_
    rw [hf₂, State.calling_eq h.top, State.setFrames_setFrames, State.setTop_of_frames _ hr', hr]
    rfl
  have hsame : U.sameButNew ({ U with heap := s₂.heap, slotsUsed := s₂.slotsUsed } : State) L k n := by
    refine ⟨?_, q2, q3, q4, q5, q6⟩
    obtain ⟨t, ht, -⟩ := State.frames_cons hr
    show ({ U with heap := s₂.heap, slotsUsed := s₂.slotsUsed } : State) = { U.setFrames U.frames with heap := s₂.heap, slotsUsed := s₂.slotsUsed }
    rw [State.setFrames_self ht]
  subst hg
  exact ⟨({ U with heap := s₂.heap, slotsUsed := s₂.slotsUsed } : State).setVm s₂.vm,
    ⟨X.admits, X.cas, X.clock, X.frames, X.room, X.hears, X.method, X.code, (X.here.setHeapUsed s₂.heap s₂.slotsUsed).setVm hW'.alike, X.tail, State.WarmedH.trans X.warmed hW', X.limits, X.bytes, X.same.trans (hsame.setVm s.vm)⟩, hs₂, rfl, rfl⟩
section XC
variable {p : Program} {l : Launch} {e : Env} {R : Room} {s : State} {m : MethodId} {args : Array Value} {below : List Frame} {meth : Method} {c : Code} {H : Heap} {locs : List Loc} {cells slots : Nat} {Q : State → Prop}
variable {y : MethodName} {bytes cc : ByteArray} {maxL nL n index : Nat} {ret : Option FieldType} {rm : Room} {Ts NX : List Cond} {own C : String} {b : Addr} {As rest st0 : List Value} {pc : Nat} {ls : Array Slot}
variable {D : va_G} {cl : List vw_C} {tys : List (ClassId × FieldType)} {ws wc wr : va_W} {A0 : Nat → Prop} {post : Option Value → va_W → Nat → Nat → Prop} {px : String → Prop} {st : List (Nat × String)} {ad : Nat → Nat}
theorem same_cells {S t : State} {k n : Nat} (h : S.sameButNew t [] k n) : ∀ q : Nat, q < S.heap.size → t.heap[q]? = S.heap[q]? := by
  intro q hq
  obtain ⟨-, -, -, -, -, h6⟩ := h
  have hc : S.heap[q]? = some S.heap[q] := Array.getElem?_eq_getElem hq
  obtain ⟨c', h1, h2, h3, h4⟩ := h6 q _ hc
  rw [h1, hc]
  have : c'.slots = S.heap[q].slots := by
    apply Array.ext_getElem?
    intro i
    exact h4 i (by simp)
  rw [h2, this]
theorem x_callV (S : CallFix p m c cc nL s args Ts own) (hG : GoodIn Ts Ts) (hM : TrX l D cl tys Ts NX st ad y bytes maxL ret rm (.ref b :: As) wc post px) (hc : CalV Ts C y bytes maxL ret n) (hl : Cond.methodLink own index y ∈ Ts) (hR : rm.frames + 1 ≤ R.frames ∧ 8 + (maxL + 11) + rm.locals ≤ R.locals) (hZ : Sit D cl tys NX s A0) (hXU : XU st ad A0 s s.heap) (hP : va_P D cl ws H) (hD : va_D A0 ws) (hS : va_S A0 s.heap H locs)
    {isC isR : List Nat} (hC : Cut ws wc wr isC isR) (q0 : Nat) {ci : Nat} {fs : List Value} {qc : vw_C} (hci : cl[ci]? = some qc) (hcn : qc.1 = C) (hq0 : ws[q0]? = some (b, .inr (ci, fs)))
    (hn : As.length = n) (hsize : ls.size = nL) (hst : st0 = As.reverse ++ .ref b :: rest) (hW : (rest.map fun v => v.category).sum ≤ 8) (hdg : decode cc pc = .ok (.invokevirtual index, 3)) (hf : cells + rm.cells ≤ R.cells ∧ slots + rm.slots ≤ R.slots)
    (hp : String → Nat) (hh : ∀ X, px X → Hnd e.platform s m.cls c pc X (hp X))
    (kr : ∀ (v : Option Value) (w1 : va_W) (k n : Nat) (H1 : Heap) (locs1 : List Loc), post v w1 k n → va_P D cl (wr ++ w1) H1 → va_D A0 (wr ++ w1) → va_S A0 s.heap H1 locs1 → W p l e R s m args below meth c H1 locs1 (cells + k) (slots + n) Q (F0 m (pc + 3) ls (v.toList ++ rest)))
    (kx : ∀ (X : String) (x : Addr) (H1 : Heap), px X → va_P D cl ws H1 → va_S A0 s.heap H1 locs → W p l e R s m args below meth c H1 locs (cells + 1) (slots + 6) Q (F0 m (hp X) ls [.ref x])) :
    W p l e R s m args below meth c H locs cells slots Q (F0 m pc ls st0) := by
  subst hcn
  obtain ⟨hx, hb, hml, ho, ht⟩ := S
  intro T hT X
  obtain ⟨cellB, hcB, hoB, hclB⟩ := va_recv hZ.1 hP hci hq0
  obtain ⟨mk, methM, hnamed, hmethM, hstM, habM⟩ := Cond.instanceMethod_spec (ht _ hc.2.1)
  obtain ⟨methM', cM, hmethM', -, -, -, -, -, -, hsigM⟩ := Cond.code_spec hnamed (ht _ hc.1.1)
  cases hmethM.symm.trans hmethM'
  obtain ⟨c2, r2, m2, q1, q2, q3, q4, kP, hkP, hkPi⟩ := Cond.selects_spec (ht _ hc.2.2)
  cases hclB.symm.trans q1
  cases (State.methodFound?_of_named hnamed hc.1.2.2.1).symm.trans q2
  cases hnamed.symm.trans q3
  have hselP : selectMethod e.platform s.vm cellB.cls mk = .method mk := by rw [Launch.admits_selectMethod X.admits]; exact q4
  obtain ⟨vm₁, X₁, hstep₁⟩ := X.invokevirtual hx ho (ht _ hl) hnamed hmethM hstM hkP hkPi hc.1.2.2.1 (a := b) (cell := cellB) (by rw [hT]; exact hcB)
    (fun z h => by rw [h] at hoB; cases hoB) hselP hmethM habM hkP hkPi (g := F0 m pc ls st0) rfl (argsL := As) (rest := rest) (hn.trans (hc.1.len _ hsigM)) hst (by rw [hb]; exact hdg)
  -- the callee, from its contract
  have hdg' : decode c.code pc = .ok (.invokevirtual index, 3) := by rw [hb]; exact hdg
  have hn1 : (T.setVm vm₁).methodNamed? y = some mk := X₁.named hnamed
  have hws : ∀ w ∈ (Cond.code y bytes maxL ret :: Ts), w.before (Value.ref b :: As).toArray (T.setVm vm₁) = true := by
    intro w hw
    rcases List.mem_cons.mp hw with rfl | hw
    · exact pay_in ht hG _ hc.1.1 _ _ X₁.warmed
    · exact pay_in ht hG _ hw _ _ X₁.warmed
  obtain ⟨methY, cY, hmY, hcY, -, hlY, -, -, -, -⟩ := Cond.code_spec hn1 (hws _ List.mem_cons_self)
  obtain ⟨kY, hkY, -⟩ := className_of_methodNamed hn1
  have hinitY : kY.init = .initialized := Cond.initialized_spec (findClass_of_methodNamed hn1) hkY (hws _ (List.mem_cons_of_mem _ hc.1.2.1))
  have hAt : At (T.setVm vm₁) m c below := X₁.here
  have happ : (headSpec (Cond.code y bytes maxL ret :: Ts) rm).appliesLoose y e.platform ((T.setVm vm₁).calling (F0 m pc ls rest) mk (Value.ref b :: As).toArray) = true :=
    Spec.appliesLoose_calling (g := F0 m pc ls rest) hAt hdg' hn1 hkY hinitY (X₁.room_calling (g := F0 m pc ls rest) (R' := rm) (hsize.trans hml.symm) hmY hcY hR.1 (by rw [hlY]; have := lv_room (m := m) (pc := pc) (ls := ls) (rest := rest) hW; show 2 * (F0 m pc ls rest).monitorRoom + (rest.map fun v => v.category).sum + (maxL + 11) + rm.locals ≤ R.locals; omega) hf.1 hf.2) (atoms_intro hws)
  have hF : ∀ q, va_A wc H.size q → A0 q := va_free hD hS hZ.2.2.2 isC hC.1
  have hPc0 : TrPX D cl tys NX st ad (.ref b :: As) wc (Value.ref b :: As).toArray (T.setVm vm₁) := by
    refine ⟨TrP.at (av := .ref b :: As) hZ hP hD hC (T.setVm vm₁) hT X₁.warmed, ?_⟩
    have h1 : XU st ad A0 s (T.setVm vm₁).heap := hXU.kept (fun q h1 h2 => by show T.heap[q]? = _; rw [hT]; exact hS.2.1 q h1 h2)
    exact (h1.narrow (fun q hq => hF q (by have e : (T.setVm vm₁).heap = H := hT; rw [e] at hq; exact hq))).warm X₁.warmed
  have hPc : TrPX D cl tys NX st ad (.ref b :: As) wc (Value.ref b :: As).toArray ((T.setVm vm₁).calling (F0 m pc ls rest) mk (Value.ref b :: As).toArray) :=
    ⟨TrP.blind hZ.2.2.1 _ _ _ _ hPc0.1, hPc0.2.same (s := T.setVm vm₁) rfl⟩
  obtain ⟨mid, hmid⟩ := hAt.above
  have hfr : ((T.setVm vm₁).setTop (F0 m pc ls rest)).frames = (.java (F0 m pc ls rest) :: mid) ++ below := by rw [State.frames_setTop' (F0 m pc ls rest) hAt.top, hmid]; rfl
  obtain ⟨o, s₂, hsteps, -, hend, hq⟩ := Steps.callFree hM p X₁.admits X₁.cas X₁.clock (acts := []) hfr happ hPc trivial
  have hh0 : ((T.setVm vm₁).calling (F0 m pc ls rest) mk (Value.ref b :: As).toArray).heap = H := hT
  rw [State.frames_setTop' (F0 m pc ls rest) hAt.top] at hend
  have hq : TxQ D cl wc post px (Value.ref b :: As).toArray ((T.setVm vm₁).calling (F0 m pc ls rest) mk (Value.ref b :: As).toArray) o s₂ := hq
  rcases hq with ⟨L, k, n', hfe, v, w1, rfl, hpost, hP1, hD1, hF1, hL⟩ | ⟨x, XX, ce, rfl, hW₂, hsame, hpx, hce, hcX, hvmX⟩
  · -- it returned
    obtain ⟨-, hW₂, hsame⟩ := hfe
    obtain ⟨T', X', hT', hheap, hvm'⟩ := x_back X₁ (g := F0 m pc ls rest) rfl hdg' hend hW₂ hsame
    have hzz : ((T.setVm vm₁).calling (F0 m pc ls rest) mk (Value.ref b :: As).toArray).heap.size = H.size := by rw [hh0]
    rw [hzz] at hD1 hL
    have hk : ∀ q : Nat, q < H.size → ¬ va_A wc H.size q → T'.heap[q]? = H[q]? := fun q h1 h2 => by
      rw [hheap, ← hh0]
      exact hF1.2 q (by rw [hzz]; exact h1) (by rw [hzz]; exact h2)
    have hz : H.size ≤ T'.heap.size := by rw [hheap, ← hzz]; exact hF1.1
    obtain ⟨hPj, hDj⟩ := va_join (wr := wr) (w1 := w1) hP hD isC isR hC.1 hC.2.1 hC.2.2.2.1 hC.2.2.2.2 hk hF (by rw [hheap]; exact hP1) hD1
    obtain ⟨t2, a1, b1⟩ := kr v w1 k n' T'.heap (locs ++ L) hpost hPj hDj ⟨Nat.le_trans hS.1 hz, fun q h1 h2 => by
        rw [hk q (Nat.lt_of_lt_of_le h1 hS.1) (fun z => h2 (hF q z))]
        exact hS.2.1 q h1 h2, fun q hq => by
        rcases List.mem_append.mp hq with h | h
        · exact hS.2.2 q h
        · exact hF _ (hL q h)⟩ T' rfl X'
    refine ⟨t2, hstep₁ _ (fun acts => ?_), b1⟩
    rw [doInvoke_state]
    exact hsteps.trans (by rw [hT']; exact a1)
  · -- it threw
    rw [X₁.tail] at hend
    obtain ⟨T', X', hW', hB, ht2⟩ := X₁.outOfThrown (g := F0 m pc ls rest) rfl hend hW₂ hsame
    rw [List.append_nil] at X'
    have hold : ∀ q : Nat, q < H.size → T'.heap[q]? = H[q]? := fun q hq => by
      have := same_cells hB q (by show q < T.heap.size; rw [hT]; exact hq)
      rw [← hT]; exact this
    have hT'h : T'.heap = s₂.heap := by rw [ht2]; exact (Stand.throwing_heap T' (F0 m pc ls rest) x).symm
    have hsz : H.size ≤ T'.heap.size := by rw [← hT]; exact hB.2.1
    have hcX1 : s.vm.findClass XX = some ce.cls := by
      have : ((T.setVm vm₁).calling (F0 m pc ls rest) mk (Value.ref b :: As).toArray).vm.findClass XX = some ce.cls := hcX
      rw [← X₁.warmed.alike.findClass]; exact this
    obtain ⟨pre, xr, rest', cX, cx, htab, hcov, hhp, hfX, hlx, hasg, hpass⟩ := hh XX hpx
    cases hfX.symm.trans hcX1
    have hkX : ∃ k, s.vm.classes[ce.cls]? = some k := Vm.classAt_of_findClass hcX1
    have hTh : ((T'.setTop (F0 m pc ls rest)).pushFrame (.throwing x)).heap[x]? = some ce := by rw [← ht2]; exact hce
    have hTv : ((T'.setTop (F0 m pc ls rest)).pushFrame (.throwing x)).vm = T'.vm := Stand.throwing_vm T' (F0 m pc ls rest) x
    obtain ⟨vm', hW3, hgo⟩ := cx_through (e := e) (s := s) (f := F0 m pc ls rest) (a := x) (cell := ce) (fun k hk => by rw [hvmX] at hk; cases hk) hkX xr rest' hcov hlx hasg pre ((T'.setTop (F0 m pc ls rest)).pushFrame (.throwing x)) (by rw [hTv]; exact X'.warmed) hTh hpass
    have hmeth : ((T'.setTop (F0 m pc ls rest)).pushFrame (.throwing x)).vm.method? (F0 m pc ls rest).method = some meth := by rw [hTv]; exact X'.method'
    have hfind : ∀ (Q : Handler → Pre) (E : CtlPost) (d : Bool) (acts : List Action), wp (findHandler (F0 m pc ls rest) x) Q E e d acts ((T'.setTop (F0 m pc ls rest)).pushFrame (.throwing x)) ↔ Q (.found (hp XX)) d acts (((T'.setTop (F0 m pc ls rest)).pushFrame (.throwing x)).setVm vm') := by
      intro Q E d acts
      rw [W.findHandler_eq hmeth X'.code, htab, hgo, hhp]
    obtain ⟨t3, a3, b3⟩ := kx XX x T'.heap hpx (hP.kept (fun k q hk => hold q.1 ((hP k q hk).lt))) ⟨Nat.le_trans hS.1 hsz, fun q h1 h2 => (hold q (Nat.lt_of_lt_of_le h1 hS.1)).trans (hS.2.1 q h1 h2), hS.2.2⟩ (T'.setVm vm') rfl (X'.noted hW3)
    refine ⟨t3, hstep₁ _ (fun acts => ?_), b3⟩
    rw [doInvoke_state]
    refine hsteps.trans ?_
    rw [ht2]
    exact cx_caught X'.here hfind a3
end XC
/-! methods with a table of handlers, that return -/
def TrW (l : Launch) (D : va_G) (cl : List vw_C) (tys : List (ClassId × FieldType)) (Ts NX : List Cond) (st : List (Nat × String)) (ad : Nat → Nat) (y : MethodName) (bytes : ByteArray) (maxL : Nat) (ret : Option FieldType) (hh : List (Nat × Nat × Nat × Nat)) (rm : Room) (av : List Value) (wc : va_W) (post : Option Value → va_W → Nat → Nat → Prop) : Prop :=
  MetK l y (Cond.codeWith y bytes maxL ret hh :: Ts) rm (TrPX D cl tys NX st ad av wc) (TrQ D cl wc post)
theorem tab_of {l : List ExceptionTableEntry} {hh : List (Nat × Nat × Nat × Nat)} (h : l.map (fun h => (h.startPc, h.endPc, h.handlerPc, h.catchType)) = hh) : l = hh.map (fun q => ⟨q.1, q.2.1, q.2.2.1, q.2.2.2⟩) := by
  rw [← h, List.map_map]
  simp [Function.comp_def]
theorem TrW.intro {l : Launch} {D : va_G} {cl : List vw_C} {tys : List (ClassId × FieldType)} {Ts NX : List Cond} {st : List (Nat × String)} {ad : Nat → Nat} {y : MethodName} {bytes : ByteArray} {maxL : Nat} {ret : Option FieldType} {hh : List (Nat × Nat × Nat × Nat)} {rm : Room} {av : List Value} {wc : va_W} {post : Option Value → va_W → Nat → Nat → Prop}
    (hy : plainName y.cls = true) (hN : NXok NX) (hsz : (lg_sl av).length ≤ maxL)
    (body : ∀ (p : Program) (e : Env) (s : State) (m : MethodId) (args : Array Value) (below : List Frame) (meth : Method) (c : Code) (A : Nat → Prop) (ls : Array Slot), l.admits e →
      p.tables.exec = Jvm.exec → c.code = bytes → c.maxLocals = maxL → s.vm.findClass y.cls = some m.cls → (∀ w ∈ Ts, w.before args s = true) → meth.sig.returnType = ret → meth.locks = false → meth.name = y.name →
      Sit D cl tys NX s A → va_P D cl wc s.heap → va_D A wc → va_S A s.heap s.heap [] → lv_has ls maxL (lv_args 0 av) → XU st ad A s s.heap → c.exceptionTable.toList = hh.map (fun q => ⟨q.1, q.2.1, q.2.2.1, q.2.2.2⟩) →
      W p l e rm s m args below meth c s.heap [] 0 0 (MQT below D cl A post s) (F0 m 0 ls [])) : TrW l D cl tys Ts NX st ad y bytes maxL ret hh rm av wc post := by
  unfold TrW MetK
  refine MetFree.of_bodyS (code := bytes) (maxLocals := maxL) (ret := ret) hy ?_ ?_
  · intro args s m h hn
    obtain ⟨m9, meth, c, hn9, h1, h2, h3, h4, -, h5, h6, -⟩ := Cond.codeWith_spec (atoms_spec (ws := Cond.codeWith y bytes maxL ret hh :: Ts) h _ List.mem_cons_self)
    cases hn.symm.trans hn9
    exact ⟨meth, c, h1, h2, h3, h4, h5, h6⟩
  · intro p e s m args below meth c s₁ B hml hP _
    obtain ⟨⟨rfl, hP, hK, hD0, hNs⟩, hX⟩ := hP
    have hh0 : s₁.heap = s.heap := by rw [B.state]; rfl
    have hts := atoms_spec (ws := Cond.codeWith y bytes maxL ret hh :: Ts) B.pre
    obtain ⟨m9, meth9, c9, hn9, hm9, hc9, -, -, htab, -, -, -⟩ := Cond.codeWith_spec (hts _ List.mem_cons_self)
    cases B.named.symm.trans hn9
    cases B.method.symm.trans hm9
    cases (Stand.of_body B).code.symm.trans hc9
    have hb := body p e s m av.toArray below meth c (va_A wc s.heap.size) _ (Stand.of_body B).admits B.exec B.bytes hml (findClass_of_methodNamed B.named) (fun w hw => hts w (List.mem_cons_of_mem _ hw)) B.returns B.notSynchronized (name_of_methodNamed B.named B.method).1
      ⟨hK, hNs, hN, fun q h => Or.inr h⟩ hP (hD0.self (sz := s.heap.size)) va_S.rf (lv_entry av (n := maxL) hsz) hX (tab_of htab)
    rw [← lg_entry_eq] at hb
    obtain ⟨t, a1, v, w1, L, k, n, b1, b2, b3, b4, b5, b6, b7, b8⟩ := hb s₁ hh0 (Stand.of_body B)
    exact ⟨t, .returned v, a1, b1, b2, L, k, n, b3, v, w1, rfl, b4, b5, b6, b7, b8⟩
def CalSW (Ts : List Cond) (y : MethodName) (bytes : ByteArray) (maxL : Nat) (ret : Option FieldType) (hh : List (Nat × Nat × Nat × Nat)) (n : Nat) : Prop :=
  Cond.codeWith y bytes maxL ret hh ∈ Ts ∧ Cond.initialized y.cls ∈ Ts ∧ (y.cls ≠ "java/lang/invoke/MethodHandle" ∧ y.cls ≠ "java/lang/invoke/VarHandle") ∧ (parseMethodDescriptor y.desc).map (fun d => d.parameters.length) = some n ∧ Cond.static y ∈ Ts
section XW
variable {p : Program} {l : Launch} {e : Env} {R : Room} {s : State} {m : MethodId} {args : Array Value} {below : List Frame} {meth : Method} {c : Code} {H : Heap} {locs : List Loc} {cells slots : Nat}
variable {y : MethodName} {bytes cc : ByteArray} {maxL nL n index : Nat} {ret : Option FieldType} {hh : List (Nat × Nat × Nat × Nat)} {rm : Room} {Ts NX : List Cond} {own : String} {As rest st0 : List Value} {pc : Nat} {ls : Array Slot}
variable {D : va_G} {cl : List vw_C} {tys : List (ClassId × FieldType)} {ws wc wr : va_W} {A0 : Nat → Prop} {post : Option Value → va_W → Nat → Nat → Prop} {st : List (Nat × String)} {ad : Nat → Nat}
theorem trSW (S : CallFix p m c cc nL s args Ts own) (hG : GoodIn Ts Ts) (hM : TrW l D cl tys Ts NX st ad y bytes maxL ret hh rm As wc post) (hc : CalSW Ts y bytes maxL ret hh n) (hl : Cond.methodLink own index y ∈ Ts) (hR : rm.frames + 1 ≤ R.frames ∧ 8 + (maxL + 11) + rm.locals ≤ R.locals) (hZ : Sit D cl tys NX s A0) (hXU : XU st ad A0 s s.heap) (hP : va_P D cl ws H) (hD : va_D A0 ws) (hS : va_S A0 s.heap H locs)
    {isC isR : List Nat} (hC : Cut ws wc wr isC isR)
    (hn : As.length = n) (hsize : ls.size = nL) (hst : st0 = As.reverse ++ rest) (hW : (rest.map fun v => v.category).sum ≤ 8) (hdg : decode cc pc = .ok (.invokestatic index, 3)) (hf : cells + rm.cells ≤ R.cells ∧ slots + rm.slots ≤ R.slots) :
    RunK p l e R s m args below meth c H locs cells slots (F0 m pc ls st0) rest (fun st v t L k n => TrQ D cl wc post As.toArray st (.returned v) t L k n) := by
  obtain ⟨hx, hb, hml, ho, ht⟩ := S
  have hF : ∀ q, va_A wc H.size q → A0 q := va_free hD hS hZ.2.2.2 isC hC.1
  have hlen : ∀ sig, parseMethodDescriptor y.desc = some sig → As.length = sig.parameters.length := fun sig hs => by
    have h2 := hc.2.2.2.1
    rw [hs] at h2
    exact hn.trans (Option.some.inj h2).symm
  have hblind : FrameBlind (TrPX D cl tys NX st ad As wc) := fun a U g mk q => ⟨TrP.blind hZ.2.2.1 _ _ _ _ q.1, q.2.same (s := U) rfl⟩
  have hws : ∀ w ∈ (Cond.codeWith y bytes maxL ret hh :: Ts), ∀ (a' : Array Value) (U : State), s.WarmedH U.vm → w.before a' U = true := by
    intro w hw
    rcases List.mem_cons.mp hw with rfl | hw
    · exact pay_in ht hG _ hc.1
    · exact pay_in ht hG _ hw
  have hK : Back l R p e below s args y 3 8 (PreK R rm (TrPX D cl tys NX st ad As wc)) (PostK (TrQ D cl wc post)) := by
    refine va_ofFreeW (hh := hh) (S := headSpec (Cond.codeWith y bytes maxL ret hh :: Ts) rm) (P := TrPX D cl tys NX st ad As wc) (K := fun _ _ _ _ _ => True) (Q := fun a st o t => ∃ L k n, FrameEnd st o t L k n ∧ TrQ D cl wc post a st o t L k n) (bytes := bytes) (maxL := maxL) (ret := ret)
      (E := fun a st o t L k n => TrQ D cl wc post a st o t L k n) hM hR.1 hR.2 ?_ ?_ (fun _ _ _ _ _ _ _ _ _ => trivial) ?_ ?_
    · intro m meth c A a X hp
      exact ⟨atoms_intro fun w hw => hws w hw _ _ X.warmed, hws _ List.mem_cons_self _ _ X.warmed, word_at X.warmed (hG _ hc.2.1).2 (ht _ hc.2.1), hp.1, hp.2.1⟩
    · intro m meth c A a g mk X hp
      exact hblind _ _ _ _ hp.2.2
    · intro a st o t ⟨L, k, n, hF, hq⟩
      exact ⟨L, k, n, hF, hq⟩
    · intro m meth c A a g mk v t L k n X hp hq hF hE
      exact ⟨g, mk, t, L, k, n, rfl, rfl, hE, rfl, rfl, rfl⟩
  intro T hT X
  obtain ⟨mk, methM, cM, hnamed, hmethM, -, -, -, -, -, -, hsigM⟩ := Cond.codeWith_spec (ht _ hc.1)
  have hstatic : methM.isStatic = true := Cond.static_spec hnamed hmethM (ht _ hc.2.2.2.2)
  obtain ⟨kP, hkP, -⟩ := className_of_methodNamed hnamed
  have hinitP : kP.init = .initialized := Cond.initialized_spec (findClass_of_methodNamed hnamed) hkP (ht _ hc.2.1)
  obtain ⟨vm₁, X₁, hstep₁⟩ := X.invokestatic hx ho (ht _ hl) hnamed hmethM hstatic hkP hinitP hc.2.2.1 (g := F0 m pc ls st0) rfl (argsL := As) (rest := rest) (hlen _ hsigM) hst (by rw [hb]; exact hdg)
  have hpre : PreK R rm (TrPX D cl tys NX st ad As wc) ⟨T.setVm vm₁, locs, cells, slots⟩ As.toArray := by
    refine ⟨hf.1, hf.2, TrP.at (av := As) hZ hP hD hC (T.setVm vm₁) hT X₁.warmed, ?_⟩
    have h1 : XU st ad A0 s (T.setVm vm₁).heap := hXU.kept (fun q h1 h2 => by show T.heap[q]? = _; rw [hT]; exact hS.2.1 q h1 h2)
    exact (h1.narrow (fun q hq => hF q (by have e : (T.setVm vm₁).heap = H := hT; rw [e] at hq; exact hq))).warm X₁.warmed
  obtain ⟨v, ⟨U', l2, c2, s2⟩, X', hpost, hsteps⟩ := hK m meth c ⟨T.setVm vm₁, locs, cells, slots⟩ (F0 m pc ls rest) (.invokestatic index) mk As.toArray X₁ rfl (hsize.trans hml.symm) (by rw [hb]; exact hdg) (lv_room hW) (X₁.named hnamed) hpre
  obtain ⟨g', mk', t, L, k, n', e1, e2, hq, h1, h2, h3⟩ := hpost
  dsimp only [Pt.U, Pt.locs, Pt.cells, Pt.slots] at X' e1 e2 h1 h2 h3 hsteps
  subst h1; subst h2; subst h3
  exact ⟨v, (T.setVm vm₁).calling g' mk' As.toArray, t, U', L, k, n', hT, X', e1, e2, hq, fun target h => hstep₁ _ fun acts => by rw [doInvoke_state]; exact hsteps.trans h⟩
end XW
