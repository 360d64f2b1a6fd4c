/-! THROWING: contracts of methods that return or throw, the throw of a new exception, the call whose exception is caught. -/
def XZ (O f d : String) (A : Nat → Prop) (U : State) (H : Heap) : Prop := ∃ (c : ClassId) (k : Class) (i : Nat) (fd : Field) (a : Nat) (cell : Cell) (v : Value), U.vm.findClass O = some c ∧ U.fieldFound? O f d = some (c, k, i, fd) ∧ fd.isStatic = true ∧ k.statics = some a ∧ H[a]? = some cell ∧ cell.vm.isStatics = true ∧ cell.cls = c ∧ fd.slot < cell.slots.size ∧ k.staticTypes[fd.slot]? = some fd.type ∧ cell.slots[fd.slot]? = some v ∧ (v = .null ∨ ∃ q, v = .ref q) ∧ ¬ A a
section XZs
variable {O f d : String} {A B : Nat → Prop} {u U s : State} {H H1 : Heap} {args : Array Value}
theorem XZ.moved (hvm : u.vm.Alike U.vm) (h : XZ O f d A u H) : XZ O f d A U H := by
  obtain ⟨c, k, i, fd, a, cell, v, h1, h2, h3, h4, h5, h6, h7, h8, h9, h10, h11, h12⟩ := h
  obtain ⟨k', hi', he⟩ := State.fieldFound?_setVm hvm h2
  exact ⟨c, k', i, fd, a, cell, v, by rw [hvm.findClass]; exact h1, hi', h3, by rw [he]; exact h4, h5, h6, h7, h8, by rw [he]; exact h9, h10, h11, h12⟩
theorem XZ.kept (h : XZ O f d A U H) (hq : ∀ a : Nat, a < H.size → ¬ A a → H1[a]? = H[a]?) : XZ O f d A U H1 := by
  obtain ⟨c, k, i, fd, a, cell, v, h1, h2, h3, h4, h5, h6, h7, h8, h9, h10, h11, h12⟩ := h
  exact ⟨c, k, i, fd, a, cell, v, h1, h2, h3, h4, by rw [hq a (Array.getElem?_eq_some_iff.mp h5).1 h12]; exact h5, h6, h7, h8, h9, h10, h11, h12⟩
theorem XZ.narrow (h : XZ O f d A U H) (hAB : ∀ q, B q → A q) : XZ O f d B U H := by
  obtain ⟨c, k, i, fd, a, cell, v, h1, h2, h3, h4, h5, h6, h7, h8, h9, h10, h11, h12⟩ := h
  exact ⟨c, k, i, fd, a, cell, v, h1, h2, h3, h4, h5, h6, h7, h8, h9, h10, h11, fun z => h12 (hAB a z)⟩
theorem XZ.lays (h : XZ O f d A U U.heap) : (Cond.laysStatic O f d).before args U = true := by
  obtain ⟨c, k, i, fd, a, cell, v, h1, h2, h3, h4, h5, h6, h7, h8, h9, h10, h11, h12⟩ := h
  simp [Cond.before, Cond.holds, Cond.value, h1, h2, h3, h4, h5, h6, h7, h8, h9]
theorem XZ.isRef (h : XZ O f d A U U.heap) : (Cond.isRef (.static O f d)).before args U = true := by
  obtain ⟨c, k, i, fd, a, cell, v, h1, h2, h3, h4, h5, h6, h7, h8, h9, h10, h11, h12⟩ := h
  have he : (Term.static O f d).eval args U none [] U = some v := by simp [Term.eval, State.fieldNamed?, h2, h3, h4, h5, h6, h10]
  simp only [Cond.before, Cond.holds, Cond.value, he]
  rcases h11 with e | ⟨x, e⟩ <;> simp [e]
theorem XZ.of (hl : (Cond.laysStatic O f d).before args s = true) (hr : (Cond.isRef (.static O f d)).before args s = true) (hA : ∀ a : Nat, a < s.heap.size → ¬ A a) : XZ O f d A s s.heap := by
  obtain ⟨c, k, i, fd, a, cell, hc, hf, hst, hsta, hcell, hiss, hcls, hlt, hty⟩ := Cond.laysStatic_spec hl
  have hv : cell.slots[fd.slot]? = some cell.slots[fd.slot] := Array.getElem?_eq_getElem hlt
  refine ⟨c, k, i, fd, a, cell, cell.slots[fd.slot], hc, hf, hst, hsta, hcell, hiss, hcls, hlt, hty, hv, ?_, hA a (Array.getElem?_eq_some_iff.mp hcell).1⟩
  have he : (Term.static O f d).eval args s none [] s = some cell.slots[fd.slot] := by simp [Term.eval, State.fieldNamed?, hf, hst, hsta, hcell, hiss, hv]
  simp only [Cond.before, Cond.holds, Cond.value, he] at hr
  cases hz : cell.slots[fd.slot] <;> simp [hz] at hr ⊢
end XZs
def XU (st : List (Nat × String)) (ad : Nat → Nat) (A : Nat → Prop) (U : State) (H : Heap) : Prop := XZ Bundle.tN "UNASSIGNED_STACK" Bundle.steD A U H ∧ XZ Bundle.tN "SUPPRESSED_SENTINEL" Bundle.listD A U H ∧ (∀ q ∈ st, vk_R "CharOutlines" q.1 q.2 (ad q.1) U) ∧ va_Nc "java/lang/IllegalArgumentException" "java/lang/IndexOutOfBoundsException" U
theorem XU.warm {st : List (Nat × String)} {ad : Nat → Nat} {A : Nat → Prop} {s U : State} {H : Heap} (hW : s.WarmedH U.vm) (h : XU st ad A s H) : XU st ad A U H := ⟨h.1.moved hW.alike, h.2.1.moved hW.alike, fun q hq => (h.2.2.1 q hq).warm hW, h.2.2.2.moved hW.alike⟩
theorem XU.kept {st : List (Nat × String)} {ad : Nat → Nat} {A : Nat → Prop} {U : State} {H H1 : Heap} (h : XU st ad A U H) (hq : ∀ a : Nat, a < H.size → ¬ A a → H1[a]? = H[a]?) : XU st ad A U H1 := ⟨h.1.kept hq, h.2.1.kept hq, h.2.2⟩
theorem XU.narrow {st : List (Nat × String)} {ad : Nat → Nat} {A B : Nat → Prop} {U : State} {H : Heap} (h : XU st ad A U H) (hAB : ∀ q, B q → A q) : XU st ad B U H := ⟨h.1.narrow hAB, h.2.1.narrow hAB, h.2.2⟩
theorem XU.same {st : List (Nat × String)} {ad : Nat → Nat} {A : Nat → Prop} {s U : State} {H : Heap} (hv : U.vm = s.vm) (h : XU st ad A s H) : XU st ad A U H := ⟨h.1.moved (by rw [hv]; exact Vm.Alike.refl _), h.2.1.moved (by rw [hv]; exact Vm.Alike.refl _), fun q hq => (h.2.2.1 q hq).same hv, h.2.2.2.moved (by rw [hv]; exact Vm.Alike.refl _)⟩
def TrPX (D : va_G) (cl : List vw_C) (tys : List (ClassId × FieldType)) (NX : List Cond) (st : List (Nat × String)) (ad : Nat → Nat) (av : List Value) (wc : va_W) : Array Value → State → Prop := fun v U => TrP D cl tys NX av wc v U ∧ XU st ad (va_A wc U.heap.size) U U.heap
def TxQ (D : va_G) (cl : List vw_C) (wc : va_W) (post : Option Value → va_W → Nat → Nat → Prop) (px : String → Prop) : Array Value → State → Outcome → State → Prop := fun a st o t =>
  (∃ (L : List Loc) (k n : Nat), FrameEnd st o t L k n ∧ TrQ D cl wc post a st o t L k n) ∨
  ∃ (x : Addr) (X : String) (ce : Cell), o = .threw x ∧ st.WarmedH t.vm ∧ st.sameButNew ({ t with vm := st.vm } : State) [] 1 6 ∧ px X ∧ t.heap[x]? = some ce ∧ st.vm.findClass X = some ce.cls ∧ ce.vm = .none
def TrX (l : Launch) (D : va_G) (cl : List vw_C) (tys : List (ClassId × FieldType)) (Ts NX : List Cond) (st : List (Nat × String)) (ad : Nat → Nat) (y : MethodName) (bytes : ByteArray) (maxL : Nat) (ret : Option FieldType) (rm : Room) (av : List Value) (wc : va_W) (post : Option Value → va_W → Nat → Nat → Prop) (px : String → Prop) : Prop :=
  MetFree l y (headSpec (Cond.code y bytes maxL ret :: Ts) rm) (TrPX D cl tys NX st ad av wc) (fun _ _ _ _ _ => True) (TxQ D cl wc post px)
def MQX (below : List Frame) (D : va_G) (cl : List vw_C) (A : Nat → Prop) (post : Option Value → va_W → Nat → Nat → Prop) (px : String → Prop) (s : State) : State → Prop := fun t =>
  MQT below D cl A post s t ∨ ∃ (x : Addr) (X : String) (ce : Cell), t.status = .running ∧ Ended t below (.threw x) ∧ s.WarmedH t.vm ∧ s.sameButNew ({ t with vm := s.vm } : State) [] 1 6 ∧ px X ∧ t.heap[x]? = some ce ∧ s.vm.findClass X = some ce.cls ∧ ce.vm = .none
theorem TrX.intro {l : Launch} {D : va_G} {cl : List vw_C} {tys : List (ClassId × FieldType)} {Ts NX : List Cond} {st : List (Nat × String)} {ad : Nat → Nat} {y : MethodName} {bytes : ByteArray} {maxL : Nat} {ret : Option FieldType} {rm : Room} {av : List Value} {wc : va_W} {post : Option Value → va_W → Nat → Nat → Prop} {px : String → Prop}
    (hy : plainFor y = true) (hN : NXok NX) (hsz : (lg_sl av).length ≤ maxL)
    (body : ∀ (p : Program) (e : Env) (s : State) (m : MethodId) (args : Array Value) (below : List Frame) (meth : Method) (c : Code) (A : Nat → Prop) (ls : Array Slot),
      p.tables.exec = Jvm.exec → c.code = bytes → c.maxLocals = maxL → s.vm.findClass y.cls = some m.cls → (∀ w ∈ Ts, w.before args s = true) → meth.sig.returnType = ret → meth.locks = false → meth.name = y.name →
      Sit D cl tys NX s A → va_P D cl wc s.heap → va_D A wc → va_S A s.heap s.heap [] → lv_has ls maxL (lv_args 0 av) → XU st ad A s s.heap → c.exceptionTable.isEmpty = true →
      W p l e rm s m args below meth c s.heap [] 0 0 (MQX below D cl A post px s) (F0 m 0 ls [])) : TrX l D cl tys Ts NX st ad y bytes maxL ret rm av wc post px := by
  unfold TrX
  refine MetFree.of_bodySF (code := bytes) (maxLocals := maxL) (ret := ret) hy ?_ ?_
  · intro args s m h hn
    obtain ⟨meth, c, h1, h2, h3, h4, h5, h6, -, -⟩ := Cond.code_spec hn (atoms_spec (ws := Cond.code y bytes maxL ret :: Ts) h _ List.mem_cons_self)
    exact ⟨meth, c, h1, h2, h3, h4, h5, h6⟩
  · intro p e s m args below meth c s₁ B hml hP _
    obtain ⟨⟨rfl, hP, hK, hD0, hNs⟩, hX⟩ := hP
    have hh0 : s₁.heap = s.heap := by rw [B.state]; rfl
    have hts := atoms_spec (ws := Cond.code y bytes maxL ret :: Ts) B.pre
    have hb := body p e s m av.toArray below meth c (va_A wc s.heap.size) _ B.exec B.bytes hml (findClass_of_methodNamed B.named) (fun w hw => hts w (List.mem_cons_of_mem _ hw)) B.returns B.notSynchronized (name_of_methodNamed B.named B.method).1
      ⟨hK, hNs, hN, fun q h => Or.inr h⟩ hP (hD0.self (sz := s.heap.size)) va_S.rf (lv_entry av (n := maxL) hsz) hX (B.noHandlers (hts _ List.mem_cons_self))
    rw [← lg_entry_eq] at hb
    obtain ⟨t, a1, hq⟩ := hb s₁ hh0 (Stand.of_body B)
    rcases hq with ⟨v, w1, L, k, n, b1, b2, b3, b4, b5, b6, b7, b8⟩ | ⟨x, X, ce, b1, b2, b3, b4, b5, b6, b7, b8⟩
    · exact ⟨t, .returned v, a1, b1, b2, Or.inl ⟨L, k, n, b3, v, w1, rfl, b4, b5, b6, b7, b8⟩⟩
    · exact ⟨t, .threw x, a1, b1, b2, Or.inr ⟨x, X, ce, rfl, b3, b4, b5, b6, b7, b8⟩⟩
section XT
variable {p : Program} {l : Launch} {e : Env} {R : Room} {s : State} {m : MethodId} {args : Array Value} {below : List Frame} {meth : Method} {c : Code} {H : Heap} {locs : List Loc} {cells slots : Nat} {Q : State → Prop}
variable {cc : ByteArray} {pc : Nat} {ls : Array Slot} {D : va_G} {cl : List vw_C} {A : Nat → Prop} {post : Option Value → va_W → Nat → Nat → Prop} {px : String → Prop}
theorem x_ret {g : JFrame} (h : W p l e R s m args below meth c H locs cells slots (MQT below D cl A post s) g) : W p l e R s m args below meth c H locs cells slots (MQX below D cl A post px s) g := by
  intro T hT X
  obtain ⟨t, a, b⟩ := h T hT X
  exact ⟨t, a, Or.inl b⟩
/-- throw new cls(text) -/
theorem x_throw (hfl : l.flags = pinnedFlags ++ [noTraceFlag]) (hx : p.tables.exec = Jvm.exec) (hb : c.code = cc) (hml : c.maxLocals = ls.size) (hlk : meth.locks = false) {own cls tx : String} {names : List String} {ia ib ic q : Nat} (hown : s.vm.findClass own = some m.cls)
    (hcls : Bundle.fit cls = true) (hnames : ∀ n ∈ names, Bundle.fit n = true) (hat : ∀ a ∈ Bundle.ownAtoms own ic cls names, a.before args s = true) (hcl : (Cond.classLink own ia cls).before args s = true) (hini : (Cond.initialized cls).before args s = true) (hst : vk_R own ib tx q s)
    (hno : c.exceptionTable.isEmpty = true) (hRf : names.length + 3 < R.frames) (hRl : 1 + (13 * (names.length + 1) + 42) ≤ R.locals) (hRc : 1 ≤ R.cells) (hRs : 6 ≤ R.slots) (hpx : px cls)
    (d0 : decode cc pc = .ok (.new ia, 3)) (d3 : decode cc (pc + 3) = .ok (.dup, 1)) (d4 : decode cc (pc + 3 + 1) = .ok (.ldc ib, 2)) (d6 : decode cc (pc + 3 + 1 + 2) = .ok (.invokespecial ic, 3)) (d9 : decode cc (pc + 3 + 1 + 2 + 3) = .ok (.athrow, 1)) :
    W p l e R s m args below meth c s.heap [] 0 0 (MQX below D cl A post px s) (F0 m pc ls []) := by
  have hins : (Cond.instantiable cls 6).before args s = true := hat _ (by simp [Bundle.ownAtoms])
  refine W.newc (n := 6) hx hb hown hcl hins hini rfl d0 (by omega) (by omega) (fun cC kC h1 h2 h3 h4 => ?_)
  refine W.eq (g2 := F0 m (pc + 3) ls [.ref s.heap.size]) rfl ?_
  refine lv_dup hx hb d3 rfl ?_
  refine va_ldcS hx hb hown hst d4 ?_
  intro T hT X
  have hcell : T.heap[s.heap.size]? = some (freshCell cC kC) := by
    rw [hT]
    simp [freshCell]
  have htr : e.platform.stackTraces = false := Launch.traces_off hfl X.admits
  have hout : ∀ x ∈ c.exceptionTable.toList, covers x (pc + 3 + 1 + 2 + 3) = false := by
    intro x hx
    have : c.exceptionTable = #[] := Array.isEmpty_iff.mp hno
    rw [this] at hx
    cases hx
  obtain ⟨U, u1, u2, u3, u4, u5, ce, u6, u7⟩ := X.ctorThrowS hx htr (own := own) (cls := cls) (names := names) (ic := ic) hown hcls hnames hat (fun x hx => by cases hx) h1 h2 hcell (Nat.le_refl _) (msg := .ref q) rfl
    (g := F0 m (pc + 3 + 1 + 2) ls [.ref q, .ref s.heap.size, .ref s.heap.size]) rfl hml.symm rfl rfl (rest := []) rfl (by rw [hb]; exact d6) (by rw [hb]; exact d9) hout hRf (by show 2 * 0 + _ + _ ≤ _; simp [Value.category]; omega) (hlocks := hlk)
  exact ⟨U, u1, Or.inr ⟨s.heap.size, cls, ce, u2, u3, u4, by simpa using u5, hpx, u6, u7.cls, u7.vm⟩⟩
end XT
