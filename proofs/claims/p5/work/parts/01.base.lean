/-! THE BASE: contracts as triples over worlds (small footprints, a frame rule), that tell how many cells and slots came. -/
def MetK (l : Launch) (y : MethodName) (ws : List Cond) (rm : Room) (Pc : Array Value → State → Prop) (Qc : Array Value → State → Outcome → State → List Loc → Nat → Nat → Prop) : Prop :=
  MetFree l y (headSpec ws rm) Pc (fun _ _ _ _ _ => True) (fun a st o t => ∃ L k n, FrameEnd st o t L k n ∧ Qc a st o t L k n)
def PreK (R rm : Room) (Pc : Array Value → State → Prop) : Pt → Array Value → Prop := fun A a => A.cells + rm.cells ≤ R.cells ∧ A.slots + rm.slots ≤ R.slots ∧ Pc a A.U
def PostK (Qc : Array Value → State → Outcome → State → List Loc → Nat → Nat → Prop) : Pt → Array Value → Option Value → Pt → Prop := fun A a v B =>
  ∃ (g : JFrame) (mk : MethodId) (t : State) (L : List Loc) (k n : Nat), B.U.heap = t.heap ∧ B.U.vm = t.vm ∧ Qc a (A.U.calling g mk a) (.returned v) t L k n ∧ B.locs = A.locs ++ L ∧ B.cells = A.cells + k ∧ B.slots = A.slots + n
section BK
variable {l : Launch} {R : Room} {p : Program} {e : Env} {below : List Frame} {s : State} {sargs : Array Value} {y : MethodName} {len W : Nat}
theorem back_ofK {ws : List Cond} {rm : Room} {Pc : Array Value → State → Prop} {Qc : Array Value → State → Outcome → State → List Loc → Nat → Nat → Prop} {bytes : ByteArray} {maxL : Nat} {ret : Option FieldType}
    (hM : MetK l y ws rm Pc Qc) (hblind : FrameBlind Pc) (hframes : rm.frames + 1 ≤ R.frames) (hlocals : W + (maxL + 11) + rm.locals ≤ R.locals)
    (hws : ∀ w ∈ ws, ∀ a' U, s.WarmedH U.vm → w.before a' U = true) (hcode : Cond.code y bytes maxL ret ∈ ws) (hinit : ∀ a' U, s.WarmedH U.vm → (Cond.initialized y.cls).before a' U = true) :
    Back l R p e below s sargs y len W (PreK R rm Pc) (PostK Qc) := by
  refine Back.of_free (S := headSpec ws rm) (P := Pc) (K := fun _ _ _ _ _ => True) (Q := fun a st o t => ∃ L k n, FrameEnd st o t L k n ∧ Qc a st o t L k n) (bytes := bytes) (maxL := maxL) (ret := ret)
    (E := fun a st o t L k n => Qc a st o t L k n) hM hframes hlocals ?_ ?_ (fun _ _ _ _ _ _ _ _ _ => trivial) ?_ ?_
  · intro m meth c A a X hp
    exact ⟨atoms_intro fun w hw => hws w hw _ _ X.warmed, hws _ hcode _ _ X.warmed, hinit _ _ X.warmed, hp.1, hp.2.1⟩
  · intro m meth c A a g mk X hp
    exact hblind _ _ _ _ hp.2.2
  · intro a st o t ⟨L, k, n, hF, hq⟩
    exact ⟨L, k, n, hF, hq⟩
  · intro m meth c A a g mk v t L k n X hp hq hF hE
    exact ⟨g, mk, t, L, k, n, rfl, rfl, hE, rfl, rfl, rfl⟩
end BK
/-- what a call asks of its callee's words -/
def Cal (Ts : List Cond) (y : MethodName) (bytes : ByteArray) (maxL : Nat) (ret : Option FieldType) (n : Nat) : Prop :=
  Cond.code y bytes maxL ret ∈ Ts ∧ Cond.initialized y.cls ∈ Ts ∧ (y.cls ≠ "java/lang/invoke/MethodHandle" ∧ y.cls ≠ "java/lang/invoke/VarHandle") ∧ (parseMethodDescriptor y.desc).map (fun d => d.parameters.length) = some n
def CalV (Ts : List Cond) (C : String) (y : MethodName) (bytes : ByteArray) (maxL : Nat) (ret : Option FieldType) (n : Nat) : Prop :=
  Cal Ts y bytes maxL ret n ∧ Cond.instanceMethod y ∈ Ts ∧ Cond.selects C y y ∈ Ts
def CalS (Ts : List Cond) (y : MethodName) (bytes : ByteArray) (maxL : Nat) (ret : Option FieldType) (n : Nat) : Prop :=
  Cal Ts y bytes maxL ret n ∧ Cond.static y ∈ Ts
def CalI (Ts : List Cond) (y : MethodName) (bytes : ByteArray) (maxL : Nat) (n : Nat) : Prop :=
  Cal Ts y bytes maxL none n ∧ y.name = "<init>" ∧ Cond.instanceMethod y ∈ Ts
/-- words of nest mates: they hold, whatever was linked since -/
def NW (NX : List Cond) (U : State) : Prop := ∀ w ∈ NX, va_Nw w U
def NXok (NX : List Cond) : Prop := ∀ w ∈ NX, (∃ a i x h, w = Cond.methodLinkNest a i x h) ∨ (∃ a i b n d h, w = Cond.fieldLinkNest a i b n d h) ∨ (∃ x, w = Cond.declares x) ∨ ∃ x y, w = Cond.castable x y
theorem va_Nw.warmC2 {x y : String} {s U : State} (hW : s.WarmedH U.vm) (hZ : va_Nw (.castable x y) s) : va_Nw (.castable x y) U := va_tabs rfl (rfl : (s.setVm U.vm).vm = U.vm) (by rw [Cond.castable_setVm hW.alike]; exact hZ)
theorem NW.warm {NX : List Cond} {s U : State} (hN : NXok NX) (hW : s.WarmedH U.vm) (h : NW NX s) : NW NX U := by
  intro w hw
  rcases hN w hw with ⟨a, i, x, k, rfl⟩ | ⟨a, i, b, n, d, k, rfl⟩ | ⟨x, rfl⟩ | ⟨x, y, rfl⟩
  · exact va_Nw.warmM hW (h _ hw)
  · exact va_Nw.warmF hW (h _ hw)
  · exact va_Nw.warmD hW (h _ hw)
  · exact va_Nw.warmC2 hW (h _ hw)
theorem NW.same {NX : List Cond} {s U : State} (hN : NXok NX) (hW : s.vm = U.vm) (h : NW NX s) : NW NX U := by
  intro w hw
  rcases hN w hw with ⟨a, i, x, k, rfl⟩ | ⟨a, i, b, n, d, k, rfl⟩ | ⟨x, rfl⟩ | ⟨x, y, rfl⟩ <;> exact va_Nw.same rfl hW (h _ hw)
def RunK (p : Program) (l : Launch) (e : Env) (R : Room) (s : State) (m : MethodId) (args : Array Value) (below : List Frame) (meth : Method) (c : Code) (H : Heap) (locs : List Loc) (cells slots : Nat) (g : JFrame) (rest : List Value) (Qa : State → Option Value → State → List Loc → Nat → Nat → Prop) : Prop :=
  ∀ T : State, T.heap = H → Stand p l e R s m args below meth c T locs cells slots → ∃ (v : Option Value) (st₀ t T' : State) (L : List Loc) (k n : Nat), st₀.heap = H ∧ Stand p l e R s m args below meth c T' (locs ++ L) (cells + k) (slots + n) ∧ T'.heap = t.heap ∧ T'.vm = t.vm ∧ Qa st₀ v t L k n ∧
    Goes p e below T g T' { g with pc := g.pc + 3, stack := v.toList ++ rest }
section RK
variable {p : Program} {l : Launch} {e : Env} {R : Room} {s : State} {m : MethodId} {args : Array Value} {below : List Frame} {meth : Method} {c : Code} {H : Heap} {locs : List Loc} {cells slots : Nat}
variable {y : MethodName} {bytes cc : ByteArray} {maxL nL n index : Nat} {ret : Option FieldType} {rm : Room} {Pc : Array Value → State → Prop} {Qc : Array Value → State → Outcome → State → List Loc → Nat → Nat → Prop} {Ts : List Cond} {own C host : String} {b : Addr} {As rest : List Value} {g : JFrame}
theorem Cal.len {Ts : List Cond} (h : Cal Ts y bytes maxL ret n) : ∀ sig, parseMethodDescriptor y.desc = some sig → n = sig.parameters.length := fun sig hs => by
  have h2 := h.2.2.2
  rw [hs] at h2
  exact (Option.some.inj h2).symm
theorem Cal.back (ht : ∀ w ∈ Ts, w.before args s = true) (hG : GoodIn Ts Ts) (hM : MetK l y (Cond.code y bytes maxL ret :: Ts) rm Pc Qc) (hc : Cal Ts y bytes maxL ret n) (hbl : FrameBlind Pc) (hR : rm.frames + 1 ≤ R.frames ∧ 8 + (maxL + 11) + rm.locals ≤ R.locals) :
    Back l R p e below s args y 3 8 (PreK R rm Pc) (PostK Qc) := by
  refine back_ofK (bytes := bytes) (maxL := maxL) (ret := ret) hM hbl hR.1 hR.2 ?_ List.mem_cons_self (fun a' U hW => word_at hW (hG _ hc.2.1).2 (ht _ hc.2.1))
  intro w hw
  rcases List.mem_cons.mp hw with rfl | hw
  · exact pay_in ht hG _ hc.1
  · exact pay_in ht hG _ hw
theorem runKV (S : CallFix p m c cc nL s args Ts own) (hG : GoodIn Ts Ts) (hM : MetK l y (Cond.code y bytes maxL ret :: Ts) rm Pc Qc) (hc : CalV Ts C y bytes maxL ret n) (hl : Cond.methodLink own index y ∈ Ts) (hR : rm.frames + 1 ≤ R.frames ∧ 8 + (maxL + 11) + rm.locals ≤ R.locals) (hp : PreV s H C b Pc As)
    (hg : g.method = m) (hn : As.length = n) (hsize : g.locals.size = nL) (hstack : g.stack = As.reverse ++ .ref b :: rest) (hW : 2 * g.monitorRoom + (rest.map fun v => v.category).sum ≤ 8) (hdg : decode cc g.pc = .ok (.invokevirtual index, 3)) (hf : cells + rm.cells ≤ R.cells ∧ slots + rm.slots ≤ R.slots) :
    RunK p l e R s m args below meth c H locs cells slots g rest (fun st v t L k n => Qc (Value.ref b :: As).toArray st (.returned v) t L k n) := by
  obtain ⟨hx, hb, hml, ho, ht⟩ := S
  have hK : Back l R p e below s args y 3 8 (PreK R rm Pc) (PostK Qc) := hc.1.back ht hG hM hp.1 hR
  obtain ⟨-, ⟨cellB, hcB, hoB, hclB⟩, hPc⟩ := hp
  intro T hT X
  obtain ⟨v, vm₁, ⟨U', l2, c2, s2⟩, hW₁, X', ⟨g', mk, t, L, k, n', e1, e2, hq, h1, h2, h3⟩, st⟩ := callV X hx (C := C) (bytes := bytes) (maxL := maxL) (ret := ret) ho (ht _ hl) (ht _ hc.2.1) (ht _ hc.2.2) (ht _ hc.1.1) hc.1.2.2.1 hK (by rw [hT]; exact hcB) hoB hclB hg (hsize.trans hml.symm) (argsL := As) (rest := rest) (fun sig h => hn.trans (hc.1.len sig h)) hstack hW (by rw [hb]; exact hdg)
    (fun vm₁ hW₁ => ⟨hf.1, hf.2, hPc (T.setVm vm₁) hT hW₁⟩)
  dsimp only [Pt.U, Pt.locs, Pt.cells, Pt.slots] at X' e1 e2 h1 h2 h3 st
  subst h1; subst h2; subst h3
  exact ⟨v, (T.setVm vm₁).calling g' mk (Value.ref b :: As).toArray, t, U', L, k, n', hT, X', e1, e2, hq, st⟩
theorem runKS (S : CallFix p m c cc nL s args Ts own) (hG : GoodIn Ts Ts) (hM : MetK l y (Cond.code y bytes maxL ret :: Ts) rm Pc Qc) (hc : CalS Ts y bytes maxL ret n) (hl : Cond.methodLink own index y ∈ Ts) (hR : rm.frames + 1 ≤ R.frames ∧ 8 + (maxL + 11) + rm.locals ≤ R.locals) (hp : PreS s H Pc As)
    (hg : g.method = m) (hn : As.length = n) (hsize : g.locals.size = nL) (hstack : g.stack = As.reverse ++ rest) (hW : 2 * g.monitorRoom + (rest.map fun v => v.category).sum ≤ 8) (hdg : decode cc g.pc = .ok (.invokestatic index, 3)) (hf : cells + rm.cells ≤ R.cells ∧ slots + rm.slots ≤ R.slots) :
    RunK p l e R s m args below meth c H locs cells slots g rest (fun st v t L k n => Qc As.toArray st (.returned v) t L k n) := by
  obtain ⟨hx, hb, hml, ho, ht⟩ := S
  have hK : Back l R p e below s args y 3 8 (PreK R rm Pc) (PostK Qc) := hc.1.back ht hG hM hp.1 hR
  intro T hT X
  obtain ⟨v, vm₁, ⟨U', l2, c2, s2⟩, hW₁, X', ⟨g', mk, t, L, k, n', e1, e2, hq, h1, h2, h3⟩, st⟩ := callS X hx (bytes := bytes) (maxL := maxL) (ret := ret) ho (ht _ hl) (ht _ hc.2) (ht _ hc.1.2.1) (ht _ hc.1.1) hc.1.2.2.1 hK hg (hsize.trans hml.symm) (argsL := As) (rest := rest) (fun sig h => hn.trans (hc.1.len sig h)) hstack hW (by rw [hb]; exact hdg)
    (fun vm₁ hW₁ => ⟨hf.1, hf.2, hp.2 (T.setVm vm₁) hT hW₁⟩)
  dsimp only [Pt.U, Pt.locs, Pt.cells, Pt.slots] at X' e1 e2 h1 h2 h3 st
  subst h1; subst h2; subst h3
  exact ⟨v, (T.setVm vm₁).calling g' mk As.toArray, t, U', L, k, n', hT, X', e1, e2, hq, st⟩
theorem runKI (S : CallFix p m c cc nL s args Ts own) (hG : GoodIn Ts Ts) (hM : MetK l y (Cond.code y bytes maxL none :: Ts) rm Pc Qc) (hc : CalI Ts y bytes maxL n) (hl : Cond.methodLink own index y ∈ Ts) (hR : rm.frames + 1 ≤ R.frames ∧ 8 + (maxL + 11) + rm.locals ≤ R.locals) (hp : PreS s H Pc (.ref b :: As))
    (hg : g.method = m) (hn : As.length = n) (hsize : g.locals.size = nL) (hstack : g.stack = As.reverse ++ .ref b :: rest) (hW : 2 * g.monitorRoom + (rest.map fun v => v.category).sum ≤ 8) (hdg : decode cc g.pc = .ok (.invokespecial index, 3)) (hf : cells + rm.cells ≤ R.cells ∧ slots + rm.slots ≤ R.slots) :
    RunK p l e R s m args below meth c H locs cells slots g rest (fun st v t L k n => Qc (Value.ref b :: As).toArray st (.returned v) t L k n) := by
  obtain ⟨hx, hb, hml, ho, ht⟩ := S
  have hK : Back l R p e below s args y 3 8 (PreK R rm Pc) (PostK Qc) := hc.1.back ht hG hM hp.1 hR
  intro T hT X
  obtain ⟨v, vm₁, ⟨U', l2, c2, s2⟩, hW₁, X', ⟨g', mk, t, L, k, n', e1, e2, hq, h1, h2, h3⟩, st⟩ := callI X hx (bytes := bytes) (maxL := maxL) ho hc.2.1 (ht _ hl) (ht _ hc.2.2) (ht _ hc.1.1) hc.1.2.2.1 hK hg (hsize.trans hml.symm) (a := b) (argsL := As) (rest := rest) (fun sig h => hn.trans (hc.1.len sig h)) hstack hW (by rw [hb]; exact hdg)
    (fun vm₁ hW₁ => ⟨hf.1, hf.2, hp.2 (T.setVm vm₁) hT hW₁⟩)
  dsimp only [Pt.U, Pt.locs, Pt.cells, Pt.slots] at X' e1 e2 h1 h2 h3 st
  subst h1; subst h2; subst h3
  exact ⟨v, (T.setVm vm₁).calling g' mk (Value.ref b :: As).toArray, t, U', L, k, n', hT, X', e1, e2, hq, st⟩
theorem runKIN (S : CallFix p m c cc nL s args Ts own) (hG : GoodIn Ts Ts) (hM : MetK l y (Cond.code y bytes maxL none :: Ts) rm Pc Qc) (hc : CalI Ts y bytes maxL n) (hl : va_Nw (.methodLinkNest own index y host) s) (hR : rm.frames + 1 ≤ R.frames ∧ 8 + (maxL + 11) + rm.locals ≤ R.locals) (hp : PreS s H Pc (.ref b :: As))
    (hg : g.method = m) (hn : As.length = n) (hsize : g.locals.size = nL) (hstack : g.stack = As.reverse ++ .ref b :: rest) (hW : 2 * g.monitorRoom + (rest.map fun v => v.category).sum ≤ 8) (hdg : decode cc g.pc = .ok (.invokespecial index, 3)) (hf : cells + rm.cells ≤ R.cells ∧ slots + rm.slots ≤ R.slots) :
    RunK p l e R s m args below meth c H locs cells slots g rest (fun st v t L k n => Qc (Value.ref b :: As).toArray st (.returned v) t L k n) := by
  obtain ⟨hx, hb, hml, ho, ht⟩ := S
  have hK : Back l R p e below s args y 3 8 (PreK R rm Pc) (PostK Qc) := hc.1.back ht hG hM hp.1 hR
  intro T hT X
  obtain ⟨v, vm₁, ⟨U', l2, c2, s2⟩, hW₁, X', ⟨g', mk, t, L, k, n', e1, e2, hq, h1, h2, h3⟩, st⟩ := va_callIN X hx (bytes := bytes) (maxL := maxL) ho hc.2.1 (va_Nw.use rfl hl) (ht _ hc.2.2) (ht _ hc.1.1) hc.1.2.2.1 hK hg (hsize.trans hml.symm) (a := b) (argsL := As) (rest := rest) (fun sig h => hn.trans (hc.1.len sig h)) hstack hW (by rw [hb]; exact hdg)
    (fun vm₁ hW₁ => ⟨hf.1, hf.2, hp.2 (T.setVm vm₁) hT hW₁⟩)
  dsimp only [Pt.U, Pt.locs, Pt.cells, Pt.slots] at X' e1 e2 h1 h2 h3 st
  subst h1; subst h2; subst h3
  exact ⟨v, (T.setVm vm₁).calling g' mk (Value.ref b :: As).toArray, t, U', L, k, n', hT, X', e1, e2, hq, st⟩
end RK
/-! triples -/
def TrP (D : va_G) (cl : List vw_C) (tys : List (ClassId × FieldType)) (NX : List Cond) (av : List Value) (wc : va_W) : Array Value → State → Prop :=
  va_Pc av (fun U => va_P D cl wc U.heap ∧ va_K D cl tys U ∧ va_D (fun _ => True) wc ∧ NW NX U)
def TrQ (D : va_G) (cl : List vw_C) (wc : va_W) (post : Option Value → va_W → Nat → Nat → Prop) : Array Value → State → Outcome → State → List Loc → Nat → Nat → Prop := fun _ st o t L k n =>
  ∃ (v : Option Value) (w1 : va_W), o = .returned v ∧ post v w1 k n ∧ va_P D cl w1 t.heap ∧ va_D (va_A wc st.heap.size) w1 ∧ va_F (va_A wc st.heap.size) st t ∧ ∀ q ∈ L, va_A wc st.heap.size q.base
def Tr (l : Launch) (D : va_G) (cl : List vw_C) (tys : List (ClassId × FieldType)) (Ts NX : List Cond) (y : MethodName) (bytes : ByteArray) (maxL : Nat) (ret : Option FieldType) (rm : Room) (av : List Value) (wc : va_W) (post : Option Value → va_W → Nat → Nat → Prop) : Prop :=
  MetK l y (Cond.code y bytes maxL ret :: Ts) rm (TrP D cl tys NX av wc) (TrQ D cl wc post)
def pI0 (post : Int32 → va_W → Prop) : Option Value → va_W → Nat → Nat → Prop := fun v w k n => ∃ r, v = some (.int r) ∧ k = 0 ∧ n = 0 ∧ post r w
def pL0 (post : Int64 → va_W → Prop) : Option Value → va_W → Nat → Nat → Prop := fun v w k n => ∃ r, v = some (.long r) ∧ k = 0 ∧ n = 0 ∧ post r w
def pR0 (post : Nat → va_W → Prop) : Option Value → va_W → Nat → Nat → Prop := fun v w k n => ∃ r, v = some (.ref r) ∧ k = 0 ∧ n = 0 ∧ post r w
def pV0 (post : va_W → Prop) : Option Value → va_W → Nat → Nat → Prop := fun v w k n => v = none ∧ k = 0 ∧ n = 0 ∧ post w
def pI (post : Int32 → va_W → Nat → Nat → Prop) : Option Value → va_W → Nat → Nat → Prop := fun v w k n => ∃ r, v = some (.int r) ∧ post r w k n
def pR (post : Nat → va_W → Nat → Nat → Prop) : Option Value → va_W → Nat → Nat → Prop := fun v w k n => ∃ r, v = some (.ref r) ∧ post r w k n
def pV (post : va_W → Nat → Nat → Prop) : Option Value → va_W → Nat → Nat → Prop := fun v w k n => v = none ∧ post w k n
theorem TrP.blind {D : va_G} {cl : List vw_C} {tys : List (ClassId × FieldType)} {NX : List Cond} {av : List Value} {wc : va_W} (hN : NXok NX) : FrameBlind (TrP D cl tys NX av wc) := fun a U g mk q => by
  obtain ⟨q0, qP, qK, qD, qN⟩ := q
  exact ⟨q0, qP, va_K.moved (u := U) (U := U.calling g mk a) (Vm.Alike.refl U.vm) qK, qD, NW.same (s := U) (U := U.calling g mk a) hN rfl qN⟩
theorem va_P.subm {D : va_G} {cl : List vw_C} {ws ws' : va_W} {H : Heap} (h : va_P D cl ws H) (is : List Nat) (hs : is.map (fun i => ws[i]?) = ws'.map some) : va_P D cl ws' H := fun k q hk => by
  have h1 : (is.map (fun i => ws[i]?))[k]? = some (some q) := by rw [hs, List.getElem?_map, hk]; rfl
  rw [List.getElem?_map] at h1
  cases hi : is[k]? with
  | none => rw [hi] at h1; cases h1
  | some i => rw [hi] at h1; exact h i q (Option.some.inj h1)
section TG
variable {p : Program} {l : Launch} {e : Env} {R : Room} {s : State} {m : MethodId} {args : Array Value} {below : List Frame} {meth : Method} {c : Code} {H : Heap} {locs : List Loc} {cells slots : Nat} {Q : State → Prop}
variable {y : MethodName} {bytes cc : ByteArray} {maxL nL n index : Nat} {ret : Option FieldType} {rm : Room} {Ts NX : List Cond} {own C host : String} {b : Addr} {As rest st0 : List Value} {pc : Nat} {ls : Array Slot}
variable {D : va_G} {cl : List vw_C} {tys : List (ClassId × FieldType)} {ws wc wr : va_W} {A0 : Nat → Prop} {a : Array Value} {post : Option Value → va_W → Nat → Nat → Prop}
/-- the caller's world, cut: the callee's part at isC, the rest at isR -/
def Cut (ws wc wr : va_W) (isC isR : List Nat) : Prop := isC.map (fun i => ws[i]?) = wc.map some ∧ isR.map (fun i => ws[i]?) = wr.map some ∧ va_nd isC = true ∧ va_nd isR = true ∧ ∀ i ∈ isR, i ∉ isC
/-- what stands around a walk: the tables, the world -/
def Sit (D : va_G) (cl : List vw_C) (tys : List (ClassId × FieldType)) (NX : List Cond) (s : State) (A0 : Nat → Prop) : Prop := va_K D cl tys s ∧ NW NX s ∧ NXok NX ∧ ∀ q, s.heap.size ≤ q → A0 q
theorem TrP.at {av : List Value} (hZ : Sit D cl tys NX s A0) (hP : va_P D cl ws H) (hD : va_D A0 ws) {isC isR : List Nat} (hC : Cut ws wc wr isC isR) :
    ∀ U : State, U.heap = H → s.WarmedH U.vm → TrP D cl tys NX av wc av.toArray U := by
  intro U hU hW
  exact ⟨rfl, by rw [hU]; exact hP.subm isC hC.1, va_K.moved hW.alike hZ.1, (hD.sub isC hC.2.2.1 hC.1).weaken (fun _ _ _ _ => trivial), hZ.2.1.warm hZ.2.2.1 hW⟩
theorem tr_go (hr : RunK p l e R s m args below meth c H locs cells slots (F0 m pc ls st0) rest (fun st v t L k n => TrQ D cl wc post a st (.returned v) t L k n))
    (hZ : Sit D cl tys NX s A0) (hP : va_P D cl ws H) (hD : va_D A0 ws) (hS : va_S A0 s.heap H locs) {isC isR : List Nat} (hC : Cut ws wc wr isC isR)
    (kk : ∀ (v : Option Value) (w1 : va_W) (k n : Nat) (H1 : Heap) (locs1 : List Loc), post v w1 k n → va_P D cl (wr ++ w1) H1 → va_D A0 (wr ++ w1) → va_S A0 s.heap H1 locs1 → W p l e R s m args below meth c H1 locs1 (cells + k) (slots + n) Q (F0 m (pc + 3) ls (v.toList ++ rest))) :
    W p l e R s m args below meth c H locs cells slots Q (F0 m pc ls st0) := by
  intro T hT X
  obtain ⟨v, st₀, t, T', L, k, n, h0, X', e1, e2, ⟨v', w1, hv, hq, hP1, hD1, hF1, hL⟩, st⟩ := hr T hT X
  cases hv
  rw [h0] at hD1 hL
  have hF : ∀ q, va_A wc H.size q → A0 q := va_free hD hS hZ.2.2.2 isC hC.1
  have hk : ∀ q : Nat, q < H.size → ¬ va_A wc H.size q → T'.heap[q]? = H[q]? := fun q h1 h2 => by
    rw [e1, ← h0]
    exact hF1.2 q (by rw [h0]; exact h1) (by rw [h0]; exact h2)
  have hz : H.size ≤ T'.heap.size := by rw [e1, ← h0]; exact hF1.1
  obtain ⟨hPj, hDj⟩ := va_join (wr := wr) (w1 := w1) hP hD isC isR hC.1 hC.2.1 hC.2.2.2.1 hC.2.2.2.2 hk hF (by rw [e1]; exact hP1) hD1
  obtain ⟨t2, a1, b1⟩ := kk v w1 k n T'.heap (locs ++ L) hq hPj hDj ⟨Nat.le_trans hS.1 hz, fun q h1 h2 => by
      rw [hk q (Nat.lt_of_lt_of_le h1 hS.1) (fun z => h2 (hF q z))]
      exact hS.2.1 q h1 h2, fun q hq => by
      rcases List.mem_append.mp hq with h | h
      · exact hS.2.2 q h
      · exact hF _ (hL q h)⟩ T' rfl X'
  exact ⟨t2, st t2 a1, b1⟩
theorem goI0 {po : Int32 → va_W → Prop} (hr : RunK p l e R s m args below meth c H locs cells slots (F0 m pc ls st0) rest (fun st v t L k n => TrQ D cl wc (pI0 po) a st (.returned v) t L k n))
    (hZ : Sit D cl tys NX s A0) (hP : va_P D cl ws H) (hD : va_D A0 ws) (hS : va_S A0 s.heap H locs) {isC isR : List Nat} (hC : Cut ws wc wr isC isR)
    (kk : ∀ (r : Int32) (w1 : va_W) (H1 : Heap) (locs1 : List Loc), po r w1 → va_P D cl (wr ++ w1) H1 → va_D A0 (wr ++ w1) → va_S A0 s.heap H1 locs1 → W p l e R s m args below meth c H1 locs1 cells slots Q (F0 m (pc + 3) ls (.int r :: rest))) :
    W p l e R s m args below meth c H locs cells slots Q (F0 m pc ls st0) :=
  tr_go hr hZ hP hD hS hC fun v w1 k n H1 locs1 hq hP hD hS => by
    obtain ⟨r, rfl, rfl, rfl, hq⟩ := hq
    exact kk r w1 H1 locs1 hq hP hD hS
theorem goL0 {po : Int64 → va_W → Prop} (hr : RunK p l e R s m args below meth c H locs cells slots (F0 m pc ls st0) rest (fun st v t L k n => TrQ D cl wc (pL0 po) a st (.returned v) t L k n))
    (hZ : Sit D cl tys NX s A0) (hP : va_P D cl ws H) (hD : va_D A0 ws) (hS : va_S A0 s.heap H locs) {isC isR : List Nat} (hC : Cut ws wc wr isC isR)
    (kk : ∀ (r : Int64) (w1 : va_W) (H1 : Heap) (locs1 : List Loc), po r w1 → va_P D cl (wr ++ w1) H1 → va_D A0 (wr ++ w1) → va_S A0 s.heap H1 locs1 → W p l e R s m args below meth c H1 locs1 cells slots Q (F0 m (pc + 3) ls (.long r :: rest))) :
    W p l e R s m args below meth c H locs cells slots Q (F0 m pc ls st0) :=
  tr_go hr hZ hP hD hS hC fun v w1 k n H1 locs1 hq hP hD hS => by
    obtain ⟨r, rfl, rfl, rfl, hq⟩ := hq
    exact kk r w1 H1 locs1 hq hP hD hS
theorem goR0 {po : Nat → va_W → Prop} (hr : RunK p l e R s m args below meth c H locs cells slots (F0 m pc ls st0) rest (fun st v t L k n => TrQ D cl wc (pR0 po) a st (.returned v) t L k n))
    (hZ : Sit D cl tys NX s A0) (hP : va_P D cl ws H) (hD : va_D A0 ws) (hS : va_S A0 s.heap H locs) {isC isR : List Nat} (hC : Cut ws wc wr isC isR)
    (kk : ∀ (r : Nat) (w1 : va_W) (H1 : Heap) (locs1 : List Loc), po r w1 → va_P D cl (wr ++ w1) H1 → va_D A0 (wr ++ w1) → va_S A0 s.heap H1 locs1 → W p l e R s m args below meth c H1 locs1 cells slots Q (F0 m (pc + 3) ls (.ref r :: rest))) :
    W p l e R s m args below meth c H locs cells slots Q (F0 m pc ls st0) :=
  tr_go hr hZ hP hD hS hC fun v w1 k n H1 locs1 hq hP hD hS => by
    obtain ⟨r, rfl, rfl, rfl, hq⟩ := hq
    exact kk r w1 H1 locs1 hq hP hD hS
theorem goV0 {po : va_W → Prop} (hr : RunK p l e R s m args below meth c H locs cells slots (F0 m pc ls st0) rest (fun st v t L k n => TrQ D cl wc (pV0 po) a st (.returned v) t L k n))
    (hZ : Sit D cl tys NX s A0) (hP : va_P D cl ws H) (hD : va_D A0 ws) (hS : va_S A0 s.heap H locs) {isC isR : List Nat} (hC : Cut ws wc wr isC isR)
    (kk : ∀ (w1 : va_W) (H1 : Heap) (locs1 : List Loc), po w1 → va_P D cl (wr ++ w1) H1 → va_D A0 (wr ++ w1) → va_S A0 s.heap H1 locs1 → W p l e R s m args below meth c H1 locs1 cells slots Q (F0 m (pc + 3) ls rest)) :
    W p l e R s m args below meth c H locs cells slots Q (F0 m pc ls st0) :=
  tr_go hr hZ hP hD hS hC fun v w1 k n H1 locs1 hq hP hD hS => by
    obtain ⟨rfl, rfl, rfl, hq⟩ := hq
    exact kk w1 H1 locs1 hq hP hD hS
theorem goI {po : Int32 → va_W → Nat → Nat → Prop} (hr : RunK p l e R s m args below meth c H locs cells slots (F0 m pc ls st0) rest (fun st v t L k n => TrQ D cl wc (pI po) a st (.returned v) t L k n))
    (hZ : Sit D cl tys NX s A0) (hP : va_P D cl ws H) (hD : va_D A0 ws) (hS : va_S A0 s.heap H locs) {isC isR : List Nat} (hC : Cut ws wc wr isC isR)
    (kk : ∀ (r : Int32) (w1 : va_W) (k n : Nat) (H1 : Heap) (locs1 : List Loc), po r w1 k n → va_P D cl (wr ++ w1) H1 → va_D A0 (wr ++ w1) → va_S A0 s.heap H1 locs1 → W p l e R s m args below meth c H1 locs1 (cells + k) (slots + n) Q (F0 m (pc + 3) ls (.int r :: rest))) :
    W p l e R s m args below meth c H locs cells slots Q (F0 m pc ls st0) :=
  tr_go hr hZ hP hD hS hC fun v w1 k n H1 locs1 hq hP hD hS => by
    obtain ⟨r, rfl, hq⟩ := hq
    exact kk r w1 k n H1 locs1 hq hP hD hS
theorem goR {po : Nat → va_W → Nat → Nat → Prop} (hr : RunK p l e R s m args below meth c H locs cells slots (F0 m pc ls st0) rest (fun st v t L k n => TrQ D cl wc (pR po) a st (.returned v) t L k n))
    (hZ : Sit D cl tys NX s A0) (hP : va_P D cl ws H) (hD : va_D A0 ws) (hS : va_S A0 s.heap H locs) {isC isR : List Nat} (hC : Cut ws wc wr isC isR)
    (kk : ∀ (r : Nat) (w1 : va_W) (k n : Nat) (H1 : Heap) (locs1 : List Loc), po r w1 k n → va_P D cl (wr ++ w1) H1 → va_D A0 (wr ++ w1) → va_S A0 s.heap H1 locs1 → W p l e R s m args below meth c H1 locs1 (cells + k) (slots + n) Q (F0 m (pc + 3) ls (.ref r :: rest))) :
    W p l e R s m args below meth c H locs cells slots Q (F0 m pc ls st0) :=
  tr_go hr hZ hP hD hS hC fun v w1 k n H1 locs1 hq hP hD hS => by
    obtain ⟨r, rfl, hq⟩ := hq
    exact kk r w1 k n H1 locs1 hq hP hD hS
theorem goV {po : va_W → Nat → Nat → Prop} (hr : RunK p l e R s m args below meth c H locs cells slots (F0 m pc ls st0) rest (fun st v t L k n => TrQ D cl wc (pV po) a st (.returned v) t L k n))
    (hZ : Sit D cl tys NX s A0) (hP : va_P D cl ws H) (hD : va_D A0 ws) (hS : va_S A0 s.heap H locs) {isC isR : List Nat} (hC : Cut ws wc wr isC isR)
    (kk : ∀ (w1 : va_W) (k n : Nat) (H1 : Heap) (locs1 : List Loc), po w1 k n → va_P D cl (wr ++ w1) H1 → va_D A0 (wr ++ w1) → va_S A0 s.heap H1 locs1 → W p l e R s m args below meth c H1 locs1 (cells + k) (slots + n) Q (F0 m (pc + 3) ls rest)) :
    W p l e R s m args below meth c H locs cells slots Q (F0 m pc ls st0) :=
  tr_go hr hZ hP hD hS hC fun v w1 k n H1 locs1 hq hP hD hS => by
    obtain ⟨rfl, hq⟩ := hq
    exact kk w1 k n H1 locs1 hq hP hD hS
/-- the four kinds of call, of a triple -/
theorem trV (S : CallFix p m c cc nL s args Ts own) (hG : GoodIn Ts Ts) (hM : Tr l D cl tys Ts NX y bytes maxL ret rm (.ref b :: As) wc post) (hc : CalV Ts C y bytes maxL ret n) (hl : Cond.methodLink own index y ∈ Ts) (hR : rm.frames + 1 ≤ R.frames ∧ 8 + (maxL + 11) + rm.locals ≤ R.locals) (hZ : Sit D cl tys NX s A0) (hP : va_P D cl ws H) (hD : va_D A0 ws)
    {isC isR : List Nat} (hC : Cut ws wc wr isC isR) (q0 : Nat) {ci : Nat} {fs : List Value} {qc : vw_C} (hci : cl[ci]? = some qc) (hcn : qc.1 = C) (hq0 : ws[q0]? = some (b, .inr (ci, fs)))
    (hn : As.length = n) (hsize : ls.size = nL) (hst : st0 = As.reverse ++ .ref b :: rest) (hW : (rest.map fun v => v.category).sum ≤ 8) (hdg : decode cc pc = .ok (.invokevirtual index, 3)) (hf : cells + rm.cells ≤ R.cells ∧ slots + rm.slots ≤ R.slots) :
    RunK p l e R s m args below meth c H locs cells slots (F0 m pc ls st0) rest (fun st v t L k n => TrQ D cl wc post (Value.ref b :: As).toArray st (.returned v) t L k n) := by
  subst hcn
  exact runKV S hG hM hc hl hR ⟨TrP.blind hZ.2.2.1, va_recv hZ.1 hP hci hq0, TrP.at (av := .ref b :: As) hZ hP hD hC⟩ rfl hn hsize hst (lv_room hW) hdg hf
theorem trS (S : CallFix p m c cc nL s args Ts own) (hG : GoodIn Ts Ts) (hM : Tr l D cl tys Ts NX y bytes maxL ret rm As wc post) (hc : CalS Ts y bytes maxL ret n) (hl : Cond.methodLink own index y ∈ Ts) (hR : rm.frames + 1 ≤ R.frames ∧ 8 + (maxL + 11) + rm.locals ≤ R.locals) (hZ : Sit D cl tys NX s A0) (hP : va_P D cl ws H) (hD : va_D A0 ws)
    {isC isR : List Nat} (hC : Cut ws wc wr isC isR)
    (hn : As.length = n) (hsize : ls.size = nL) (hst : st0 = As.reverse ++ rest) (hW : (rest.map fun v => v.category).sum ≤ 8) (hdg : decode cc pc = .ok (.invokestatic index, 3)) (hf : cells + rm.cells ≤ R.cells ∧ slots + rm.slots ≤ R.slots) :
    RunK p l e R s m args below meth c H locs cells slots (F0 m pc ls st0) rest (fun st v t L k n => TrQ D cl wc post As.toArray st (.returned v) t L k n) :=
  runKS S hG hM hc hl hR ⟨TrP.blind hZ.2.2.1, TrP.at (av := As) hZ hP hD hC⟩ rfl hn hsize hst (lv_room hW) hdg hf
theorem trI (S : CallFix p m c cc nL s args Ts own) (hG : GoodIn Ts Ts) (hM : Tr l D cl tys Ts NX y bytes maxL none rm (.ref b :: As) wc post) (hc : CalI Ts y bytes maxL n) (hl : Cond.methodLink own index y ∈ Ts) (hR : rm.frames + 1 ≤ R.frames ∧ 8 + (maxL + 11) + rm.locals ≤ R.locals) (hZ : Sit D cl tys NX s A0) (hP : va_P D cl ws H) (hD : va_D A0 ws)
    {isC isR : List Nat} (hC : Cut ws wc wr isC isR)
    (hn : As.length = n) (hsize : ls.size = nL) (hst : st0 = As.reverse ++ .ref b :: rest) (hW : (rest.map fun v => v.category).sum ≤ 8) (hdg : decode cc pc = .ok (.invokespecial index, 3)) (hf : cells + rm.cells ≤ R.cells ∧ slots + rm.slots ≤ R.slots) :
    RunK p l e R s m args below meth c H locs cells slots (F0 m pc ls st0) rest (fun st v t L k n => TrQ D cl wc post (Value.ref b :: As).toArray st (.returned v) t L k n) :=
  runKI S hG hM hc hl hR ⟨TrP.blind hZ.2.2.1, TrP.at (av := .ref b :: As) hZ hP hD hC⟩ rfl hn hsize hst (lv_room hW) hdg hf
theorem trIN (S : CallFix p m c cc nL s args Ts own) (hG : GoodIn Ts Ts) (hM : Tr l D cl tys Ts NX y bytes maxL none rm (.ref b :: As) wc post) (hc : CalI Ts y bytes maxL n) (hl : Cond.methodLinkNest own index y host ∈ NX) (hR : rm.frames + 1 ≤ R.frames ∧ 8 + (maxL + 11) + rm.locals ≤ R.locals) (hZ : Sit D cl tys NX s A0) (hP : va_P D cl ws H) (hD : va_D A0 ws)
    {isC isR : List Nat} (hC : Cut ws wc wr isC isR)
    (hn : As.length = n) (hsize : ls.size = nL) (hst : st0 = As.reverse ++ .ref b :: rest) (hW : (rest.map fun v => v.category).sum ≤ 8) (hdg : decode cc pc = .ok (.invokespecial index, 3)) (hf : cells + rm.cells ≤ R.cells ∧ slots + rm.slots ≤ R.slots) :
    RunK p l e R s m args below meth c H locs cells slots (F0 m pc ls st0) rest (fun st v t L k n => TrQ D cl wc post (Value.ref b :: As).toArray st (.returned v) t L k n) :=
  runKIN S hG hM hc (hZ.2.1 _ hl) hR ⟨TrP.blind hZ.2.2.1, TrP.at (av := .ref b :: As) hZ hP hD hC⟩ rfl hn hsize hst (lv_room hW) hdg hf
end TG
/-! contracts that only read: the heap stays as it is -/
def RoQ (post : Value → Prop) : Array Value → State → Outcome → State → List Loc → Nat → Nat → Prop := fun _ st o t L k n =>
  ∃ v : Value, o = .returned (some v) ∧ post v ∧ t.heap = st.heap ∧ L = [] ∧ k = 0 ∧ n = 0
def Ro (l : Launch) (D : va_G) (cl : List vw_C) (tys : List (ClassId × FieldType)) (Ts NX : List Cond) (y : MethodName) (bytes : ByteArray) (maxL : Nat) (ret : Option FieldType) (rm : Room) (av : List Value) (wc : va_W) (post : Value → Prop) : Prop :=
  MetK l y (Cond.code y bytes maxL ret :: Ts) rm (TrP D cl tys NX av wc) (RoQ post)
section RG
variable {p : Program} {l : Launch} {e : Env} {R : Room} {s : State} {m : MethodId} {args : Array Value} {below : List Frame} {meth : Method} {c : Code} {H : Heap} {locs : List Loc} {cells slots : Nat} {Q : State → Prop}
variable {y : MethodName} {bytes cc : ByteArray} {maxL nL n index : Nat} {ret : Option FieldType} {rm : Room} {Ts NX : List Cond} {own C host : String} {b : Addr} {As rest st0 : List Value} {pc : Nat} {ls : Array Slot}
variable {D : va_G} {cl : List vw_C} {tys : List (ClassId × FieldType)} {ws wc : va_W} {A0 : Nat → Prop} {a : Array Value} {post : Value → Prop}
theorem ro_go (hr : RunK p l e R s m args below meth c H locs cells slots (F0 m pc ls st0) rest (fun st v t L k n => RoQ post a st (.returned v) t L k n))
    (kk : ∀ v : Value, post v → W p l e R s m args below meth c H locs cells slots Q (F0 m (pc + 3) ls (v :: rest))) :
    W p l e R s m args below meth c H locs cells slots Q (F0 m pc ls st0) := by
  intro T hT X
  obtain ⟨v, st₀, t, T', L, k, n, h0, X', e1, e2, ⟨v', hv, hq, hh, rfl, rfl, rfl⟩, st⟩ := hr T hT X
  cases hv
  rw [List.append_nil] at X'
  obtain ⟨t2, a1, b1⟩ := kk v' hq T' (by rw [e1, hh, h0]) X'
  exact ⟨t2, st t2 a1, b1⟩
/-- the callee's part of the caller's world -/
def Part (ws wc : va_W) (isC : List Nat) : Prop := isC.map (fun i => ws[i]?) = wc.map some ∧ va_nd isC = true
theorem TrP.part {av : List Value} (hZ : Sit D cl tys NX s A0) (hP : va_P D cl ws H) (hD : va_D A0 ws) {isC : List Nat} (hC : Part ws wc isC) :
    ∀ U : State, U.heap = H → s.WarmedH U.vm → TrP D cl tys NX av wc av.toArray U := by
  intro U hU hW
  exact ⟨rfl, by rw [hU]; exact hP.subm isC hC.1, va_K.moved hW.alike hZ.1, (hD.sub isC hC.2 hC.1).weaken (fun _ _ _ _ => trivial), hZ.2.1.warm hZ.2.2.1 hW⟩
theorem roV (S : CallFix p m c cc nL s args Ts own) (hG : GoodIn Ts Ts) (hM : Ro l D cl tys Ts NX y bytes maxL ret rm (.ref b :: As) wc post) (hc : CalV Ts C y bytes maxL ret n) (hl : Cond.methodLink own index y ∈ Ts) (hR : rm.frames + 1 ≤ R.frames ∧ 8 + (maxL + 11) + rm.locals ≤ R.locals) (hZ : Sit D cl tys NX s A0) (hP : va_P D cl ws H) (hD : va_D A0 ws)
    {isC : List Nat} (hC : Part ws wc isC) (q0 : Nat) {ci : Nat} {fs : List Value} {qc : vw_C} (hci : cl[ci]? = some qc) (hcn : qc.1 = C) (hq0 : ws[q0]? = some (b, .inr (ci, fs)))
    (hn : As.length = n) (hsize : ls.size = nL) (hst : st0 = As.reverse ++ .ref b :: rest) (hW : (rest.map fun v => v.category).sum ≤ 8) (hdg : decode cc pc = .ok (.invokevirtual index, 3)) (hf : cells + rm.cells ≤ R.cells ∧ slots + rm.slots ≤ R.slots)
    (kk : ∀ v : Value, post v → W p l e R s m args below meth c H locs cells slots Q (F0 m (pc + 3) ls (v :: rest))) : W p l e R s m args below meth c H locs cells slots Q (F0 m pc ls st0) := by
  subst hcn
  exact ro_go (runKV S hG hM hc hl hR ⟨TrP.blind hZ.2.2.1, va_recv hZ.1 hP hci hq0, TrP.part (av := .ref b :: As) hZ hP hD hC⟩ rfl hn hsize hst (lv_room hW) hdg hf) kk
theorem roS (S : CallFix p m c cc nL s args Ts own) (hG : GoodIn Ts Ts) (hM : Ro l D cl tys Ts NX y bytes maxL ret rm As wc post) (hc : CalS Ts y bytes maxL ret n) (hl : Cond.methodLink own index y ∈ Ts) (hR : rm.frames + 1 ≤ R.frames ∧ 8 + (maxL + 11) + rm.locals ≤ R.locals) (hZ : Sit D cl tys NX s A0) (hP : va_P D cl ws H) (hD : va_D A0 ws)
    {isC : List Nat} (hC : Part ws wc isC)
    (hn : As.length = n) (hsize : ls.size = nL) (hst : st0 = As.reverse ++ rest) (hW : (rest.map fun v => v.category).sum ≤ 8) (hdg : decode cc pc = .ok (.invokestatic index, 3)) (hf : cells + rm.cells ≤ R.cells ∧ slots + rm.slots ≤ R.slots)
    (kk : ∀ v : Value, post v → W p l e R s m args below meth c H locs cells slots Q (F0 m (pc + 3) ls (v :: rest))) : W p l e R s m args below meth c H locs cells slots Q (F0 m pc ls st0) :=
  ro_go (runKS S hG hM hc hl hR ⟨TrP.blind hZ.2.2.1, TrP.part (av := As) hZ hP hD hC⟩ rfl hn hsize hst (lv_room hW) hdg hf) kk
end RG
/-! the end of a method -/
def MQT (below : List Frame) (D : va_G) (cl : List vw_C) (A : Nat → Prop) (post : Option Value → va_W → Nat → Nat → Prop) (s : State) : State → Prop := fun t =>
  ∃ (v : Option Value) (w1 : va_W) (L : List Loc) (k n : Nat), t.status = .running ∧ Ended t below (.returned v) ∧ FrameEnd s (.returned v) t L k n ∧ post v w1 k n ∧ va_P D cl w1 t.heap ∧ va_D A w1 ∧ va_F A s t ∧ ∀ q ∈ L, A q.base
section TE
variable {p : Program} {l : Launch} {e : Env} {R : Room} {s : State} {m : MethodId} {args : Array Value} {below : List Frame} {meth : Method} {c : Code} {H : Heap} {locs : List Loc} {cells slots : Nat}
variable {cc : ByteArray} {pc : Nat} {ls : Array Slot} {D : va_G} {cl : List vw_C} {w1 : va_W} {A : Nat → Prop} {post : Option Value → va_W → Nat → Nat → Prop}
theorem t_ret {v : Option Value} {g : JFrame} (h : W p l e R s m args below meth c H locs cells slots (MQ below (fun _ _ o t => o = .returned v ∧ t.heap = H) args s cells slots A) g)
    (hP : va_P D cl w1 H) (hD : va_D A w1) (hS : va_S A s.heap H locs) (hq : post v w1 cells slots) : W p l e R s m args below meth c H locs cells slots (MQT below D cl A post s) g := by
  intro T hT X
  obtain ⟨t, st, o, h1, h2, ⟨rfl, hh⟩, L, hF, hL⟩ := h T hT X
  exact ⟨t, st, v, w1, L, cells, slots, h1, h2, hF, hq, by rw [hh]; exact hP, hD, hS.F hh, hL⟩
theorem t_iret (hx : p.tables.exec = Jvm.exec) (hb : c.code = cc) (hr : meth.sig.returnType = some .int) (hlk : meth.locks = false) {v : Int32} (hdg : decode cc pc = .ok (.ireturn, 1))
    (hP : va_P D cl w1 H) (hD : va_D A w1) (hS : va_S A s.heap H locs) (hq : post (some (.int v)) w1 cells slots) : W p l e R s m args below meth c H locs cells slots (MQT below D cl A post s) (F0 m pc ls [.int v]) :=
  t_ret (W.iret hx hb hr (fun t ht hW => ⟨rfl, ht⟩) hS.2.2 hdg (hlocks := hlk)) hP hD hS hq
theorem t_zret (hx : p.tables.exec = Jvm.exec) (hb : c.code = cc) (hr : meth.sig.returnType = some .boolean) (hlk : meth.locks = false) {v : Int32} (hv : narrow .boolean (.int v) = .int v) (hdg : decode cc pc = .ok (.ireturn, 1))
    (hP : va_P D cl w1 H) (hD : va_D A w1) (hS : va_S A s.heap H locs) (hq : post (some (.int v)) w1 cells slots) : W p l e R s m args below meth c H locs cells slots (MQT below D cl A post s) (F0 m pc ls [.int v]) :=
  t_ret (W.zret hx hb hr hv (fun t ht hW => ⟨rfl, ht⟩) hS.2.2 hdg (hlocks := hlk)) hP hD hS hq
theorem t_vret (hx : p.tables.exec = Jvm.exec) (hb : c.code = cc) (hr : meth.sig.returnType = none) (hlk : meth.locks = false) (hdg : decode cc pc = .ok (.return_, 1))
    (hP : va_P D cl w1 H) (hD : va_D A w1) (hS : va_S A s.heap H locs) (hq : post none w1 cells slots) : W p l e R s m args below meth c H locs cells slots (MQT below D cl A post s) (F0 m pc ls []) :=
  t_ret (W.vret hx hb hr (fun t ht hW => ⟨rfl, ht⟩) hS.2.2 hdg (hlocks := hlk)) hP hD hS hq
theorem t_lret (hx : p.tables.exec = Jvm.exec) (hb : c.code = cc) (hr : meth.sig.returnType = some .long) (hlk : meth.locks = false) {v : Int64} (hdg : decode cc pc = .ok (.lreturn, 1))
    (hP : va_P D cl w1 H) (hD : va_D A w1) (hS : va_S A s.heap H locs) (hq : post (some (.long v)) w1 cells slots) : W p l e R s m args below meth c H locs cells slots (MQT below D cl A post s) (F0 m pc ls [.long v]) :=
  t_ret (W.lret hx hb hr (fun t ht hW => ⟨rfl, ht⟩) hS.2.2 hdg (hlocks := hlk)) hP hD hS hq
theorem t_aret (hx : p.tables.exec = Jvm.exec) (hb : c.code = cc) {rt : FieldType} (hr : meth.sig.returnType = some rt) (hrt : (∃ n, rt = .object n) ∨ ∃ t, rt = .array t) (hlk : meth.locks = false) {a : Nat} (hdg : decode cc pc = .ok (.areturn, 1))
    (hP : va_P D cl w1 H) (hD : va_D A w1) (hS : va_S A s.heap H locs) (hq : post (some (.ref a)) w1 cells slots) : W p l e R s m args below meth c H locs cells slots (MQT below D cl A post s) (F0 m pc ls [.ref a]) :=
  t_ret (W.aret hx hb hr hrt (Or.inr ⟨a, rfl⟩) (fun t ht hW => ⟨rfl, ht⟩) hS.2.2 hdg (hlocks := hlk)) hP hD hS hq
end TE
theorem Tr.intro {l : Launch} {D : va_G} {cl : List vw_C} {tys : List (ClassId × FieldType)} {Ts NX : List Cond} {y : MethodName} {bytes : ByteArray} {maxL : Nat} {ret : Option FieldType} {rm : Room} {av : List Value} {wc : va_W} {post : Option Value → va_W → Nat → Nat → Prop}
    (hy : plainFor y = true) (hN : NXok NX) (hsz : (lg_sl av).length ≤ maxL)
    (body : ∀ (p : Program) (e : Env) (s : State) (m : MethodId) (args : Array Value) (below : List Frame) (meth : Method) (c : Code) (A : Nat → Prop) (ls : Array Slot),
      p.tables.exec = Jvm.exec → c.code = bytes → c.maxLocals = maxL → s.vm.findClass y.cls = some m.cls → (∀ w ∈ Ts, w.before args s = true) → meth.sig.returnType = ret → meth.locks = false → meth.name = y.name →
      Sit D cl tys NX s A → va_P D cl wc s.heap → va_D A wc → va_S A s.heap s.heap [] → lv_has ls maxL (lv_args 0 av) →
      W p l e rm s m args below meth c s.heap [] 0 0 (MQT below D cl A post s) (F0 m 0 ls [])) : Tr l D cl tys Ts NX y bytes maxL ret rm av wc post := by
  unfold Tr MetK
  refine MetFree.of_bodySF (code := bytes) (maxLocals := maxL) (ret := ret) hy ?_ ?_
  · intro args s m h hn
    obtain ⟨meth, c, h1, h2, h3, h4, h5, h6, -, -⟩ := Cond.code_spec hn (atoms_spec (ws := Cond.code y bytes maxL ret :: Ts) h _ List.mem_cons_self)
    exact ⟨meth, c, h1, h2, h3, h4, h5, h6⟩
  · intro p e s m args below meth c s₁ B hml hP _
    obtain ⟨rfl, hP, hK, hD0, hNs⟩ := hP
    have hh0 : s₁.heap = s.heap := by rw [B.state]; rfl
    have hts := atoms_spec (ws := Cond.code y bytes maxL ret :: Ts) B.pre
    have hb := body p e s m av.toArray below meth c (va_A wc s.heap.size) _ B.exec B.bytes hml (findClass_of_methodNamed B.named) (fun w hw => hts w (List.mem_cons_of_mem _ hw)) B.returns B.notSynchronized (name_of_methodNamed B.named B.method).1
      ⟨hK, hNs, hN, fun q h => Or.inr h⟩ hP (hD0.self (sz := s.heap.size)) va_S.rf (lv_entry av (n := maxL) hsz)
    rw [← lg_entry_eq] at hb
    obtain ⟨t, a1, v, w1, L, k, n, b1, b2, b3, b4, b5, b6, b7, b8⟩ := hb s₁ hh0 (Stand.of_body B)
    exact ⟨t, .returned v, a1, b1, b2, L, k, n, b3, v, w1, rfl, b4, b5, b6, b7, b8⟩
/-- the end of a method that only reads -/
def MQR (below : List Frame) (post : Value → Prop) (s : State) : State → Prop := fun t =>
  ∃ v : Value, t.status = .running ∧ Ended t below (.returned (some v)) ∧ FrameEnd s (.returned (some v)) t [] 0 0 ∧ post v ∧ t.heap = s.heap
section RE
variable {p : Program} {l : Launch} {e : Env} {R : Room} {s : State} {m : MethodId} {args : Array Value} {below : List Frame} {meth : Method} {c : Code}
variable {cc : ByteArray} {pc : Nat} {ls : Array Slot} {post : Value → Prop}
theorem r_ret {v : Value} {g : JFrame} (h : W p l e R s m args below meth c s.heap [] 0 0 (MQ below (fun _ _ o t => o = .returned (some v) ∧ t.heap = s.heap) args s 0 0 (fun _ => False)) g)
    (hq : post v) : W p l e R s m args below meth c s.heap [] 0 0 (MQR below post s) g := by
  intro T hT X
  obtain ⟨t, st, o, h1, h2, ⟨rfl, hh⟩, L, hF, hL⟩ := h T hT X
  have hn : L = [] := by
    cases L with
    | nil => rfl
    | cons q L => exact absurd (hL q List.mem_cons_self) (fun h => h)
  subst hn
  exact ⟨t, st, v, h1, h2, hF, hq, hh⟩
theorem r_iret (hx : p.tables.exec = Jvm.exec) (hb : c.code = cc) (hr : meth.sig.returnType = some .int) (hlk : meth.locks = false) {v : Int32} (hdg : decode cc pc = .ok (.ireturn, 1))
    (hq : post (.int v)) : W p l e R s m args below meth c s.heap [] 0 0 (MQR below post s) (F0 m pc ls [.int v]) :=
  r_ret (W.iret hx hb hr (fun t ht hW => ⟨rfl, ht⟩) (fun q h => by cases h) hdg (hlocks := hlk)) hq
theorem r_zret (hx : p.tables.exec = Jvm.exec) (hb : c.code = cc) (hr : meth.sig.returnType = some .boolean) (hlk : meth.locks = false) {v : Int32} (hv : narrow .boolean (.int v) = .int v) (hdg : decode cc pc = .ok (.ireturn, 1))
    (hq : post (.int v)) : W p l e R s m args below meth c s.heap [] 0 0 (MQR below post s) (F0 m pc ls [.int v]) :=
  r_ret (W.zret hx hb hr hv (fun t ht hW => ⟨rfl, ht⟩) (fun q h => by cases h) hdg (hlocks := hlk)) hq
theorem r_lret (hx : p.tables.exec = Jvm.exec) (hb : c.code = cc) (hr : meth.sig.returnType = some .long) (hlk : meth.locks = false) {v : Int64} (hdg : decode cc pc = .ok (.lreturn, 1))
    (hq : post (.long v)) : W p l e R s m args below meth c s.heap [] 0 0 (MQR below post s) (F0 m pc ls [.long v]) :=
  r_ret (W.lret hx hb hr (fun t ht hW => ⟨rfl, ht⟩) (fun q h => by cases h) hdg (hlocks := hlk)) hq
theorem r_aret (hx : p.tables.exec = Jvm.exec) (hb : c.code = cc) {rt : FieldType} (hr : meth.sig.returnType = some rt) (hrt : (∃ n, rt = .object n) ∨ ∃ t, rt = .array t) (hlk : meth.locks = false) {a : Nat} (hdg : decode cc pc = .ok (.areturn, 1))
    (hq : post (.ref a)) : W p l e R s m args below meth c s.heap [] 0 0 (MQR below post s) (F0 m pc ls [.ref a]) :=
  r_ret (W.aret hx hb hr hrt (Or.inr ⟨a, rfl⟩) (fun t ht hW => ⟨rfl, ht⟩) (fun q h => by cases h) hdg (hlocks := hlk)) hq
end RE
theorem Ro.intro {l : Launch} {D : va_G} {cl : List vw_C} {tys : List (ClassId × FieldType)} {Ts NX : List Cond} {y : MethodName} {bytes : ByteArray} {maxL : Nat} {ret : Option FieldType} {rm : Room} {av : List Value} {wc : va_W} {post : Value → Prop}
    (hy : plainFor y = true) (hN : NXok NX) (hsz : (lg_sl av).length ≤ maxL)
    (body : ∀ (p : Program) (e : Env) (s : State) (m : MethodId) (args : Array Value) (below : List Frame) (meth : Method) (c : Code) (A : Nat → Prop) (ls : Array Slot),
      p.tables.exec = Jvm.exec → c.code = bytes → c.maxLocals = maxL → s.vm.findClass y.cls = some m.cls → (∀ w ∈ Ts, w.before args s = true) → meth.sig.returnType = ret → meth.locks = false → meth.name = y.name →
      Sit D cl tys NX s A → va_P D cl wc s.heap → va_D A wc → lv_has ls maxL (lv_args 0 av) →
      W p l e rm s m args below meth c s.heap [] 0 0 (MQR below post s) (F0 m 0 ls [])) : Ro l D cl tys Ts NX y bytes maxL ret rm av wc post := by
  unfold Ro MetK
  refine MetFree.of_bodySF (code := bytes) (maxLocals := maxL) (ret := ret) hy ?_ ?_
  · intro args s m h hn
    obtain ⟨meth, c, h1, h2, h3, h4, h5, h6, -, -⟩ := Cond.code_spec hn (atoms_spec (ws := Cond.code y bytes maxL ret :: Ts) h _ List.mem_cons_self)
    exact ⟨meth, c, h1, h2, h3, h4, h5, h6⟩
  · intro p e s m args below meth c s₁ B hml hP _
    obtain ⟨rfl, hP, hK, hD0, hNs⟩ := hP
    have hh0 : s₁.heap = s.heap := by rw [B.state]; rfl
    have hts := atoms_spec (ws := Cond.code y bytes maxL ret :: Ts) B.pre
    have hb := body p e s m av.toArray below meth c (va_A wc s.heap.size) _ B.exec B.bytes hml (findClass_of_methodNamed B.named) (fun w hw => hts w (List.mem_cons_of_mem _ hw)) B.returns B.notSynchronized (name_of_methodNamed B.named B.method).1
      ⟨hK, hNs, hN, fun q h => Or.inr h⟩ hP (hD0.self (sz := s.heap.size)) (lv_entry av (n := maxL) hsz)
    rw [← lg_entry_eq] at hb
    obtain ⟨t, a1, v, b1, b2, b3, b4, b5⟩ := hb s₁ hh0 (Stand.of_body B)
    exact ⟨t, .returned (some v), a1, b1, b2, [], 0, 0, b3, v, rfl, b4, b5, rfl, rfl, rfl⟩
section TV
variable {p : Program} {l : Launch} {e : Env} {R : Room} {s : State} {m : MethodId} {args : Array Value} {below : List Frame} {meth : Method} {c : Code} {H : Heap} {locs : List Loc} {cells slots : Nat} {Q : State → Prop} {pc : Nat} {ls : Array Slot} {rest : List Value}
theorem lv_tv {x y : Int32} (h : x = y) (k : W p l e R s m args below meth c H locs cells slots Q (F0 m pc ls (.int y :: rest))) : W p l e R s m args below meth c H locs cells slots Q (F0 m pc ls (.int x :: rest)) := by
  rw [h]; exact k
theorem lv_tvl {x y : Int64} (h : x = y) (k : W p l e R s m args below meth c H locs cells slots Q (F0 m pc ls (.long y :: rest))) : W p l e R s m args below meth c H locs cells slots Q (F0 m pc ls (.long x :: rest)) := by
  rw [h]; exact k
/-- a new array of numbers, of a class of arrays that is known -/
theorem t_newa {cc : ByteArray} {D : va_G} {cl : List vw_C} {tys : List (ClassId × FieldType)} {ws : va_W} {A : Nat → Prop} (hexec : p.tables.exec = Jvm.exec) (hb : c.code = cc) {atype : ArrayType} (harr : (Cond.arrayClass (newarray.typeOf atype)).before args s = true) {ty : FieldType} (hty : newarray.typeOf atype = ty) (hK : va_K D cl tys s) (hP : va_P D cl ws H) (hD : va_D A ws) (hS : va_S A s.heap H locs) (hA : ∀ q, s.heap.size ≤ q → A q)
    (t0 : Nat) {cA : ClassId} (ht : tys[t0]? = some (cA, ty)) {n : Int32} {N' : Nat} {a0 : vp_A} (ha : ∀ cA : ClassId, vp_cell cA a0 = arrV cA N' (fun _ => defaultValue ty)) (hn : ¬ n < 0) (hN : n.toNatClampNeg = N') (hbytes : N' * componentBytes ty ≤ 536870912) (hcells : cells + 1 ≤ R.cells) (hslots : slots + N' ≤ R.slots) (hdg : decode cc pc = .ok (.newarray atype, 2))
    (kk : ∀ (q : Nat) (H1 : Heap), va_P D cl (ws ++ [(q, .inl (cA, a0))]) H1 → va_D A (ws ++ [(q, .inl (cA, a0))]) → va_S A s.heap H1 locs →
      W p l e R s m args below meth c H1 locs (cells + 1) (slots + N') Q (F0 m (pc + 2) ls (.ref q :: rest))) : W p l e R s m args below meth c H locs cells slots Q (F0 m pc ls (.int n :: rest)) := by
  refine va_newa hexec hb harr hty hK hP hD hS hA ha hn hN hbytes hcells hslots hdg (fun q cA' H1 hK' hP' hD' hS' => ?_)
  have h1 := (hK.2 t0 _ ht).2
  have h2 := (hK'.2 tys.length (cA', ty) (by rw [List.getElem?_append_right (Nat.le_refl _), Nat.sub_self]; rfl)).2
  have hc : cA' = cA := by
    subst hty
    cases atype <;> exact Option.some.inj (h2.symm.trans h1)
  subst hc
  exact kk q H1 hP' hD' hS'
end TV
